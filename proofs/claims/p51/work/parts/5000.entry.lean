/-! THE LAW'S ENTRY: what stands behind both constructors, told again in the order of the typed state -/
section BW
theorem bt_vlen : ∀ (vs : List Value) (ks : List Nat), bt_vs vs ks = true → vs.length = ks.length
  | [], [], _ => rfl
  | [], _ :: _, h => by simp [bt_vs] at h
  | _ :: _, [], h => by simp [bt_vs] at h
  | e :: es, k :: ks, h => by
    rw [bt_vs, Bool.and_eq_true] at h
    rw [List.length_cons, List.length_cons, bt_vlen es ks h.2]
theorem bt_vat : ∀ (vs : List Value) (ks : List Nat), bt_vs vs ks = true → ∀ (c : Nat) (v : Value) (k : Nat), vs[c]? = some v → ks[c]? = some k → bt_v v k = true
  | [], _, _, c, e, k, h1, _ => by simp at h1
  | _ :: _, [], h, _, _, _, _, _ => by simp [bt_vs] at h
  | e0 :: es, k0 :: ks, h, c, e, k, h1, h2 => by
    rw [bt_vs, Bool.and_eq_true] at h
    cases c with
    | zero =>
      rw [List.getElem?_cons_zero] at h1 h2
      cases h1; cases h2
      exact h.1
    | succ c =>
      rw [List.getElem?_cons_succ] at h1 h2
      exact bt_vat es ks h.2 c e k h1 h2
/-- the typed state that a heap of the shape stands for -/
def bt_S (M : List va_E) : zt_S := (fun c j => bt_i M c j.toNat, fun c j => bt_l M c j.toNat, fun _ => 0, 0)
theorem bt_ce {M : List va_E} {c : Nat} {e : va_E} {k : zt_K} (hg : ∀ (t n : Nat) (f : Nat → Option Nat), M[c]? = some (.inl (t, n, .inr (.inr (.inr (.inr f))))) → zt_g c = f) (he : M[c]? = some e) (h : bt_c e k = true) : e = zt_ce (bt_S M) c k := by
  unfold bt_c at h
  split at h
  · rename_i t n f t' n'
    obtain ⟨h0, h2, h1, h4, h5, h6⟩ := of_decide_eq_true h
    subst h0; subst h2
    unfold zt_ce
    dsimp only
    rw [if_neg h1, if_neg h4, if_neg (fun (z : t = 5 ∨ t = 6) => z.elim h5 h6)]
    refine congrArg (fun z => Sum.inl (t, n, Sum.inl z)) (funext fun j => ?_)
    show f j = Int32.ofInt (bt_i M c ((j : Int).toNat))
    unfold bt_i
    rw [he, Int.toNat_natCast]
    exact (Int32.ofInt_toInt _).symm
  · rename_i t n f t' n'
    obtain ⟨h0, h1, h2⟩ := of_decide_eq_true h
    subst h0; subst h1; subst h2
    unfold zt_ce
    dsimp only
    rw [if_pos rfl]
    refine congrArg (fun z => Sum.inl (1, n, Sum.inr (Sum.inl z))) (funext fun j => ?_)
    show f j = bt_l M c ((j : Int).toNat)
    unfold bt_l
    rw [he, Int.toNat_natCast]
  · rename_i t n f t' n'
    obtain ⟨h0, h1, h2⟩ := of_decide_eq_true h
    subst h1; subst h2
    unfold zt_ce
    dsimp only
    rw [if_neg (fun (z : t = 1) => by rcases h0 with y | y <;> (rw [y] at z; exact absurd z (by decide))), if_neg (fun (z : t = 4) => by rcases h0 with y | y <;> (rw [y] at z; exact absurd z (by decide))), if_pos h0, hg _ _ _ he]
  · rename_i ci fs ci' ks
    rw [Bool.and_eq_true] at h
    obtain ⟨h0, h1⟩ := h
    have h0 := of_decide_eq_true h0
    subst h0
    unfold zt_ce
    dsimp only
    refine congrArg (fun z => Sum.inr (ci, z)) (List.ext_getElem? fun j => ?_)
    rw [List.getElem?_mapIdx]
    have hl := bt_vlen _ _ h1
    cases hf : fs[j]? with
    | none =>
      have : ks[j]? = none := List.getElem?_eq_none (by rw [← hl]; exact List.getElem?_eq_none_iff.mp hf)
      rw [this]
      rfl
    | some v =>
      obtain ⟨k, hk⟩ : ∃ k, ks[j]? = some k := ⟨_, List.getElem?_eq_getElem (by rw [← hl]; exact (List.getElem?_eq_some_iff.mp hf).1)⟩
      have hv := bt_vat _ _ h1 j v k hf hk
      rw [hk]
      refine congrArg some ?_
      unfold bt_v at hv
      split at hv
      · show _ = Value.int (Int32.ofInt (bt_i M c ((j : Int).toNat)))
        unfold bt_i
        rw [he, Int.toNat_natCast]
        dsimp only
        rw [hf]
        dsimp only
        rw [Int32.ofInt_toInt]
      · show _ = Value.long (bt_l M c ((j : Int).toNat))
        unfold bt_l
        rw [he, Int.toNat_natCast]
        dsimp only
        rw [hf]
      · have := of_decide_eq_true hv
        subst this
        rfl
      · cases hv
  · cases h
end BW
/-- the law's two cells -/
def en_T : zt_T := (2, fun i => if i = 0 then 2 else 600, fun _ _ => 0)
def en_S : zt_S := bt_S zt_N1
theorem en_TW : TW en_T [] := ⟨⟨Nat.le_refl _, by decide⟩, rfl, rfl⟩
theorem en_TI : TI en_T := ⟨Nat.le_refl _, rfl, by decide⟩
theorem en_b0 {M : List va_E} (h : bt_inA M = true) : (bt_S M).1 0 1 = 0 := by
  unfold bt_inA at h
  simp only [Bool.and_eq_true] at h
  have s : bt_i M 0 1 = 0 := of_decide_eq_true (List.all_eq_true.mp h.2.2.2.2.1 (0, 1, 0) (by decide))
  exact s
theorem en_b : en_S.1 0 1 = 0 := en_b0 bt_A.2.2.2.2
theorem en_N : zt_sh.mapIdx (fun c k => zt_ce en_S c k) = zt_N1 := by
  obtain ⟨-, -, hl, hc, -⟩ := bt_A
  have hs := bt_len _ _ hc
  apply List.ext_getElem?
  intro c
  rw [List.getElem?_mapIdx]
  cases he : zt_N1[c]? with
  | none =>
    have : zt_sh[c]? = none := List.getElem?_eq_none (by rw [← hs]; exact List.getElem?_eq_none_iff.mp he)
    rw [this]
    rfl
  | some e =>
    obtain ⟨k, hk⟩ : ∃ k, zt_sh[c]? = some k := ⟨_, List.getElem?_eq_getElem (by rw [← hs]; exact (List.getElem?_eq_some_iff.mp he).1)⟩
    have h2 := bt_at _ _ hc c e k he hk
    rw [hk]
    refine congrArg some (bt_ce (M := zt_N1) (fun t n f hf => ?_) he h2).symm
    unfold zt_g
    rw [hf]
    rfl
theorem en_M {N2 : List va_E} (h : zt_N1 = N2.map zt_une) (hl : N2.length = 163) : (zt_M en_T en_S).1.length = 165 ∧ (zt_M en_T en_S).2 = (165, 21386) ∧ ∀ k, (zt_M en_T en_S).1[k]? = if k < 165 then ((zt_A2 ++ N2)[zt_iv k]?).map zt_une else none := by
  have e1 : (zt_M en_T en_S).1 = zt_N1 ++ zt_Tl en_T := by
    show zt_H en_T en_S = _
    unfold zt_H
    rw [en_N]
  have tl : zt_Tl en_T = [.inr (11, [.ref 164, .int 0]), .inl (0, 600, .inl (fun _ => 0))] := rfl
  have n1 : zt_N1.length = 163 := by rw [h, List.length_map, hl]
  refine ⟨by rw [e1, tl, List.length_append, n1]; rfl, rfl, fun k => ?_⟩
  rw [e1, tl]
  by_cases h1 : k < 163
  · have ek : zt_iv k = k + 2 := by unfold zt_iv; rw [if_pos h1]
    rw [if_pos (by omega), ek, List.getElem?_append_left (by rw [n1]; exact h1), h, List.getElem?_map, List.getElem?_append_right (by show 2 ≤ k + 2; omega)]
    rfl
  · by_cases h2 : k = 163
    · subst h2
      rw [if_pos (by decide), List.getElem?_append_right (by rw [n1]; decide), n1]
      rfl
    · by_cases h3 : k = 164
      · subst h3
        rw [if_pos (by decide), List.getElem?_append_right (by rw [n1]; decide), n1]
        rfl
      · rw [if_neg (by omega), List.getElem?_eq_none (by rw [List.length_append, n1]; show 163 + 2 ≤ k; omega)]
theorem iv_un (i : Nat) : zt_iv (zt_un i) = i := by
  unfold zt_un zt_iv
  by_cases h1 : i < 2
  · rw [if_pos h1, if_neg (by omega), if_pos (by omega)]; omega
  · rw [if_neg h1]
    by_cases h2 : i < 165
    · rw [if_pos h2, if_pos (by omega)]; omega
    · rw [if_neg h2, if_neg (by omega), if_neg (by omega)]
theorem iv_lt {k : Nat} (h : k < 165) : zt_iv k < 165 := by
  unfold zt_iv
  by_cases h1 : k < 163
  · rw [if_pos h1]; omega
  · rw [if_neg h1, if_pos h]; omega
theorem iv_in {j k : Nat} (hj : j < 165) (hk : k < 165) (h : zt_iv j = zt_iv k) : j = k := by
  unfold zt_iv at h
  by_cases h1 : j < 163 <;> by_cases h2 : k < 163
  · rw [if_pos h1, if_pos h2] at h; omega
  · rw [if_pos h1, if_neg h2, if_pos hk] at h; omega
  · rw [if_neg h1, if_pos hj, if_pos h2] at h; omega
  · rw [if_neg h1, if_neg h2, if_pos hj, if_pos hk] at h; omega
theorem iv_bg {i : Nat} (h : q_big ≤ i) : zt_iv i = i := by
  have b : 165 ≤ q_big := Nat.le_of_ble_eq_true rfl
  unfold zt_iv
  rw [if_neg (by omega), if_neg (by omega)]
theorem tv_rp (ad : Nat → Nat) (v : Value) : q_tv (fun j => ad (zt_iv j)) (zt_unv v) = q_tv ad v := by
  cases v <;> first | rfl | (show Value.ref (ad (zt_iv (zt_un _))) = Value.ref (ad _); rw [iv_un])
theorem te_rp (ad : Nat → Nat) (tc : Nat → ClassId) (e : va_E) : q_te (fun j => ad (zt_iv j)) tc (zt_une e) = q_te ad tc e := by
  rcases e with ⟨t, n, f | f | f | f | f⟩ | ⟨ci, fs⟩
  · rfl
  · rfl
  · rfl
  · rfl
  · show (Sum.inl (tc t, n, .inr (.inr (.inr (.inr (fun j => ((f j).map zt_un).map (fun j => ad (zt_iv j))))))) : va_E) = Sum.inl (tc t, n, .inr (.inr (.inr (.inr (fun j => (f j).map ad)))))
    refine congrArg (fun (z : Nat → Option Nat) => (Sum.inl (tc t, n, Sum.inr (Sum.inr (Sum.inr (Sum.inr z)))) : va_E)) (funext fun j => ?_)
    cases f j with
    | none => rfl
    | some i => show some (ad (zt_iv (zt_un i))) = some (ad i); rw [iv_un]
  · show (Sum.inr (ci, (fs.map zt_unv).map (q_tv (fun j => ad (zt_iv j)))) : va_E) = Sum.inr (ci, fs.map (q_tv ad))
    rw [List.map_map]
    refine congrArg (fun z => Sum.inr (ci, z)) (List.map_congr_left (fun v _ => tv_rp ad v))
theorem un_ok {i : Nat} (h : i < 165 ∨ q_big ≤ i) : zt_un i < 165 ∨ q_big ≤ zt_un i := by
  have b : 165 ≤ q_big := Nat.le_of_ble_eq_true rfl
  unfold zt_un
  by_cases h1 : i < 2
  · rw [if_pos h1]; omega
  · rw [if_neg h1]
    by_cases h2 : i < 165
    · rw [if_pos h2]; omega
    · rw [if_neg h2]; exact h
theorem vv_un {v : Value} (h : q_vv 165 v) : q_vv 165 (zt_unv v) := by
  cases v with
  | ref i =>
    intro j hj
    have hj : zt_un i = j := by cases hj; rfl
    rw [← hj]
    exact un_ok (h i rfl)
  | _ => exact h
theorem ve_un {e : va_E} (h : q_ve 165 e) : q_ve 165 (zt_une e) := by
  rcases e with ⟨t, n, f | f | f | f | f⟩ | ⟨ci, fs⟩
  · trivial
  · trivial
  · trivial
  · trivial
  · intro j i hi
    have h : ∀ (j i : Nat), f j = some i → i < 165 ∨ q_big ≤ i := h
    dsimp only at hi
    cases hf : f j with
    | none => rw [hf] at hi; cases hi
    | some i0 =>
      rw [hf] at hi
      have hi : zt_un i0 = i := by cases hi; rfl
      rw [← hi]
      exact un_ok (h j i0 hf)
  · intro v hv
    obtain ⟨v0, h0, rfl⟩ := List.mem_map.mp hv
    exact vv_un (h v0 h0)
