/-! A QUERY ANSWERED for each card -/
/-- the reference's stack of answers -/
def RS (τ : zt_S) : List Bool → Prop
  | [] => True
  | a :: r => τ.1 183 (r.length : Int) = bv a ∧ RS τ r
section QA
variable {σ τ : zt_S} {E : List ST} {cv : ST → Bool} {L : Int64} {c : Int}
theorem bvn (a : Bool) : bv a = ((if a = true then 1 else 0 : Nat) : Int) := by
  unfold bv
  split <;> rfl
theorem vln {st : List Bool} {k : Int} (h : 0 ≤ vl st ∧ vl st < k) (hk : k ≤ 1000000) : ∃ m : Nat, vl st = (m : Int) ∧ m < 1000000 := ⟨(vl st).toNat, by omega, by omega⟩
theorem j_xor {a : Bool} {r : List Bool} (h : 0 ≤ vl r ∧ vl r < 1000000) : zt_xor (vl (a :: r)) 1 = vl ((!a) :: r) := by
  obtain ⟨m, e, hm⟩ := vln h (Int.le_refl _)
  rw [vl, vl, e, bvn, bvn]
  have q := q_xor (m := m) (b := if a = true then 1 else 0) (by split <;> omega) hm
  have l : (2 * (m : Int) + ((if a = true then 1 else 0 : Nat) : Int)) = ((2 * m + (if a = true then 1 else 0) : Nat) : Int) := by omega
  rw [l, q]
  cases a <;> simp
theorem j_shr {a : Bool} {r : List Bool} (h : 0 ≤ vl r ∧ vl r < 100000) : zt_shr (vl (a :: r)) 1 = vl r := by
  obtain ⟨m, e, hm⟩ := vln h (by decide)
  have b := bv_lt a
  rw [vl, e]
  obtain ⟨n, hn⟩ : ∃ n : Nat, 2 * (m : Int) + bv a = (n : Int) := ⟨(2 * (m : Int) + bv a).toNat, by omega⟩
  rw [hn, q_shr (by omega)]
  omega
theorem j_and {a b : Bool} {r : List Bool} (h : 0 ≤ vl r ∧ vl r < 10000) : zt_and (zt_shr (vl (a :: b :: r)) 1) (zt_or (vl (a :: b :: r)) (-2)) = vl ((b && a) :: r) := by
  obtain ⟨m, e, hm⟩ := vln h (by decide)
  have b1 := bv_lt b
  have h2 : 0 ≤ vl (b :: r) ∧ vl (b :: r) < 100000 := by rw [vl]; omega
  obtain ⟨n, e2, hn⟩ := vln h2 (by decide)
  rw [j_shr h2]
  have l1 : vl (b :: r) = ((2 * m + (if b = true then 1 else 0) : Nat) : Int) := by rw [vl, e, bvn]; omega
  have l2 : vl (a :: b :: r) = ((2 * n + (if a = true then 1 else 0) : Nat) : Int) := by rw [vl, e2, bvn]; omega
  rw [l1, l2, q_and (by split <;> omega) (by split <;> omega) hm, vl, e, bvn]
  cases a <;> cases b <;> simp
theorem j_or {a b : Bool} {r : List Bool} (h : 0 ≤ vl r ∧ vl r < 10000) : zt_or (zt_shr (vl (a :: b :: r)) 1) (zt_and (vl (a :: b :: r)) 1) = vl ((b || a) :: r) := by
  obtain ⟨m, e, hm⟩ := vln h (by decide)
  have b1 := bv_lt b
  have h2 : 0 ≤ vl (b :: r) ∧ vl (b :: r) < 100000 := by rw [vl]; omega
  obtain ⟨n, e2, hn⟩ := vln h2 (by decide)
  rw [j_shr h2]
  have l1 : vl (b :: r) = ((2 * m + (if b = true then 1 else 0) : Nat) : Int) := by rw [vl, e, bvn]; omega
  have l2 : vl (a :: b :: r) = ((2 * n + (if a = true then 1 else 0) : Nat) : Int) := by rw [vl, e2, bvn]; omega
  rw [l2, q_and1 (by split <;> omega), l1, q_or (by split <;> omega) (by split <;> omega) hm, vl, e, bvn]
  cases a <;> cases b <;> simp
theorem j_push {a : Bool} {st : List Bool} (h : 0 ≤ vl st ∧ vl st < 100000) : zt_or (zt_shl (vl st) 1) (bv a) = vl (a :: st) := by
  obtain ⟨m, e, hm⟩ := vln h (by decide)
  have q := q_or (m := m) (b := 0) (c := if a = true then 1 else 0) (by omega) (by split <;> omega) hm
  rw [Nat.add_zero] at q
  rw [e, q_shl hm, bvn, q, vl, e, bvn]
  cases a <;> simp
theorem e_cmps {x : ST} {w : Int → Int} (hs : x.1 = 60 ∨ x.1 = 61 ∨ x.1 = 62) (h1 : zt_in (vv w c x.2.1)) (h2 : zt_in (vv w c x.2.2)) : F_QR_compares x.1 (vv w c x.2.1) (vv w c x.2.2) σ = some (bv (cw w c x), σ) := by
  unfold F_QR_compares F_QR_compares_16 F_QR_compares_46 cw bv
  rw [zt_ckI (by unfold zt_in; omega)]
  by_cases a : x.1 = 60
  · rw [if_pos a, if_pos a, zt_ckI ⟨h1, h2⟩]
    by_cases y : vv w c x.2.1 < vv w c x.2.2
    · rw [if_pos y, zt_ckI (Or.inr rfl), decide_eq_true y]; rfl
    · rw [if_neg y, zt_ckI (Or.inl rfl), decide_eq_false y]; rfl
  · rw [if_neg a, if_neg a, zt_ckI (by unfold zt_in; omega)]
    by_cases b : x.1 = 62
    · rw [if_pos b, if_pos b, zt_ckI ⟨h1, h2⟩]
      by_cases y : vv w c x.2.2 < vv w c x.2.1
      · rw [if_pos y, zt_ckI (Or.inr rfl), decide_eq_true y]; rfl
      · rw [if_neg y, zt_ckI (Or.inl rfl), decide_eq_false y]; rfl
    · rw [if_neg b, if_neg b, zt_ckI ⟨h1, h2⟩]
      by_cases y : vv w c x.2.1 = vv w c x.2.2
      · rw [if_pos y, zt_ckI (Or.inr rfl), decide_eq_true y]; rfl
      · rw [if_neg y, zt_ckI (Or.inl rfl), decide_eq_false y]; rfl
theorem SC.app : ∀ (A T : List ST), SC σ (A ++ T) → SC σ T
  | [], _, h => h
  | _ :: A, T, h => SC.app A T h.2
theorem okE.app : ∀ (A T : List ST), okE (A ++ T) → okE T
  | [], _, h => h
  | _ :: A, T, h => okE.app A T h.1
theorem e_holds {c : Int} (hc : CO σ) (h0 : 0 ≤ c ∧ c < 4 * σ.1 164 0) (hL : ∀ c, 0 ≤ c → c < 64 → hb L c = (decide (c < 4 * σ.1 164 0) && wLg (σ.1 164) c)) (hn : σ.1 140 4 = (E.length : Int)) (hl : (E.length : Int) ≤ 200) (hs : SC σ E) (ho : okE E) : ∀ (U T : List ST) (f : Nat), E = U.reverse ++ T → U.length < f → F_QR_holds_6 6 f c L (vl (ev (cw (σ.1 164) c) T)) (T.length : Int) σ = F_QR_holds_148 6 (vl (ev (cw (σ.1 164) c) E)) σ
  | U, _, 0, _, h1 => absurd h1 (Nat.not_lt_zero _)
  | [], T, f + 1, h, h1 => by
    have e : E = T := by rw [h]; rfl
    rw [F_QR_holds_6, hn, e, zt_ckI ⟨by unfold zt_in; rw [← e]; omega, by unfold zt_in; rw [← e]; omega⟩, if_neg (by omega)]
  | x :: U, T, f + 1, h, h1 => by
    have e : E = U.reverse ++ (x :: T) := by rw [h]; simp
    have ih := e_holds hc h0 hL hn hl hs ho U (x :: T) f e (by simp at h1; omega)
    have lt : (T.length : Int) < (E.length : Int) := by rw [e]; simp; omega
    have lx : ((x :: T).length : Int) = (T.length : Int) + 1 := by simp
    have sx := SC.app U.reverse (x :: T) (by rw [← e]; exact hs)
    have ox := okE.app U.reverse (x :: T) (by rw [← e]; exact ho)
    have cx := sx.1 (by omega)
    obtain ⟨o1, o2, o3, o4⟩ := ox
    have len := ok_len (cv := cw (σ.1 164) c) T o1
    have v15 := vl_15 (st := ev (cw (σ.1 164) c) T) (by omega)
    rw [lx] at ih
    rw [F_QR_holds_6, hn, zt_ckI ⟨by unfold zt_in; omega, by unfold zt_in; omega⟩, if_pos lt, be_at (by omega) (by decide), cx.1]
    unfold F_QR_holds_142
    rw [ev] at ih
    unfold stp at ih
    by_cases a1 : x.1 = 1
    · rw [zt_ckI (by unfold zt_in; omega), if_pos a1]
      rw [if_pos a1] at ih
      have d := o2 a1
      match he : ev (cw (σ.1 164) c) T with
      | [] => rw [he] at len; simp at len; omega
      | b :: r =>
        rw [he] at ih v15
        dsimp only at ih
        have rl : 0 ≤ vl r ∧ vl r < 1000000 := by rw [vl] at v15; have := bv_lt b; omega
        rw [j_xor rl]
        exact ih
    · rw [if_neg a1] at ih
      by_cases a2 : x.1 = 2
      · rw [zt_ckI (by unfold zt_in; omega), if_neg a1, zt_ckI (by unfold zt_in; omega), if_pos a2]
        rw [if_pos a2] at ih
        have d := o3 (Or.inl a2)
        match he : ev (cw (σ.1 164) c) T with
        | [] => rw [he] at len; simp at len; omega
        | [b] => rw [he] at len; simp at len; omega
        | b :: b2 :: r =>
          rw [he] at ih len
          dsimp only at ih
          have r13 := vl_lt r 13 (by simp at len; omega)
          rw [j_and ⟨r13.1, by omega⟩]
          exact ih
      · rw [if_neg a2] at ih
        by_cases a3 : x.1 = 3
        · rw [zt_ckI (by unfold zt_in; omega), if_neg a1, zt_ckI (by unfold zt_in; omega), if_neg a2, zt_ckI (by unfold zt_in; omega), if_pos a3]
          rw [if_pos a3] at ih
          have d := o3 (Or.inr a3)
          match he : ev (cw (σ.1 164) c) T with
          | [] => rw [he] at len; simp at len; omega
          | [b] => rw [he] at len; simp at len; omega
          | b :: b2 :: r =>
            rw [he] at ih len
            dsimp only at ih
            have r13 := vl_lt r 13 (by simp at len; omega)
            rw [j_or ⟨r13.1, by omega⟩]
            exact ih
        · rw [if_neg a3] at ih
          have d := o4 ⟨a1, a2, a3⟩
          have vi1 := vv_in hc.1 h0 d.2.2.1
          have vi2 := vv_in hc.1 h0 d.2.2.2
          unfold F_QR_holds_139 F_QR_holds_142
          rw [zt_ckI (by unfold zt_in; omega), if_neg a1, zt_ckI (by unfold zt_in; omega), if_neg a2, zt_ckI (by unfold zt_in; omega), if_neg a3, be_at (by omega) (by decide), cx.2.1, e_vv hc h0 d.2.2.1 hL, zt_bdS, be_at (by omega) (by decide), cx.2.2, e_vv hc h0 d.2.2.2 hL, zt_bdS, e_cmps d.2.1 (by unfold zt_in; omega) (by unfold zt_in; omega), zt_bdS]
          have jp := j_push (a := cw (σ.1 164) c x) (st := ev (cw (σ.1 164) c) T) ⟨v15.1, by omega⟩
          rw [← ih, ← jp]
          unfold bv
          by_cases y : cw (σ.1 164) c x = true
          · rw [if_pos y, zt_ckI (by decide), if_neg (by decide)]
          · rw [if_neg y, zt_ckI (by decide), if_pos rfl]
theorem e_holds_0 {c : Int} {a : Bool} (hc : CO σ) (h0 : 0 ≤ c ∧ c < 4 * σ.1 164 0) (hL : ∀ c, 0 ≤ c → c < 64 → hb L c = (decide (c < 4 * σ.1 164 0) && wLg (σ.1 164) c)) (hn : σ.1 140 4 = (E.length : Int)) (hl : (E.length : Int) ≤ 200) (hs : SC σ E) (ho : okE E) (he : ev (cw (σ.1 164) c) E = [a]) : F_QR_holds 6 c L σ = some (bv a, σ) := by
  have k := e_holds hc h0 hL hn hl hs ho E.reverse [] zt_N (by simp) (by have := zN (m := 1000) (by omega); simp; omega)
  have z : vl (ev (cw (σ.1 164) c) ([] : List ST)) = 0 := rfl
  have zl : ((([] : List ST).length : Nat) : Int) = 0 := rfl
  rw [z, zl] at k
  unfold F_QR_holds
  rw [k, he]
  unfold F_QR_holds_148 F_QR_holds_160 vl vl bv
  cases a
  · rw [show zt_and (2 * 0 + (if false = true then 1 else 0)) 1 = 0 by decide, if_pos rfl, zt_ckI (Or.inl rfl)]; rfl
  · rw [show zt_and (2 * 0 + (if true = true then 1 else 0)) 1 = 1 by decide, if_neg (by decide), zt_ckI (Or.inr rfl)]; rfl
end QA
