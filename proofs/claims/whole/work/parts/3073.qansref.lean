/-! A QUERY ANSWERED, the reference's side -/
theorem zl_20 : (20 : Int64) = zt_l 20 := by decide
theorem zl_25 : (25 : Int64) = zt_l 25 := by decide
/-- only the answers have changed -/
def FA (τ τ' : zt_S) : Prop := (∀ c j, c ≠ 183 → τ'.1 c j = τ.1 c j) ∧ τ'.2 = τ.2
section QB
variable {σ τ : zt_S} {E : List ST} {cv : ST → Bool} {c : Int} {f : Nat}
theorem FA.rf : FA τ τ := ⟨fun _ _ _ => rfl, rfl⟩
theorem FA.tr {a b c : zt_S} (h : FA a b) (g : FA b c) : FA a c := ⟨fun x j h1 => by rw [g.1 x j h1, h.1 x j h1], g.2.trans h.2⟩
theorem FA.up {j v : Int} : FA τ (zt_up τ 183 j v) := ⟨fun c i h => up_o (Or.inl h), rfl⟩
theorem RS.ag {τ' : zt_S} : ∀ (S : List Bool), (∀ j, 0 ≤ j → j < (S.length : Int) → τ'.1 183 j = τ.1 183 j) → RS τ S → RS τ' S
  | [], _, _ => trivial
  | x :: T, e, h => by
    have l : ((x :: T).length : Int) = (T.length : Int) + 1 := by simp
    exact ⟨by rw [e _ (by omega) (by omega)]; exact h.1, RS.ag T (fun j a b => e j a (by omega)) h.2⟩
theorem EK.app : ∀ (A T : List Int), EK σ (A ++ T) → EK σ T
  | [], _, h => h
  | _ :: A, T, h => EK.app A T h.2
theorem enc_app : ∀ (A T : List ST), enc (A ++ T) = enc A ++ enc T
  | [], _ => rfl
  | x :: A, T => by
    show encx x ++ enc (A ++ T) = (encx x ++ enc A) ++ enc T
    rw [enc_app A T, List.append_assoc]
/-- one code of a value -/
theorem em_val {v k i : Int} (h : RI (τ.1 164)) (h0 : 0 ≤ c ∧ c < 4 * τ.1 164 0) (hv : -8 ≤ v ∧ v ≤ 9999) (hi : 0 ≤ i ∧ i < τ.1 163 35) (hn : τ.1 163 35 ≤ 200) (e : τ.1 181 i = vE v) (hk : 0 ≤ k ∧ k < 200) : F_M_holds_4 (f + 1) c k i τ = F_M_holds_4 f c (k + 1) (i + 1) (zt_up τ 183 k (vv (τ.1 164) c v)) := by
  have vr : (0 ≤ vE v ∧ vE v ≤ 7) ∨ (100 ≤ vE v ∧ vE v ≤ 10099) := by unfold vE; split <;> omega
  rw [F_M_holds_4, zt_ckI ⟨by unfold zt_in; omega, by unfold zt_in; omega⟩, if_pos hi.2, zt_ckI (by omega), e, zt_ckI (by unfold zt_in; omega), if_neg (by omega), zl_20, zl_25, em_in (by unfold zt_in; omega) (by decide) (by decide), zt_bdS, if_neg (by omega), zt_ckI (by decide), if_pos rfl, zt_ckI (by unfold zt_in; omega)]
  unfold F_M_holds_131 F_M_holds_135
  by_cases n : v < 0
  · have e2 : vE v = -1 - v := if_pos n
    rw [if_pos (by omega), e2, em_vv h h0 ⟨hv.1, n⟩, zt_bdS, zt_ckI (by omega), zt_letS]
  · have e2 : vE v = 100 + v := if_neg n
    have e3 : vv (τ.1 164) c v = v := by
      unfold vv
      rw [if_neg (by omega), if_neg (by omega), if_neg (by omega), if_neg (by omega), if_neg (by omega), if_neg (by omega), if_neg (by omega), if_neg (by omega)]
    rw [if_neg (by omega), e2, e3, show 100 + v - 100 = v by omega, zt_ckI (by omega), zt_letS]
/-- one code that joins -/
theorem em_join {g k i x y : Int} {a : Bool} (hg : (20 ≤ g ∧ g ≤ 22) ∨ g = 24 ∨ g = 25) (hi : 0 ≤ i ∧ i < τ.1 163 35) (hn : τ.1 163 35 ≤ 200) (e : τ.1 181 i = g) (hk : 2 ≤ k ∧ k < 200) (ex : τ.1 183 (k - 2) = x) (ey : τ.1 183 (k - 1) = y) (hj : F_M_joined g x y τ = some (bv a, τ)) : F_M_holds_4 (f + 1) c k i τ = F_M_holds_4 f c (k - 1) (i + 1) (zt_up τ 183 (k - 2) (bv a)) := by
  rw [F_M_holds_4, zt_ckI ⟨by unfold zt_in; omega, by unfold zt_in; omega⟩, if_pos hi.2, zt_ckI (by omega), e, zt_ckI (by unfold zt_in; omega), if_neg (by omega), zl_20, zl_25, em_in (by unfold zt_in; omega) (by decide) (by decide), zt_bdS, if_pos (by omega), zt_ckI (by decide), if_neg (by decide), show k + -1 - 1 = k - 2 by omega, show k + -1 = k - 1 by omega, zt_ckI (by omega), zt_ckI (by omega), ex, ey, hj, zt_bdS]
  unfold F_M_holds_100 F_M_holds_135 bv
  by_cases h : a = true
  · rw [if_pos h, zt_ckI (by decide), if_neg (by decide), zt_ckI (by omega), zt_letS]
  · rw [if_neg h, zt_ckI (by decide), if_pos rfl, zt_ckI (by omega), zt_letS]
theorem em_jc {x : ST} {w : Int → Int} (hs : x.1 = 60 ∨ x.1 = 61 ∨ x.1 = 62) (h1 : zt_in (vv w c x.2.1)) (h2 : zt_in (vv w c x.2.2)) : F_M_joined (sgE x.1) (vv w c x.2.1) (vv w c x.2.2) τ = some (bv (cw w c x), τ) := by
  unfold F_M_joined F_M_joined_46 F_M_joined_57 F_M_joined_68 cw sgE bv
  rcases hs with a | a | a
  · rw [a, zt_ckI (by decide), if_pos rfl, if_pos rfl, if_pos rfl, zt_ckI ⟨h1, h2⟩]
    by_cases y : vv w c x.2.1 < vv w c x.2.2
    · rw [if_pos y, zt_ckI (Or.inr rfl), decide_eq_true y]; rfl
    · rw [if_neg y, zt_ckI (Or.inl rfl), decide_eq_false y]; rfl
  · rw [a, if_neg (show ¬ (61 : Int) = 60 by decide), if_neg (show ¬ (61 : Int) = 62 by decide), zt_ckI (by decide), if_neg (by decide), if_pos rfl, zt_ckI ⟨h1, h2⟩, if_neg (show ¬ (61 : Int) = 60 by decide), if_neg (show ¬ (61 : Int) = 62 by decide)]
    by_cases y : vv w c x.2.1 = vv w c x.2.2
    · rw [if_pos y, zt_ckI (Or.inr rfl), decide_eq_true y]; rfl
    · rw [if_neg y, zt_ckI (Or.inl rfl), decide_eq_false y]; rfl
  · rw [a, if_neg (show ¬ (62 : Int) = 60 by decide), if_pos rfl, zt_ckI (by decide), if_neg (by decide), if_neg (by decide), if_pos rfl, zt_ckI ⟨h1, h2⟩, if_neg (show ¬ (62 : Int) = 60 by decide), if_pos rfl]
    by_cases y : vv w c x.2.2 < vv w c x.2.1
    · rw [if_pos y, zt_ckI (Or.inr rfl), decide_eq_true y]; rfl
    · rw [if_neg y, zt_ckI (Or.inl rfl), decide_eq_false y]; rfl
theorem em_ja {a b : Bool} : F_M_joined 24 (bv b) (bv a) τ = some (bv (b && a), τ) := by
  unfold F_M_joined F_M_joined_81
  rw [zt_ckI (by decide), if_neg (by decide), if_neg (by decide), if_neg (by decide), if_neg (by decide), if_pos rfl]
  cases a <;> cases b <;> rfl
theorem em_jo {a b : Bool} : F_M_joined 25 (bv b) (bv a) τ = some (bv (b || a), τ) := by
  unfold F_M_joined F_M_joined_93
  rw [zt_ckI (by decide), if_neg (by decide), if_neg (by decide), if_neg (by decide), if_neg (by decide), if_neg (by decide)]
  cases a <;> cases b <;> rfl
theorem em_holds_4 {w : Int → Int} (hw : RI w) (h0 : 0 ≤ c ∧ c < 4 * w 0) (hl : ((enc E).length : Int) ≤ 200) (ho : okE E) : ∀ (U T : List ST) (f : Nat) (τ : zt_S), E = U.reverse ++ T → 3 * U.length < f → τ.1 164 = w → τ.1 163 35 = ((enc E).length : Int) → EK τ (enc E) → RS τ (ev (cw w c) T) → ∃ τ', F_M_holds_4 f c ((ev (cw w c) T).length : Int) ((enc T).length : Int) τ = F_M_holds_141 τ' ∧ RS τ' (ev (cw w c) E) ∧ FA τ τ'
  | U, _, 0, _, _, h1, _, _, _, _ => absurd h1 (Nat.not_lt_zero _)
  | [], T, f + 1, τ, h, h1, h2, h3, h4, h5 => by
    have e : E = T := by rw [h]; rfl
    subst e
    refine ⟨τ, ?_, h5, FA.rf⟩
    rw [F_M_holds_4, h3, zt_ckI ⟨by unfold zt_in; omega, by unfold zt_in; omega⟩, if_neg (by omega)]
  | x :: U, T, f + 1, τ, h, h1, h2, h3, h4, h5 => by
    have e : E = U.reverse ++ (x :: T) := by rw [h]; simp
    have ee : enc E = enc U.reverse ++ (encx x ++ enc T) := by rw [e, enc_app]; rfl
    have el : ((enc E).length : Int) = ((enc U.reverse).length : Int) + (((encx x).length : Int) + ((enc T).length : Int)) := by rw [ee]; simp
    have kx : EK τ (encx x ++ enc T) := EK.app (enc U.reverse) _ (by rw [← ee]; exact h4)
    have ox := okE.app U.reverse (x :: T) (by rw [← e]; exact ho)
    obtain ⟨o1, o2, o3, o4⟩ := ox
    have len := ok_len (cv := cw w c) T o1
    have ul3 : 3 * U.length + 2 < f := by simp at h1; omega
    have ul : 3 * U.length < f := by omega
    have lx : ((enc (x :: T)).length : Int) = ((encx x).length : Int) + ((enc T).length : Int) := by
      show ((encx x ++ enc T).length : Int) = _
      simp
    have ih := fun τ2 a1 a2 a3 a4 => em_holds_4 hw h0 hl ho U (x :: T) f τ2 e ul a1 a2 a3 a4
    have hw' : RI (τ.1 164) := by rw [h2]; exact hw
    have h0' : 0 ≤ c ∧ c < 4 * τ.1 164 0 := by rw [h2]; exact h0
    rw [ev] at ih
    unfold stp at ih
    unfold encx at kx el lx
    by_cases a1 : x.1 = 1
    · rw [if_pos a1] at ih kx el lx
      have d := o2 a1
      match he : ev (cw w c) T with
      | [] => rw [he] at len; simp at len; omega
      | b :: r =>
        rw [he] at ih h5 len
        dsimp only at ih
        have l1 : ((b :: r : List Bool).length : Int) = (r.length : Int) + 1 := by simp
        have l2 : (((!b) :: r : List Bool).length : Int) = (r.length : Int) + 1 := by simp
        have k1 : τ.1 181 ((enc T).length : Int) = 23 := kx.1
        have c1 : (([23] : List Int).length : Int) = 1 := rfl
        rw [l2, lx, c1] at ih
        rw [l1, F_M_holds_4, h3, zt_ckI ⟨by unfold zt_in; omega, by unfold zt_in; omega⟩, if_pos (by omega), zt_ckI (by omega), k1, zt_ckI (by decide), if_pos rfl, show (r.length : Int) + 1 - 1 = r.length by omega, zt_ckI (by omega), zt_ckI (by omega), zt_letS, h5.1]
        unfold F_M_holds_135
        obtain ⟨τ', g1, g2, g3⟩ := ih (zt_up τ 183 (r.length : Int) (1 - bv b)) (by rw [up_f (by decide)]; exact h2) (by rw [up_o (by omega)]; exact h3) (EK.ag _ (fun j _ _ => up_o (by omega)) h4) ⟨by rw [up_s]; cases b <;> rfl, RS.ag _ (fun j j0 j1 => up_o (by omega)) h5.2⟩
        refine ⟨τ', ?_, g2, FA.up.tr g3⟩
        rw [show ((enc T).length : Int) + 1 = 1 + ((enc T).length : Int) by omega]
        exact g1
    · rw [if_neg a1] at ih kx el lx
      by_cases a2 : x.1 = 2
      · rw [if_pos a2] at ih kx el lx
        have d := o3 (Or.inl a2)
        match he : ev (cw w c) T with
        | [] => rw [he] at len; simp at len; omega
        | [b] => rw [he] at len; simp at len; omega
        | b :: b2 :: r =>
          rw [he] at ih h5 len
          dsimp only at ih
          have l1 : ((b :: b2 :: r : List Bool).length : Int) = (r.length : Int) + 2 := by simp; omega
          have l2 : (((b2 && b) :: r : List Bool).length : Int) = (r.length : Int) + 1 := by simp
          have k1 : τ.1 181 ((enc T).length : Int) = 24 := kx.1
          have c1 : (([24] : List Int).length : Int) = 1 := rfl
          have q1 : τ.1 183 ((r.length : Int) + 1) = bv b := by
            have := h5.1
            rw [show (((b2 :: r : List Bool).length : Nat) : Int) = (r.length : Int) + 1 by simp] at this
            exact this
          have q2 : τ.1 183 (r.length : Int) = bv b2 := h5.2.1
          rw [l2, lx, c1] at ih
          rw [l1, em_join (f := f) (g := 24) (x := bv b2) (y := bv b) (a := b2 && b) (by omega) (by omega) (by omega) k1 (by omega) (by rw [show (r.length : Int) + 2 - 2 = r.length by omega]; exact q2) (by rw [show (r.length : Int) + 2 - 1 = (r.length : Int) + 1 by omega]; exact q1) em_ja, show (r.length : Int) + 2 - 2 = r.length by omega, show (r.length : Int) + 2 - 1 = (r.length : Int) + 1 by omega]
          obtain ⟨τ', g1, g2, g3⟩ := ih (zt_up τ 183 (r.length : Int) (bv (b2 && b))) (by rw [up_f (by decide)]; exact h2) (by rw [up_o (by omega)]; exact h3) (EK.ag _ (fun j _ _ => up_o (by omega)) h4) ⟨up_s _ _ _ _, RS.ag _ (fun j j0 j1 => up_o (by omega)) h5.2.2⟩
          refine ⟨τ', ?_, g2, FA.up.tr g3⟩
          rw [show ((enc T).length : Int) + 1 = 1 + ((enc T).length : Int) by omega]
          exact g1
      · rw [if_neg a2] at ih kx el lx
        by_cases a3 : x.1 = 3
        · rw [if_pos a3] at ih kx el lx
          have d := o3 (Or.inr a3)
          match he : ev (cw w c) T with
          | [] => rw [he] at len; simp at len; omega
          | [b] => rw [he] at len; simp at len; omega
          | b :: b2 :: r =>
            rw [he] at ih h5 len
            dsimp only at ih
            have l1 : ((b :: b2 :: r : List Bool).length : Int) = (r.length : Int) + 2 := by simp; omega
            have l2 : (((b2 || b) :: r : List Bool).length : Int) = (r.length : Int) + 1 := by simp
            have k1 : τ.1 181 ((enc T).length : Int) = 25 := kx.1
            have c1 : (([25] : List Int).length : Int) = 1 := rfl
            have q1 : τ.1 183 ((r.length : Int) + 1) = bv b := by
              have := h5.1
              rw [show (((b2 :: r : List Bool).length : Nat) : Int) = (r.length : Int) + 1 by simp] at this
              exact this
            have q2 : τ.1 183 (r.length : Int) = bv b2 := h5.2.1
            rw [l2, lx, c1] at ih
            rw [l1, em_join (f := f) (g := 25) (x := bv b2) (y := bv b) (a := b2 || b) (by omega) (by omega) (by omega) k1 (by omega) (by rw [show (r.length : Int) + 2 - 2 = r.length by omega]; exact q2) (by rw [show (r.length : Int) + 2 - 1 = (r.length : Int) + 1 by omega]; exact q1) em_jo, show (r.length : Int) + 2 - 2 = r.length by omega, show (r.length : Int) + 2 - 1 = (r.length : Int) + 1 by omega]
            obtain ⟨τ', g1, g2, g3⟩ := ih (zt_up τ 183 (r.length : Int) (bv (b2 || b))) (by rw [up_f (by decide)]; exact h2) (by rw [up_o (by omega)]; exact h3) (EK.ag _ (fun j _ _ => up_o (by omega)) h4) ⟨up_s _ _ _ _, RS.ag _ (fun j j0 j1 => up_o (by omega)) h5.2.2⟩
            refine ⟨τ', ?_, g2, FA.up.tr g3⟩
            rw [show ((enc T).length : Int) + 1 = 1 + ((enc T).length : Int) by omega]
            exact g1
        · rw [if_neg a3] at ih kx el lx
          have d := o4 ⟨a1, a2, a3⟩
          have vi1 := vv_in hw h0 d.2.2.1
          have vi2 := vv_in hw h0 d.2.2.2
          obtain ⟨n, hn⟩ : ∃ n : Int, n = ((enc T).length : Int) := ⟨_, rfl⟩
          obtain ⟨k, hk⟩ : ∃ k : Int, k = ((ev (cw w c) T).length : Int) := ⟨_, rfl⟩
          have c3 : (([sgE x.1, vE x.2.2, vE x.2.1] : List Int).length : Int) = 3 := rfl
          have k1 : τ.1 181 (n + 2) = sgE x.1 := by
            have l : (((vE x.2.2 :: vE x.2.1 :: enc T : List Int).length : Nat) : Int) = n + 2 := by simp; omega
            rw [← l]
            exact kx.1
          have k2 : τ.1 181 (n + 1) = vE x.2.2 := by
            have l : (((vE x.2.1 :: enc T : List Int).length : Nat) : Int) = n + 1 := by simp; omega
            rw [← l]
            exact kx.2.1
          have k3 : τ.1 181 n = vE x.2.1 := by rw [hn]; exact kx.2.2.1
          rw [lx, c3] at ih
          have lc : (((cw w c x) :: ev (cw w c) T : List Bool).length : Int) = k + 1 := by simp; omega
          rw [lc] at ih
          obtain ⟨f1, rfl⟩ : ∃ f1, f = f1 + 1 + 1 := ⟨f - 2, by omega⟩
          have ul1 : 3 * U.length < f1 := by omega
          have ih := fun τ2 a1 a2 a3 a4 => em_holds_4 hw h0 hl ho U (x :: T) f1 τ2 e ul1 a1 a2 a3 a4
          rw [ev] at ih
          unfold stp at ih
          rw [if_neg a1, if_neg a2, if_neg a3, lc] at ih
          have lx2 : ((enc (x :: T)).length : Int) = 3 + n := by rw [lx, c3, hn]
          rw [lx2] at ih
          rw [← hn, ← hk, em_val (f := f1 + 1 + 1) hw' h0' d.2.2.1 (by omega) (by omega) k3 (by omega)]
          obtain ⟨τ1, hτ1⟩ : ∃ t, t = zt_up τ 183 k (vv (τ.1 164) c x.2.1) := ⟨_, rfl⟩
          have e1 : τ1.1 164 = w := by rw [hτ1, up_f (by decide)]; exact h2
          rw [← hτ1, em_val (f := f1 + 1) (v := x.2.2) (by rw [e1]; exact hw) (by rw [e1]; exact h0) d.2.2.2 (by rw [hτ1, up_o (by omega)]; omega) (by rw [hτ1, up_o (by omega)]; omega) (by rw [hτ1, up_o (by omega)]; exact k2) (by omega), e1]
          obtain ⟨τ2, hτ2⟩ : ∃ t, t = zt_up τ1 183 (k + 1) (vv w c x.2.2) := ⟨_, rfl⟩
          have p1 : τ2.1 183 k = vv w c x.2.1 := by rw [hτ2, up_o (by omega), hτ1, up_s, h2]
          have p2 : τ2.1 183 (k + 1) = vv w c x.2.2 := by rw [hτ2, up_s]
          have sg : 20 ≤ sgE x.1 ∧ sgE x.1 ≤ 22 := by unfold sgE; repeat' split
                                                      all_goals omega
          have e35 : τ2.1 163 35 = ((enc E).length : Int) := by rw [hτ2, up_o (by omega), hτ1, up_o (by omega)]; exact h3
          rw [← hτ2, em_join (f := f1) (τ := τ2) (g := sgE x.1) (x := vv w c x.2.1) (y := vv w c x.2.2) (a := cw w c x) (Or.inl sg) (by rw [e35]; omega) (by rw [e35]; omega) (by rw [hτ2, up_o (by omega), hτ1, up_o (by omega), show n + 1 + 1 = n + 2 by omega]; exact k1) (by omega) (by rw [show k + 1 + 1 - 2 = k by omega]; exact p1) (by rw [show k + 1 + 1 - 1 = k + 1 by omega]; exact p2) (em_jc d.2.1 (by unfold zt_in; omega) (by unfold zt_in; omega)), show k + 1 + 1 - 2 = k by omega, show k + 1 + 1 - 1 = k + 1 by omega, show n + 1 + 1 + 1 = 3 + n by omega]
          obtain ⟨τ', g1, g2, g3⟩ := ih (zt_up τ2 183 k (bv (cw w c x))) (by rw [up_f (by decide), hτ2, up_f (by decide)]; exact e1) (by rw [up_o (by omega)]; exact e35) (EK.ag _ (fun j _ _ => by rw [up_o (by omega), hτ2, up_o (by omega), hτ1, up_o (by omega)]) h4) ⟨by rw [← hk]; exact up_s _ _ _ _, RS.ag _ (fun j j0 j1 => by rw [up_o (by omega), hτ2, up_o (by omega), hτ1, up_o (by omega)]) h5⟩
          refine ⟨τ', g1, g2, ?_⟩
          rw [hτ2, hτ1] at g3
          exact ((FA.up.tr FA.up).tr FA.up).tr g3
theorem em_holds_0 {w : Int → Int} {a : Bool} (hw : RI w) (h0 : 0 ≤ c ∧ c < 4 * w 0) (hl : ((enc E).length : Int) ≤ 200) (hle : (E.length : Int) ≤ 200) (ho : okE E) (h2 : τ.1 164 = w) (h3 : τ.1 163 35 = ((enc E).length : Int)) (h4 : EK τ (enc E)) (he : ev (cw w c) E = [a]) : ∃ τ', F_M_holds c τ = some (bv a, τ') ∧ FA τ τ' := by
  obtain ⟨τ', g1, g2, g3⟩ := em_holds_4 hw h0 hl ho E.reverse [] zt_N τ (by simp) (by have := zN (m := 1000) (by omega); simp; omega) h2 h3 h4 trivial
  have z1 : (((ev (cw w c) ([] : List ST)).length : Nat) : Int) = 0 := rfl
  have z2 : (((enc ([] : List ST)).length : Nat) : Int) = 0 := rfl
  rw [z1, z2] at g1
  rw [he] at g2
  refine ⟨τ', ?_, g3⟩
  unfold F_M_holds
  rw [g1]
  have q : τ'.1 183 0 = bv a := g2.1
  unfold F_M_holds_141 F_M_holds_156
  rw [q]
  cases a
  · rw [zt_ckI (by decide), if_neg (by decide), zt_ckI (Or.inl rfl)]; rfl
  · rw [zt_ckI (by decide), if_pos (show bv true = 1 from rfl), zt_ckI (Or.inr rfl)]; rfl
end QB
