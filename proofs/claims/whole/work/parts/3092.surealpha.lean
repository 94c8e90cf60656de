/-! SURE: windows -/
def sAB (lo hi v r : Int) : Prop := (lo < v → v < hi → r = v) ∧ (v ≤ lo → v ≤ r ∧ r ≤ lo) ∧ (hi ≤ v → hi ≤ r ∧ r ≤ v)
theorem sAB.own {lo hi M b x r : Int} (h : lo < hi ∨ (hi < 0 ∧ lo < 0)) (hb : M = -1 ∧ b = -1 ∨ 0 ≤ M ∧ 0 ≤ b ∧ sAB lo hi M b ∧ b < hi) (hx : 0 ≤ x) (hr : sAB (if lo < b then b else lo) hi x r) : sAB lo hi (if M = -1 ∨ M < x then x else M) (if b = -1 ∨ b < r then r else b) := by
  unfold sAB at *
  by_cases y1 : lo < b
  · rw [if_pos y1] at hr
    by_cases y2 : M = -1 ∨ M < x
    · rw [if_pos y2]
      by_cases y3 : b = -1 ∨ b < r
      · rw [if_pos y3]; refine ⟨fun _ _ => ?_, fun _ => ?_, fun _ => ?_⟩ <;> omega
      · rw [if_neg y3]; refine ⟨fun _ _ => ?_, fun _ => ?_, fun _ => ?_⟩ <;> omega
    · rw [if_neg y2]
      by_cases y3 : b = -1 ∨ b < r
      · rw [if_pos y3]; refine ⟨fun _ _ => ?_, fun _ => ?_, fun _ => ?_⟩ <;> omega
      · rw [if_neg y3]; refine ⟨fun _ _ => ?_, fun _ => ?_, fun _ => ?_⟩ <;> omega
  · rw [if_neg y1] at hr
    by_cases y2 : M = -1 ∨ M < x
    · rw [if_pos y2]
      by_cases y3 : b = -1 ∨ b < r
      · rw [if_pos y3]; refine ⟨fun _ _ => ?_, fun _ => ?_, fun _ => ?_⟩ <;> omega
      · rw [if_neg y3]; refine ⟨fun _ _ => ?_, fun _ => ?_, fun _ => ?_⟩ <;> omega
    · rw [if_neg y2]
      by_cases y3 : b = -1 ∨ b < r
      · rw [if_pos y3]; refine ⟨fun _ _ => ?_, fun _ => ?_, fun _ => ?_⟩ <;> omega
      · rw [if_neg y3]; refine ⟨fun _ _ => ?_, fun _ => ?_, fun _ => ?_⟩ <;> omega
theorem sAB.oth {lo hi M b x r : Int} (h : lo < hi ∨ (hi < 0 ∧ lo < 0)) (hb : M = -1 ∧ b = -1 ∨ 0 ≤ M ∧ 0 ≤ b ∧ sAB lo hi M b ∧ lo < b) (hx : 0 ≤ x) (hr : sAB lo (if ¬ b = -1 ∧ b < hi then b else hi) x r) : sAB lo hi (if M = -1 ∨ x < M then x else M) (if b = -1 ∨ r < b then r else b) := by
  unfold sAB at *
  by_cases y1 : ¬ b = -1 ∧ b < hi
  · rw [if_pos y1] at hr
    by_cases y2 : M = -1 ∨ x < M
    · rw [if_pos y2]
      by_cases y3 : b = -1 ∨ r < b
      · rw [if_pos y3]; refine ⟨fun _ _ => ?_, fun _ => ?_, fun _ => ?_⟩ <;> omega
      · rw [if_neg y3]; refine ⟨fun _ _ => ?_, fun _ => ?_, fun _ => ?_⟩ <;> omega
    · rw [if_neg y2]
      by_cases y3 : b = -1 ∨ r < b
      · rw [if_pos y3]; refine ⟨fun _ _ => ?_, fun _ => ?_, fun _ => ?_⟩ <;> omega
      · rw [if_neg y3]; refine ⟨fun _ _ => ?_, fun _ => ?_, fun _ => ?_⟩ <;> omega
  · rw [if_neg y1] at hr
    by_cases y2 : M = -1 ∨ x < M
    · rw [if_pos y2]
      by_cases y3 : b = -1 ∨ r < b
      · rw [if_pos y3]; refine ⟨fun _ _ => ?_, fun _ => ?_, fun _ => ?_⟩ <;> omega
      · rw [if_neg y3]; refine ⟨fun _ _ => ?_, fun _ => ?_, fun _ => ?_⟩ <;> omega
    · rw [if_neg y2]
      by_cases y3 : b = -1 ∨ r < b
      · rw [if_pos y3]; refine ⟨fun _ _ => ?_, fun _ => ?_, fun _ => ?_⟩ <;> omega
      · rw [if_neg y3]; refine ⟨fun _ _ => ?_, fun _ => ?_, fun _ => ?_⟩ <;> omega
theorem sAB.sh {lo hi v r g : Int} (h : sAB (lo - g) (hi - g) v r) : sAB lo hi (g + v) (r + g) := by
  unfold sAB at *
  refine ⟨fun _ _ => ?_, fun _ => ?_, fun _ => ?_⟩ <;> omega
/-- the next legal card -/
def nl (lg : Int → Bool) : Nat → Int → Int
  | 0, v => v
  | k + 1, v => if lg v = true then v else nl lg k (v + 1)
theorem nl_v {lg : Int → Bool} : ∀ (k : Nat) (v : Int), v ≤ nl lg k v ∧ nl lg k v ≤ v + k ∧ (∀ x, v ≤ x → x < nl lg k v → ¬ lg x = true) ∧ (nl lg k v < v + k → lg (nl lg k v) = true)
  | 0, v => ⟨Int.le_refl _, by rw [nl]; omega, fun x a b => by rw [nl] at b; omega, fun z => by rw [nl] at z; omega⟩
  | k + 1, v => by
    have ih := nl_v (lg := lg) k (v + 1)
    rw [nl]
    by_cases l : lg v = true
    · rw [if_pos l]
      exact ⟨Int.le_refl _, by omega, fun x a b => by omega, fun _ => l⟩
    · rw [if_neg l]
      refine ⟨by omega, by omega, fun x a b => ?_, fun z => ih.2.2.2 (by omega)⟩
      by_cases e : x = v
      · rw [e]; exact l
      · exact ih.2.2.1 x (by omega) b
section SA
variable {w u : Int → Int} {c q : Int} {σ τ : zt_S}
theorem em_nextLegal (hp : PI (σ.1 164)) {v : Int} (hv : 0 ≤ v ∧ v ≤ 4 * σ.1 164 0) : F_M_nextLegal v σ = some (nl (wLg (σ.1 164)) (4 * σ.1 164 0 - v).toNat v, σ) := by
  have n := hp.n
  have g : ∀ (k f : Nat) (v : Int), v + k = 4 * σ.1 164 0 → k < f → 0 ≤ v → F_M_nextLegal_2 f v σ = some (nl (wLg (σ.1 164)) k v, σ) := by
    intro k
    induction k with
    | zero =>
      intro f v h0 h1 h2
      obtain ⟨f, rfl⟩ : ∃ f1, f = f1 + 1 := ⟨f - 1, by omega⟩
      rw [F_M_nextLegal_2]
      unfold F_M_cards F_M_nextLegal_24
      rw [zt_bdS, zt_ckI ⟨by unfold zt_in; omega, by unfold zt_in; omega⟩, if_neg (by omega)]
      rfl
    | succ k ih =>
      intro f v h0 h1 h2
      obtain ⟨f, rfl⟩ : ∃ f1, f = f1 + 1 := ⟨f - 1, by omega⟩
      rw [F_M_nextLegal_2]
      unfold F_M_cards F_M_nextLegal_24
      rw [zt_bdS, zt_ckI ⟨by unfold zt_in; omega, by unfold zt_in; omega⟩, if_pos (by omega), pm_isLegalNow hp ⟨h2, by omega⟩, zt_bdS, nl]
      by_cases l : wLg (σ.1 164) v = true
      · rw [if_pos l, zt_ckI (by decide), if_neg (by decide), if_pos l]
      · rw [if_neg l, zt_ckI (by decide), if_pos rfl, if_neg l]
        exact ih f (v + 1) (by omega) (by omega) (by omega)
  unfold F_M_nextLegal
  exact g _ zt_N v (by omega) (zN (by omega)) hv.1
/-- a level of the reference's search -/
def LV (σ : zt_S) (d lo hi own nx b : Int) : Prop := σ.1 170 d = lo ∧ σ.1 171 d = hi ∧ σ.1 172 d = own ∧ σ.1 173 d = nx ∧ σ.1 174 d = b
def FD (d : Int) (σ τ : zt_S) : Prop := (∀ x j, x ≠ 164 → (x < 170 ∨ 179 < x ∨ j < d) → (x ≠ 163 ∨ j ≠ 29) → τ.1 x j = σ.1 x j) ∧ (0 < d → τ.1 163 29 = σ.1 163 29) ∧ τ.2 = σ.2
theorem FD.rf {d : Int} : FD d σ σ := ⟨fun _ _ _ _ _ => rfl, fun _ => rfl, rfl⟩
theorem FD.tr {d : Int} {a b c : zt_S} (h : FD d a b) (g : FD d b c) : FD d a c := ⟨fun x j h1 h2 h3 => by rw [g.1 x j h1 h2 h3, h.1 x j h1 h2 h3], fun z => by rw [g.2.1 z, h.2.1 z], g.2.2.trans h.2.2⟩
theorem FD.up {d : Int} (h : FD (d + 1) σ τ) (hd : 0 ≤ d) : FD d σ τ := ⟨fun x j h1 h2 h3 => h.1 x j h1 (by omega) h3, fun _ => h.2.1 (by omega), h.2.2⟩
/-- what a level's best becomes; whether the rest is cut -/
def wb (own b r : Int) : Int := if b = -1 ∨ (own = 1 ∧ b < r) ∨ (own = 0 ∧ r < b) then r else b
def ct (own lo hi G b : Int) : Prop := (own = 1 ∧ (hi ≤ b ∨ b = G)) ∨ (own = 0 ∧ (b ≤ lo ∨ b = 0))
theorem em_weighs {d lo hi own nx b r : Int} (hd : 0 ≤ d ∧ d < 13) (h : LV σ d lo hi own nx b) (ho : own = 0 ∨ own = 1) (hb : zt_in b) (hr : zt_in r) (hl : zt_in lo) (hh : zt_in hi) (hp : PI (σ.1 164)) : ∃ τ, F_M_weighs d r σ = some ((), τ) ∧ τ.1 164 = σ.1 164 ∧ (ct own lo hi (σ.1 164 2 - σ.1 164 13) (wb own b r) → LV τ d lo hi own (4 * σ.1 164 0) (wb own b r)) ∧ (¬ ct own lo hi (σ.1 164 2 - σ.1 164 13) (wb own b r) → LV τ d lo hi own nx (wb own b r)) ∧ FD d σ τ ∧ (d = 0 → τ.1 163 29 = if b = -1 ∨ (own = 1 ∧ b < r) ∨ (own = 0 ∧ r < b) then σ.1 175 0 else σ.1 163 29) ∧ (∀ j, 175 ≤ j → j ≤ 179 → ∀ i, τ.1 j i = σ.1 j i) := by
  have n := hp.n
  have p13 := hp.p13
  have pl := hp.pl
  obtain ⟨l1, l2, l3, l4, l5⟩ := id h
  have zo : zt_in own := by unfold zt_in; omega
  have o1 : ¬ own = 0 → own = 1 := fun z => by omega
  have d0 : 0 ≤ d ∧ d < ((13 : Nat) : Int) := by omega
  -- the cut
  have t63 : ∀ (s : zt_S) (b' : Int), LV s d lo hi own nx b' → zt_in b' → s.1 164 = σ.1 164 → ∃ τ, F_M_weighs_63 d s = some ((), τ) ∧ τ.1 164 = σ.1 164 ∧ (ct own lo hi (σ.1 164 2 - σ.1 164 13) b' → LV τ d lo hi own (4 * σ.1 164 0) b') ∧ (¬ ct own lo hi (σ.1 164 2 - σ.1 164 13) b' → LV τ d lo hi own nx b') ∧ (∀ x j, (x ≠ 173 ∨ j ≠ d) → τ.1 x j = s.1 x j) ∧ τ.2 = s.2 := by
    intro s b' ⟨m1, m2, m3, m4, m5⟩ hb' e
    have cut : ct own lo hi (σ.1 164 2 - σ.1 164 13) b' → ∃ τ, F_M_weighs_147 d 1 s = some ((), τ) ∧ τ.1 164 = σ.1 164 ∧ (ct own lo hi (σ.1 164 2 - σ.1 164 13) b' → LV τ d lo hi own (4 * σ.1 164 0) b') ∧ (¬ ct own lo hi (σ.1 164 2 - σ.1 164 13) b' → LV τ d lo hi own nx b') ∧ (∀ x j, (x ≠ 173 ∨ j ≠ d) → τ.1 x j = s.1 x j) ∧ τ.2 = s.2 := by
      intro hc
      refine ⟨zt_up s 173 d (4 * σ.1 164 0), ?_, ?_, fun _ => ⟨?_, ?_, ?_, ?_, ?_⟩, fun z => absurd hc z, fun x j hx => up_o (by omega), rfl⟩
      · unfold F_M_weighs_147 F_M_weighs_162 F_M_cards
        rw [zt_ckI (by decide), if_neg (by decide), zt_bdS, zt_ckI (by omega), zt_letS, e]
      · rw [up_f (by decide)]; exact e
      · rw [up_o (by omega)]; exact m1
      · rw [up_o (by omega)]; exact m2
      · rw [up_o (by omega)]; exact m3
      · rw [up_s]
      · rw [up_o (by omega)]; exact m5
    have go : ¬ ct own lo hi (σ.1 164 2 - σ.1 164 13) b' → ∃ τ, F_M_weighs_147 d 0 s = some ((), τ) ∧ τ.1 164 = σ.1 164 ∧ (ct own lo hi (σ.1 164 2 - σ.1 164 13) b' → LV τ d lo hi own (4 * σ.1 164 0) b') ∧ (¬ ct own lo hi (σ.1 164 2 - σ.1 164 13) b' → LV τ d lo hi own nx b') ∧ (∀ x j, (x ≠ 173 ∨ j ≠ d) → τ.1 x j = s.1 x j) ∧ τ.2 = s.2 := by
      intro hc
      refine ⟨s, ?_, e, fun z => absurd z hc, fun _ => ⟨m1, m2, m3, m4, m5⟩, fun _ _ _ => rfl, rfl⟩
      unfold F_M_weighs_147 F_M_weighs_162
      rw [zt_ckI (by decide), if_pos rfl]
    unfold F_M_weighs_63 F_M_weighs_142 F_M_weighs_110
    rw [zt_ckI (by omega), m3, zt_ckI (by unfold zt_in; omega), m5, m1, m2, e]
    by_cases o0 : own = 0
    · rw [if_pos o0, zt_ckI (by omega), zt_ckI (by omega), zt_ckI ⟨hb', hl⟩]
      by_cases c1 : lo < b'
      · rw [if_pos c1, zt_ckI (by omega), zt_ckI hb']
        by_cases c2 : b' = 0
        · rw [if_pos c2]; exact cut (Or.inr ⟨o0, Or.inr c2⟩)
        · rw [if_neg c2]; exact go (fun z => by rcases z with z | z <;> omega)
      · rw [if_neg c1]; exact cut (Or.inr ⟨o0, Or.inl (by omega)⟩)
    · rw [if_neg o0, zt_ckI (by omega), zt_ckI (by omega), zt_ckI ⟨hb', hh⟩]
      by_cases c1 : b' < hi
      · rw [if_pos c1, zt_ckI (by omega), zt_ckI ⟨hb', by unfold zt_in; omega⟩]
        by_cases c2 : b' = σ.1 164 2 - σ.1 164 13
        · rw [if_pos c2]; exact cut (Or.inl ⟨by omega, Or.inr c2⟩)
        · rw [if_neg c2]; exact go (fun z => by rcases z with z | z <;> omega)
      · rw [if_neg c1]; exact cut (Or.inl ⟨by omega, Or.inl (by omega)⟩)
  have better : (b = -1 ∨ (own = 1 ∧ b < r) ∨ (own = 0 ∧ r < b)) → ∃ τ, F_M_weighs_42 d r σ = some ((), τ) ∧ τ.1 164 = σ.1 164 ∧ (ct own lo hi (σ.1 164 2 - σ.1 164 13) (wb own b r) → LV τ d lo hi own (4 * σ.1 164 0) (wb own b r)) ∧ (¬ ct own lo hi (σ.1 164 2 - σ.1 164 13) (wb own b r) → LV τ d lo hi own nx (wb own b r)) ∧ FD d σ τ ∧ (d = 0 → τ.1 163 29 = if b = -1 ∨ (own = 1 ∧ b < r) ∨ (own = 0 ∧ r < b) then σ.1 175 0 else σ.1 163 29) ∧ (∀ j, 175 ≤ j → j ≤ 179 → ∀ i, τ.1 j i = σ.1 j i) := by
    intro hB
    have eb : wb own b r = r := if_pos hB
    rw [eb, if_pos hB]
    obtain ⟨s, hs⟩ : ∃ s, s = (if d = 0 then zt_up (zt_up σ 174 d r) 163 29 (σ.1 175 0) else zt_up σ 174 d r) := ⟨_, rfl⟩
    have s0 : ∀ x j, (x ≠ 174 ∨ j ≠ d) → (x ≠ 163 ∨ j ≠ 29) → s.1 x j = σ.1 x j := fun x j a1 a2 => by
      rw [hs]
      split
      · rw [up_o (by omega), up_o (by omega)]
      · rw [up_o (by omega)]
    have s5 : s.1 174 d = r := by
      rw [hs]
      split
      · rw [up_o (by omega), up_s]
      · rw [up_s]
    obtain ⟨τ, g1, g2, g3, g4, g5, g6⟩ := t63 s r ⟨by rw [s0 _ _ (by omega) (by omega)]; exact l1, by rw [s0 _ _ (by omega) (by omega)]; exact l2, by rw [s0 _ _ (by omega) (by omega)]; exact l3, by rw [s0 _ _ (by omega) (by omega)]; exact l4, s5⟩ hr (funext fun j => s0 _ _ (by omega) (by omega))
    refine ⟨τ, ?_, g2, g3, g4, ⟨fun x j a1 a2 a3 => by rw [g5 x j (by omega), s0 x j (by omega) a3], fun z => by rw [g5 _ _ (by omega), hs, if_neg (by omega), up_o (by omega)], by rw [g6, hs]; split <;> rfl⟩, fun z => by rw [g5 _ _ (by omega), hs, if_pos z, up_s], fun j j0 j1 i => by rw [g5 _ _ (by omega), s0 _ _ (by omega) (by omega)]⟩
    unfold F_M_weighs_42
    rw [zt_ckI (by omega), zt_letS, zt_ckI (by unfold zt_in; omega)]
    by_cases z : d = 0
    · rw [if_pos z] at hs ⊢
      rw [zt_letS, up_o (by omega), ← hs]
      exact g1
    · rw [if_neg z] at hs ⊢
      rw [← hs]
      exact g1
  have worse : ¬ (b = -1 ∨ (own = 1 ∧ b < r) ∨ (own = 0 ∧ r < b)) → ∃ τ, F_M_weighs_63 d σ = some ((), τ) ∧ τ.1 164 = σ.1 164 ∧ (ct own lo hi (σ.1 164 2 - σ.1 164 13) (wb own b r) → LV τ d lo hi own (4 * σ.1 164 0) (wb own b r)) ∧ (¬ ct own lo hi (σ.1 164 2 - σ.1 164 13) (wb own b r) → LV τ d lo hi own nx (wb own b r)) ∧ FD d σ τ ∧ (d = 0 → τ.1 163 29 = if b = -1 ∨ (own = 1 ∧ b < r) ∨ (own = 0 ∧ r < b) then σ.1 175 0 else σ.1 163 29) ∧ (∀ j, 175 ≤ j → j ≤ 179 → ∀ i, τ.1 j i = σ.1 j i) := by
    intro hB
    have eb : wb own b r = b := if_neg hB
    rw [eb, if_neg hB]
    obtain ⟨τ, g1, g2, g3, g4, g5, g6⟩ := t63 σ b h hb rfl
    exact ⟨τ, g1, g2, g3, g4, ⟨fun x j a1 a2 a3 => g5 x j (by omega), fun z => g5 _ _ (by omega), g6⟩, fun z => g5 _ _ (by omega), fun j j0 j1 i => g5 _ _ (by omega)⟩
  unfold F_M_weighs
  rw [zt_ckI d0, l5, zt_ckI hb]
  by_cases b1 : b = -1
  · rw [if_pos b1]
    exact better (Or.inl b1)
  · rw [if_neg b1, zt_ckI d0, l3, zt_ckI zo]
    by_cases o0 : own = 0
    · rw [if_pos o0, zt_ckI d0, zt_ckI ⟨hr, hb⟩]
      by_cases c1 : r < b
      · rw [if_pos c1]; exact better (Or.inr (Or.inr ⟨o0, c1⟩))
      · rw [if_neg c1]; exact worse (fun z => by
          clear better worse
          rcases z with z | z | z <;> omega)
    · rw [if_neg o0, zt_ckI d0, zt_ckI ⟨hr, hb⟩]
      by_cases c1 : b < r
      · rw [if_pos c1]; exact better (Or.inr (Or.inl ⟨o1 o0, c1⟩))
      · rw [if_neg c1]; exact worse (fun z => by
          clear better worse
          rcases z with z | z | z <;> omega)
end SA
