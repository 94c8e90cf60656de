/-! SURE: the reference's search, level by level -/
def TT : Nat → Nat
  | 0 => 1
  | k + 1 => 53 * (TT k + 3) + 5
def FF (q : Int) (w : Int → Int) : Int → Int := fun c => gn q w c + VV q (rPlays w c)
/-- what a level's loop owes -/
def NOD (q : Int) (k : Nat) : Prop := ∀ (m : Nat) (w u : Int → Int) (d lo hi own : Int) (f : Nat) (c b : Int) (A : Int × Int) (τ : zt_S), RI w → wOv w = false → lf w = k → EV w u → τ.1 164 = u → (0 ≤ d ∧ d + k ≤ 12) → own = (if wTn w = q then 1 else 0) → LV τ d lo hi own c b → τ.1 163 28 = q → (-1 - d ≤ lo ∧ (lo < hi ∨ (hi < 0 ∧ lo < 0)) ∧ hi ≤ 100 ∧ -1 - d ≤ hi) → 0 ≤ c → c + m = 4 * w 0 → m * (TT k + 3) + 2 ≤ f → bo (decide (wTn w = q)) (wLg w) (FF q w) (52 - c).toNat A c = VB q w → ((A.1 = -1 ∧ b = -1) ∨ ((0 ≤ A.1 ∧ A.1 ≤ w 2 - w 13) ∧ (0 ≤ b ∧ b ≤ w 2 - w 13) ∧ sAB lo hi A.1 b ∧ (own = 1 → b < hi) ∧ (own = 0 → lo < b))) → (d = 0 → lo = -1 ∧ hi = 100 ∧ own = 1 ∧ (A.1 = -1 ∨ τ.1 163 29 = A.2)) →
  ∃ f' τ' u' nx r, F_M_searches_18 f d τ = F_M_searches_18 (f' + 1) d τ' ∧ f ≤ f' + 1 + m * (TT k + 3) ∧ τ'.1 164 = u' ∧ EV w u' ∧ FW u u' ∧ LV τ' d lo hi own nx r ∧ (0 ≤ nx ∧ nx ≤ 4 * w 0) ∧ nl (wLg w) (4 * w 0 - nx).toNat nx = 4 * w 0 ∧ sAB lo hi (VB q w).1 r ∧ (0 ≤ r ∧ r ≤ w 2 - w 13) ∧ FD d τ τ' ∧ (d = 0 → r = (VB q w).1 ∧ τ'.1 163 29 = (VB q w).2)
section SL
variable {w u : Int → Int} {c q : Int} {σ τ : zt_S}
theorem FF_in (hw : RI w) {x : Int} (hx : wLg w x = true) (h0 : 0 ≤ x ∧ x < 52) : 0 ≤ FF q w x ∧ FF q w x ≤ w 2 - w 13 := by
  have r := lg_rg hw h0 hx
  have ih := VV_in (q := q) (RI_plays hw r.1 r.2.1 r.2.2)
  have e2 := rPlays_s (c := x) hw r.1 r.2.1 (i := 2) (by omega)
  have gg := gn_in (q := q) (w := w) (c := x)
  unfold FF
  rcases rPlays_t (c := x) hw r.1 r.2.1 with t | t
  · rw [t.2.1, e2] at ih; omega
  · have := gg.2.2 t.1
    rw [t.2.1, e2] at ih; omega
theorem nl_lg {lg lg' : Int → Bool} : ∀ (k : Nat) (v : Int), (∀ x, v ≤ x → x < v + k → lg' x = lg x) → nl lg' k v = nl lg k v
  | 0, _, _ => rfl
  | k + 1, v, h => by
    rw [nl, nl, h v (by omega) (by omega), nl_lg k (v + 1) (fun x a b => h x (by omega) (by omega))]
/-- the rest of the cards: between the best so far and the goal -/
theorem bo_mono {own : Bool} {lg : Int → Bool} {f : Int → Int} : ∀ (m : Nat) (a : Int × Int) (c : Int), ¬ a.1 = -1 → (∀ x, c ≤ x → x < c + m → lg x = true → 0 ≤ f x) → 0 ≤ a.1 → (own = true → a.1 ≤ (bo own lg f m a c).1) ∧ (¬ own = true → (bo own lg f m a c).1 ≤ a.1)
  | 0, a, c, _, _, _ => ⟨fun _ => Int.le_refl _, fun _ => Int.le_refl _⟩
  | m + 1, a, c, h, g, ha => by
    rw [bo]
    by_cases l : lg c = true
    · have gc := g c (by omega) (by omega) l
      rw [if_pos l]
      split
      · rename_i hB
        have ih := bo_mono (own := own) (lg := lg) (f := f) m (f c, c) (c + 1) (by show ¬ f c = -1; omega) (fun x x0 x1 => g x (by omega) (by omega)) gc
        refine ⟨fun z => ?_, fun z => ?_⟩
        · have := ih.1 z
          dsimp only at this
          rcases hB with hB | hB | hB
          · exact absurd hB h
          · omega
          · exact absurd z hB.1
        · have := ih.2 z
          dsimp only at this
          rcases hB with hB | hB | hB
          · exact absurd hB h
          · exact absurd hB.1 z
          · omega
      · exact bo_mono m a (c + 1) h (fun x x0 x1 => g x (by omega) (by omega)) ha
    · rw [if_neg l]
      exact bo_mono m a (c + 1) h (fun x x0 x1 => g x (by omega) (by omega)) ha
/-- a cut answers for the whole -/
theorem cut_ok {lo hi G b M V own : Int} (h : lo < hi ∨ (hi < 0 ∧ lo < 0)) (hc : ct own lo hi G b) (hb : sAB lo hi M b) (ho : own = 1 → M ≤ V ∧ V ≤ G) (hz : own = 0 → 0 ≤ V ∧ V ≤ M) (hM : 0 ≤ M) (hb0 : 0 ≤ b) : sAB lo hi V b := by
  unfold sAB ct at *
  obtain ⟨h1, h2, h3⟩ := hb
  rcases hc with ⟨o, y⟩ | ⟨o, y⟩
  · have := ho o
    refine ⟨fun _ _ => ?_, fun _ => ?_, fun _ => ?_⟩ <;> omega
  · have := hz o
    refine ⟨fun _ _ => ?_, fun _ => ?_, fun _ => ?_⟩ <;> omega
end SL
