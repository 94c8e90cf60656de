/-! SURE: the class' search answers the value -/
section SF
variable {w w' w0 : Int → Int} {q : Int} {S L : Int64} {σ τ : zt_S}
/-- what a node of the search needs -/
def ND (w0 : Int → Int) (q : Int) (S : Int64) (d : Nat) (L : Int64) (w : Int → Int) (σ : zt_S) : Prop := GL w0 q S σ ∧ MEM w0 q S σ ∧ RM w0 w ∧ (d : Int) = w 12 - w0 12 ∧ TK σ (148 + d) w ∧ MK w L
theorem over_none (hw : RI w) (ho : wOv w = true) {c : Int} (hc : 0 ≤ c ∧ c < 52) : wHd w c = -1 := by
  have d := hw.hd hc.1 hc.2
  have p := hw.p13
  have n := hw.n
  rcases Classical.em (wHd w c = -1) with z | z
  · exact z
  · have h := hw.2.2.2.2.2.2.2.2.2.2 (wHd w c) (by omega) d.2.1
    have e : w 12 = w 1 * w 2 := by unfold wOv at ho; exact of_decide_eq_true ho
    have e13 := p.2.mpr e
    have pl : wPl w = 0 := by unfold wPl; rw [e, e13, Int.mul_comm]; omega
    have m0 := Int.emod_nonneg (wHd w c + w 1 - w 9) (show w 1 ≠ 0 by omega)
    rw [pl, if_neg (by omega), e13] at h
    have pos := (cn_pos (P := fun x => decide (wHd w x = wHd w c)) 52 0).mpr ⟨c, by omega, by omega, decide_eq_true rfl⟩
    unfold wHc at h
    omega
theorem MK.zero (hw : RI w) (h : MK w L) : L = 0 ↔ wOv w = true := by
  constructor
  · intro hz
    rcases Bool.eq_false_or_eq_true (wOv w) with z | z
    · exact z
    · obtain ⟨c, c0, c1, c2⟩ := has_card hw z
      have n := hw.n
      have t := (wTn_lt hw).2.2 z
      have := h c c0 (by omega)
      rw [hz, hb_0, eq_comm, decide_eq_false_iff_not] at this
      exact absurd ⟨c1, by omega⟩ this
  · intro ho
    refine hb_ext (fun c c0 c1 => ?_)
    rw [h c c0 c1, hb_0]
    have n := hw.n
    refine decide_eq_false (fun z => z.2 (over_none hw ho ⟨c0, by omega⟩))
theorem MK.py {c : Int} (hw : RI w) (ho : wOv w = false) (hc : 0 ≤ c ∧ c < 4 * w 0) (hp : wHd w c = wTn w) (h : MK w L) : MK (rPlays w c) (L &&& (zt_ls 1 c ^^^ -1)) := by
  have n := hw.n
  have m := py_more hw ho hc hp
  intro x x0 x1
  rw [hb_without ⟨hc.1, by omega⟩ ⟨x0, x1⟩, h x x0 x1, rPlays_s hw ho hc (i := 0) (by omega)]
  by_cases z : x < 4 * w 0
  · rw [m.2.1 x x0 (by omega)]
    by_cases y : x = c
    · simp [y]
    · simp [y]
  · simp [z]
/-- the goal of who is to play -/
theorem goal_eq (hw : RI w) (ho : wOv w = false) : wHc w (wTn w) = w 2 - w 13 := by
  have n := hw.n
  have t := wTn_lt hw
  have t0 := t.2.2 ho
  have pl := hw.wpl
  have h := hw.2.2.2.2.2.2.2.2.2.2 (wTn w) t0 t.2.1
  have e := tn_pl ho
  have md := md_lt (m := w 1) (a := w 9) (b := wPl w) n.2.1 n.2.2.2.2.2.2.2.2.2.2.1 ⟨pl.1, pl.2⟩
  have k := (md.2.2 (wTn w) t0 t.2.1).1.mpr e
  rw [k, if_neg (by omega)] at h
  omega
theorem hand_bits {H : Int64} {p : Int} (hw : RI w) (hp : 0 ≤ p) (h : ∀ c, 0 ≤ c → c < 64 → hb H c = decide (c < 4 * w 0 ∧ wHd w c = p)) : cn (hb H) 0 64 = wHc w p := by
  have n := hw.n
  have e : cn (hb H) 0 64 = _ := cn_app _ 12 52 0
  rw [show (64 : Nat) = 52 + 12 from rfl, e, cn_none (P := hb H) 12 (0 + ((52 : Nat) : Int)) (fun c h0 h1 => by rw [h c (by omega) (by omega)]; exact decide_eq_false (by omega)), Int.add_zero]
  unfold wHc
  refine cn_congr _ _ (fun c h0 h1 => ?_)
  have d := hw.hd h0 (by omega)
  rw [h c h0 (by omega)]
  by_cases x : wHd w c = p
  · rw [decide_eq_true x, decide_eq_true ⟨by omega, x⟩]
  · rw [decide_eq_false x, decide_eq_false (fun z => x z.2)]
/-- what the search owes a level deeper -/
def DEEP (w0 : Int → Int) (q : Int) (S : Int64) (d : Nat) (f : Int → Int64 → zt_S → Option (Int × zt_S)) : Prop := ∀ (L : Int64) (w : Int → Int) (σ : zt_S), ND w0 q S d L w σ → ∃ σ', f (d : Int) L σ = some (VV q w, σ') ∧ MEM w0 q S σ' ∧ FG d σ σ'
theorem e_best_74 {f : Int → Int64 → zt_S → Option (Int × zt_S)} {d : Nat} {A : Int64} {own : Bool} {o G : Int} (hd : d < 12) (hf : DEEP w0 q S (d + 1) f) (hq : zt_in q) (hown : own = decide (wTn w = q)) (hoo : o = if own = true then 1 else 0) (hG : G = if own = true then w 2 - w 13 else 0) (ho : wOv w = false) (hA : ∀ c, 0 ≤ c → c < 64 → hb A c = (decide (c < 4 * w 0) && wLg w c)) : ∀ (k g : Nat) (i c : Int) (a : Int × Int) (σ : zt_S), i + k = σ.1 144 6 → k < g → 0 ≤ i → (0 ≤ c ∧ c ≤ 52) → (∀ j, 0 ≤ j → j < i → σ.1 146 j < c) → (∀ j, i ≤ j → j < σ.1 144 6 → c ≤ σ.1 146 j) → (a.1 = -1 ∨ (0 ≤ a.1 ∧ a.1 ≤ w 2 - w 13)) → (d = 0 → σ.1 144 8 = a.2) → ND w0 q S d L w σ → ∃ σ', F_SS_bestFrom_74 (148 + d) f g (d : Int) L o A G a.1 i σ = some ((bo own (wLg w) (fun c => gn q w c + VV q (rPlays w c)) (52 - c).toNat a c).1, σ') ∧ MEM w0 q S σ' ∧ FG d σ σ' ∧ (d = 0 → σ'.1 144 8 = (bo own (wLg w) (fun c => gn q w c + VV q (rPlays w c)) (52 - c).toNat a c).2)
  | k, 0, _, _, _, _, _, h1, _, _, _, _, _, _, _ => absurd h1 (Nat.not_lt_zero k)
  | k, g + 1, i, c, a, σ, h0, h1, h2, h3, h4, h5, h6, h7, h8 => by
    obtain ⟨n1, n2, n3, n4, n5, n6⟩ := id h8
    have hw := n3.1
    have n := hw.n
    have p13 := hw.p13
    have ls := n1.2.2.2.2.2.2.2
    have l1 := ls.1
    have pl := hw.pl
    have fin : ∀ x, wLg w x = true → 0 ≤ x → x < 52 → 0 ≤ gn q w x + VV q (rPlays w x) ∧ gn q w x + VV q (rPlays w x) ≤ w 2 - w 13 := fun x hx x0 x1 => by
      have r := lg_rg hw ⟨x0, x1⟩ hx
      have ih := VV_in (q := q) (RI_plays hw r.1 r.2.1 r.2.2)
      have e2 := rPlays_s (c := x) hw r.1 r.2.1 (i := 2) (by omega)
      have gg := gn_in (q := q) (w := w) (c := x)
      rcases rPlays_t (c := x) hw r.1 r.2.1 with t | t
      · rw [t.2.1, e2] at ih; omega
      · have := gg.2.2 t.1
        rw [t.2.1, e2] at ih; omega
    -- who is legal is in the list
    have inl : ∀ x, wLg w x = true → 0 ≤ x → x < 52 → ∃ j, 0 ≤ j ∧ j < σ.1 144 6 ∧ σ.1 146 j = x := fun x hx x0 x1 => by
      have r := lg_rg hw ⟨x0, x1⟩ hx
      have t := (wTn_lt hw).2.2 r.1
      refine ls.2.2.1 x x0 x1 ?_
      rcases n3.2.2.1 x x0 x1 with z | z <;> omega
    rw [F_SS_bestFrom_74, zt_ckI ⟨by unfold zt_in; omega, by unfold zt_in; omega⟩]
    have gv : 0 ≤ G ∧ G ≤ 13 := by rw [hG]; split <;> omega
    cases k with
    | zero =>
      have e : bo own (wLg w) (fun c => gn q w c + VV q (rPlays w c)) (52 - c).toNat a c = a := by
        have s := bo_skip (own := own) (lg := wLg w) (f := fun c => gn q w c + VV q (rPlays w c)) (52 - c).toNat 0 a c (fun x x0 x1 hx => by
          obtain ⟨j, j0, j1, j2⟩ := inl x hx (by omega) (by omega)
          have := h4 j j0 (by omega)
          omega)
        exact s
      rw [if_neg (by omega), e]
      exact ⟨σ, rfl, n2, FG.rf, h7⟩
    | succ k =>
      rw [if_pos (by omega), zt_ckI ⟨by unfold zt_in; omega, by unfold zt_in; omega⟩]
      by_cases hg : a.1 = G
      · have e : bo own (wLg w) (fun c => gn q w c + VV q (rPlays w c)) (52 - c).toNat a c = a := bo_stop _ _ _ (by omega) (fun x x0 x1 hx => by
          have := fin x hx (by omega) (by omega)
          rw [hG] at hg
          constructor
          · rintro ⟨y1, y2⟩
            rw [if_pos y1] at hg
            omega
          · rintro ⟨y1, y2⟩
            rw [if_neg y1] at hg
            omega)
        rw [if_pos hg, e]
        exact ⟨σ, rfl, n2, FG.rf, h7⟩
      · have x := ls.2.1 i h2 (by omega)
        obtain ⟨y, hy⟩ : ∃ y, y = σ.1 146 i := ⟨_, rfl⟩
        rw [← hy] at x
        have e0 : w 0 = w0 0 := n3.2.1 0 (by omega) (by omega)
        have cy : c ≤ y := by rw [hy]; exact h5 i (Int.le_refl _) (by omega)
        -- to the card
        have sk : bo own (wLg w) (fun c => gn q w c + VV q (rPlays w c)) (52 - c).toNat a c = bo own (wLg w) (fun c => gn q w c + VV q (rPlays w c)) ((52 - (y + 1)).toNat + 1) a y := by
          have s := bo_skip (own := own) (lg := wLg w) (f := fun c => gn q w c + VV q (rPlays w c)) (y - c).toNat ((52 - (y + 1)).toNat + 1) a c (fun x' x0 x1 hx => by
            obtain ⟨j, j0, j1, j2⟩ := inl x' hx (by omega) (by omega)
            rcases Int.lt_or_le j i with z | z
            · have := h4 j j0 z
              omega
            · by_cases zz : j = i
              · rw [zz, ← hy] at j2; omega
              · have := ls.2.2.2 i j h2 (by omega) j1
                omega)
          rw [show (52 - c).toNat = (y - c).toNat + ((52 - (y + 1)).toNat + 1) by omega, s, show c + (((y - c).toNat : Nat) : Int) = y by omega]
        have c4 : ∀ τ : zt_S, FG d σ τ → (∀ j, 0 ≤ j → j < i + 1 → τ.1 146 j < y + 1) ∧ (∀ j, i + 1 ≤ j → j < τ.1 144 6 → y + 1 ≤ τ.1 146 j) := fun τ f => by
          have e6 : τ.1 144 6 = σ.1 144 6 := f.1 _ _ (by omega) (by omega)
          have ei : ∀ i, τ.1 146 i = σ.1 146 i := fun i => f.1 _ _ (by omega) (by omega)
          refine ⟨fun j j0 j1 => ?_, fun j j0 j1 => ?_⟩
          · rw [ei]
            by_cases zz : j = i
            · rw [zz, ← hy]; omega
            · have := h4 j j0 (by omega)
              omega
          · rw [ei]
            rw [e6] at j1
            have := ls.2.2.2 i j h2 (by omega) j1
            rw [← hy] at this
            omega
        have hb := hA y x.1.1 (by omega)
        unfold F_SS_bestFrom_171 F_SS_bestFrom_150 F_SS_bestFrom_168 F_SS_bestFrom_171
        rw [if_neg hg, be_at (by omega) (by decide), ← hy, sk, bo]
        by_cases l : wLg w y = true
        · have r := lg_rg hw ⟨x.1.1, by omega⟩ l
          have fv := fin y l x.1.1 (by omega)
          rw [be_has_t ⟨x.1.1, by omega⟩ (by rw [hb, l, decide_eq_true r.2.1.2]; rfl), zt_ckI (by decide), if_neg (by decide), if_pos l]
          obtain ⟨σ1, t1, t2, t3⟩ := e_tricksWith (ww := f) (d := (d : Int)) (L := L) (q := q) (c := y) (by omega) (by rw [show ((d : Int)).toNat = d by omega]; exact n5) (n1.1.ag (n3.2.1 0 (by omega) (by omega)) (n3.2.1 1 (by omega) (by omega)) (n3.2.1 2 (by omega) (by omega)) (n3.2.1 5 (by omega) (by omega))) hw r.1 r.2.1 r.2.2 (by rw [n1.2.2.1, n3.2.1 6 (by omega) (by omega)]) (by rw [n1.2.2.2.1, n3.2.1 7 (by omega) (by omega)]) n1.2.2.2.2.1 hq
          rw [show ((d : Int)).toNat = d by omega] at t3
          rw [show ((d : Int) + 1).toNat = d + 1 by omega] at t1 t2
          have f1 : FG d σ σ1 := ⟨fun c j a1 a2 => t1.1 c j (by omega), fun _ => t1.1 _ _ (by omega), fun c j _ => by rw [t1.2], by rw [t1.2]⟩
          have nd1 : ND w0 q S (d + 1) (L &&& (zt_ls 1 y ^^^ -1)) (rPlays w y) σ1 := ⟨n1.fg f1, n2.ag (fun j => f1.1 _ _ (by omega) (by omega)) (f1.1 _ _ (by omega) (by omega)) (fun p => by rw [t1.2]), n3.st r.1 r.2.1 r.2.2, by rw [(py_more hw r.1 r.2.1 r.2.2).1]; omega, t2, n6.py hw r.1 r.2.1 r.2.2⟩
          obtain ⟨σ2, u1, u2, u3⟩ := hf _ _ _ nd1
          have u1' : f ((d : Int) + 1) (L &&& (zt_ls 1 y ^^^ -1)) σ1 = some (VV q (rPlays w y), σ2) := u1
          rw [t3, u1', zt_bdS, zt_bdS, zt_ckI (by unfold zt_in; omega)]
          have f2 := f1.tr u3.up
          -- what stays a node
          have nd2 : ∀ τ : zt_S, FG d σ2 τ → (∀ p, τ.2.1 147 p = σ2.2.1 147 p) → (∀ j, τ.1 (148 + d) j = σ2.1 (148 + d) j) → ND w0 q S d L w τ := fun τ f e1 e2 => ⟨n1.fg (f2.tr f), u2.ag (fun j => f.1 _ _ (by omega) (by omega)) (f.1 _ _ (by omega) (by omega)) e1, n3, n4, n5.of (fun j => (f2.tr f).1 _ _ (by omega) (by omega)), n6⟩
          have up8 : ∀ v, FG d σ2 (if d = 0 then zt_up σ2 144 8 v else zt_up σ2 144 8 (σ2.1 144 8)) := fun v => ⟨fun c j a1 a2 => by split <;> exact up_o (by omega), fun z => by rw [if_neg (by omega), up_s], fun c j _ => by split <;> rfl, by split <;> rfl⟩
          have better : ∃ σ', (zt_ck (zt_in (d : Int)) <| if (d : Int) = (0 : Int) then zt_let (zt_up σ2 144 8 y) fun s11 => F_SS_bestFrom_74 (148 + d) f g (d : Int) L o A G (gn q w y + VV q (rPlays w y)) (i + (1 : Int)) s11 else zt_let (zt_up σ2 144 8 (σ2.1 144 8)) fun s11 => F_SS_bestFrom_74 (148 + d) f g (d : Int) L o A G (gn q w y + VV q (rPlays w y)) (i + (1 : Int)) s11) = some ((bo own (wLg w) (fun c => gn q w c + VV q (rPlays w c)) (52 - (y + 1)).toNat (gn q w y + VV q (rPlays w y), y) (y + 1)).1, σ') ∧ MEM w0 q S σ' ∧ FG d σ σ' ∧ (d = 0 → σ'.1 144 8 = (bo own (wLg w) (fun c => gn q w c + VV q (rPlays w c)) (52 - (y + 1)).toNat (gn q w y + VV q (rPlays w y), y) (y + 1)).2) := by
            have f3 := up8 y
            have ff := f2.tr f3
            have e6 : (if d = 0 then zt_up σ2 144 8 y else zt_up σ2 144 8 (σ2.1 144 8)).1 144 6 = σ.1 144 6 := ff.1 _ _ (by omega) (by omega)
            have cc := c4 _ ff
            obtain ⟨σ', v1, v2, v3, v4⟩ := e_best_74 hd hf hq hown hoo hG ho hA k g (i + 1) (y + 1) (gn q w y + VV q (rPlays w y), y) (if d = 0 then zt_up σ2 144 8 y else zt_up σ2 144 8 (σ2.1 144 8)) (by rw [e6]; omega) (by omega) (by omega) (by omega) cc.1 cc.2 (Or.inr fv) (fun z => by rw [if_pos z, up_s]) (nd2 _ f3 (fun p => by split <;> rfl) (fun j => by split <;> exact up_o (by omega)))
            refine ⟨σ', ?_, v2, ff.tr v3, v4⟩
            rw [zt_ckI (by unfold zt_in; omega)]
            by_cases z : d = 0
            · rw [if_pos z] at v1
              rw [if_pos (by omega), zt_letS]
              exact v1
            · rw [if_neg z] at v1
              rw [if_neg (by omega), zt_letS]
              exact v1
          have worse : ∃ σ', F_SS_bestFrom_74 (148 + d) f g (d : Int) L o A G a.1 (i + (1 : Int)) σ2 = some ((bo own (wLg w) (fun c => gn q w c + VV q (rPlays w c)) (52 - (y + 1)).toNat a (y + 1)).1, σ') ∧ MEM w0 q S σ' ∧ FG d σ σ' ∧ (d = 0 → σ'.1 144 8 = (bo own (wLg w) (fun c => gn q w c + VV q (rPlays w c)) (52 - (y + 1)).toNat a (y + 1)).2) := by
            have e6 : σ2.1 144 6 = σ.1 144 6 := f2.1 _ _ (by omega) (by omega)
            have cc := c4 _ f2
            obtain ⟨σ', v1, v2, v3, v4⟩ := e_best_74 hd hf hq hown hoo hG ho hA k g (i + 1) (y + 1) a σ2 (by rw [e6]; omega) (by omega) (by omega) (by omega) cc.1 cc.2 h6 (fun z => by rw [u3.2.1 (by omega), t1.1 _ _ (by omega)]; exact h7 z) (nd2 _ FG.rf (fun _ => rfl) (fun _ => rfl))
            exact ⟨σ', v1, v2, f2.tr v3, v4⟩
          by_cases a1 : a.1 = -1
          · rw [if_pos a1, if_pos (Or.inl a1)]
            exact better
          · rw [if_neg a1, zt_ckI (by rw [hoo]; split <;> decide)]
            by_cases w1 : own = true
            · have o1 : o = 1 := by rw [hoo, if_pos w1]
              rw [if_neg (by omega), zt_ckI ⟨by unfold zt_in; omega, by unfold zt_in; omega⟩]
              by_cases bt : a.1 < gn q w y + VV q (rPlays w y)
              · rw [if_pos bt, if_pos (Or.inr (Or.inl ⟨w1, bt⟩))]
                exact better
              · rw [if_neg bt, if_neg (fun z => by
                  rcases z with z | z | z
                  · exact a1 z
                  · exact bt z.2
                  · exact z.1 w1)]
                exact worse
            · have o1 : o = 0 := by rw [hoo, if_neg w1]
              rw [if_pos o1, zt_ckI ⟨by unfold zt_in; omega, by unfold zt_in; omega⟩]
              by_cases bt : gn q w y + VV q (rPlays w y) < a.1
              · rw [if_pos bt, if_pos (Or.inr (Or.inr ⟨w1, bt⟩))]
                exact better
              · rw [if_neg bt, if_neg (fun z => by
                  rcases z with z | z | z
                  · exact a1 z
                  · exact w1 z.1
                  · exact bt z.2)]
                exact worse
        · have cc := c4 σ FG.rf
          rw [be_has_f ⟨x.1.1, by omega⟩ (by rw [hb]; simp [l]), zt_ckI (by decide), if_pos rfl, if_neg l]
          exact e_best_74 hd hf hq hown hoo hG ho hA k g (i + 1) (y + 1) a σ (by omega) (by omega) (by omega) (by omega) cc.1 cc.2 h6 h7 h8
end SF
