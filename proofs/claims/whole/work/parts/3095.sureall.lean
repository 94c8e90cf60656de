section SN
variable {q : Int}
theorem VV_over {w : Int → Int} (h : wOv w = true) : VV q w = 0 := by
  unfold VV
  cases lf w with
  | zero => rfl
  | succ m => rw [VN, if_pos h]
theorem nod_step (hqi : 0 ≤ q ∧ q < 4) (k : Nat) (IH : ∀ j, j < k → NOD q j) : NOD q k := by
  intro m
  induction m using Nat.strongRecOn with
  | ind m ihm =>
  intro w u d lo hi own f c b A τ hw hov hlf e hu hd hown hl hq hlo hc0 hcm hf hA hb h0
  subst hu
  have n := hw.n
  have p13 := hw.p13
  have pl := hw.pl
  have o := wOv_lt hw hov
  have hp := e.pi hw.pi
  have e0 := e.1 0 (by omega) (by omega)
  have ov01 : own = 0 ∨ own = 1 := by rw [hown]; split <;> omega
  have od : own = 1 ↔ (decide (wTn w = q)) = true := by
    rw [hown, decide_eq_true_eq]
    split
    · rename_i z; exact ⟨fun _ => z, fun _ => rfl⟩
    · rename_i z; exact ⟨fun y => absurd y (by decide), fun y => absurd y z⟩
  have k1 : 1 ≤ k := by rw [← hlf]; unfold lf; omega
  obtain ⟨x, hx⟩ : ∃ x, x = nl (wLg w) (4 * w 0 - c).toNat c := ⟨_, rfl⟩
  have nv := nl_v (lg := wLg w) (4 * w 0 - c).toNat c
  rw [← hx] at nv
  have nolg : ∀ y, 4 * w 0 ≤ y → y < 52 → ¬ wLg w y = true := fun y y0 y1 hy => by
    have := (lg_rg hw ⟨by omega, y1⟩ hy).2.1
    omega
  obtain ⟨y0, y1, y2, y3⟩ := has_legal hw hov
  have vin := bo_in (own := decide (wTn w = q)) (lg := wLg w) (f := FF q w) (G := w 2 - w 13) 52 (-1, -1) 0 (Or.inl rfl) (fun z a b' hz => FF_in hw hz ⟨a, by omega⟩)
  have vne : ¬ (VB q w).1 = -1 := vin.2 (Or.inr ⟨y0, y1, by omega, y3⟩)
  by_cases hxe : x = 4 * w 0
  · -- nothing legal any more
    have eA : VB q w = A := by
      rw [← hA]
      have s := bo_skip (own := decide (wTn w = q)) (lg := wLg w) (f := FF q w) (52 - c).toNat 0 A c (fun y a b' => by
        rcases Int.lt_or_le y (4 * w 0) with z | z
        · exact nv.2.2.1 y a (by omega)
        · exact nolg y z (by omega))
      exact s
    rw [eA] at vne
    rcases hb with hb | hb
    · exact absurd hb.1 vne
    · obtain ⟨f1, rfl⟩ : ∃ f1, f = f1 + 1 := ⟨f - 1, by omega⟩
      refine ⟨f1, τ, τ.1 164, c, b, rfl, by omega, rfl, e, FW.rf, hl, ⟨hc0, by omega⟩, by rw [← hx]; exact hxe, by rw [eA]; exact hb.2.2.1, hb.2.1, FD.rf, fun z => ?_⟩
      have hz := h0 z
      have s := hb.2.2.1
      unfold sAB at s
      rw [eA]
      refine ⟨by have := s.1; omega, ?_⟩
      rcases hz.2.2.2 with y | y
      · exact absurd y vne
      · exact y
  · have lx := nv.2.2.2 (by omega)
    have r := lg_rg hw ⟨by omega, by omega⟩ lx
    have fx := FF_in (q := q) hw lx ⟨by omega, by omega⟩
    have gg := gn_in (q := q) (w := w) (c := x)
    have hw' := RI_plays hw r.1 r.2.1 r.2.2
    have lf' := lf_pl hw r.1 r.2.1
    obtain ⟨f1, rfl⟩ : ∃ f1, f = f1 + 1 := ⟨f - 1, by omega⟩
    have d0 : 0 ≤ d ∧ d < ((13 : Nat) : Int) := by omega
    obtain ⟨l1, l2, l3, l4, l5⟩ := id hl
    have bz : zt_in lo ∧ zt_in hi ∧ zt_in b := by
      refine ⟨by unfold zt_in; omega, by unfold zt_in; omega, ?_⟩
      unfold zt_in
      rcases hb with hb | hb <;> omega
    -- the card is put down
    obtain ⟨τa, hτa⟩ : ∃ t, t = zt_up τ 173 d (x + 1) := ⟨_, rfl⟩
    have ra : τa.1 164 = τ.1 164 := by rw [hτa, up_f (by decide)]
    obtain ⟨τb, b1, b2, b3⟩ := em_puts (σ := τa) (c := x) (d := d) (by omega) (by rw [ra]; exact hp) (by rw [ra, e.ov]; exact hov) (by rw [ra, e0]; exact r.2.1)
    rw [ra] at b2 b3
    obtain ⟨b4, b5, b6, b7, b8, b9, b10⟩ := b3
    have evb : EV (rPlays w x) (τb.1 164) := by rw [b2]; exact e.go hw r.1 r.2.1
    have cb : ∀ y j, y ≠ 164 → (y < 175 ∨ 179 < y ∨ j ≠ d) → (y ≠ 173 ∨ j ≠ d) → τb.1 y j = τ.1 y j := fun y j a1 a2 a3 => by rw [b9 y j a1 a2, hτa, up_o a3]
    have lvb : LV τb d lo hi own (x + 1) b := ⟨by rw [cb _ _ (by omega) (by omega) (by omega)]; exact l1, by rw [cb _ _ (by omega) (by omega) (by omega)]; exact l2, by rw [cb _ _ (by omega) (by omega) (by omega)]; exact l3, by rw [b9 _ _ (by omega) (by omega), hτa, up_s], by rw [cb _ _ (by omega) (by omega) (by omega)]; exact l5⟩
    have qb : τb.1 163 28 = q := by rw [cb _ _ (by omega) (by omega) (by omega)]; exact hq
    have fdb : FD d τ τb := ⟨fun y j a1 a2 a3 => cb y j a1 (by omega) (by omega), fun _ => cb _ _ (by omega) (by omega) (by omega), by rw [b10, hτa]; rfl⟩
    have pib := evb.pi hw'.pi
    have nxl : F_M_nextLegal (τ.1 173 d) τ = some (x, τ) := by
      rw [l4, em_nextLegal hp ⟨hc0, by rw [e0]; omega⟩, e0, nl_lg _ _ (fun y a b' => e.lg hw ⟨by omega, by omega⟩), ← hx]
    -- what follows the card weighed
    have after : ∀ (f2 : Nat) (τc : zt_S) (r1 : Int) (u3 : Int → Int), F_M_searches_18 (f1 + 1) d τ = F_M_searches_18 f2 d τc → f1 + 1 ≤ f2 + (TT k + 3) → (0 ≤ r1 ∧ r1 ≤ w 2 - w 13) → sAB (if own = 1 ∧ lo < b then b else lo) (if own = 0 ∧ ¬ b = -1 ∧ b < hi then b else hi) (FF q w x) r1 → τc.1 164 = u3 → EV w u3 → FW (τ.1 164) u3 → (ct own lo hi (w 2 - w 13) (wb own b r1) → LV τc d lo hi own (4 * w 0) (wb own b r1)) → (¬ ct own lo hi (w 2 - w 13) (wb own b r1) → LV τc d lo hi own (x + 1) (wb own b r1)) → FD d τ τc → τc.1 163 28 = q → (d = 0 → τc.1 163 29 = if b = -1 ∨ (own = 1 ∧ b < r1) ∨ (own = 0 ∧ r1 < b) then x else τ.1 163 29) → ∃ f' τ' u' nx r', F_M_searches_18 (f1 + 1) d τ = F_M_searches_18 (f' + 1) d τ' ∧ f1 + 1 ≤ f' + 1 + m * (TT k + 3) ∧ τ'.1 164 = u' ∧ EV w u' ∧ FW (τ.1 164) u' ∧ LV τ' d lo hi own nx r' ∧ (0 ≤ nx ∧ nx ≤ 4 * w 0) ∧ nl (wLg w) (4 * w 0 - nx).toNat nx = 4 * w 0 ∧ sAB lo hi (VB q w).1 r' ∧ (0 ≤ r' ∧ r' ≤ w 2 - w 13) ∧ FD d τ τ' ∧ (d = 0 → r' = (VB q w).1 ∧ τ'.1 163 29 = (VB q w).2) := by
      intro f2 τc r1 u3 g1 g2 g3 g4 g5 g6 g7 g8 g9 g10 g11 g12
      obtain ⟨A', hA'⟩ : ∃ A', A' = (if A.1 = -1 ∨ ((decide (wTn w = q)) = true ∧ A.1 < FF q w x) ∨ (¬ (decide (wTn w = q)) = true ∧ FF q w x < A.1) then (FF q w x, x) else A) := ⟨_, rfl⟩
      have boA : bo (decide (wTn w = q)) (wLg w) (FF q w) (52 - (x + 1)).toNat A' (x + 1) = VB q w := by
        rw [← hA]
        have s := bo_skip (own := decide (wTn w = q)) (lg := wLg w) (f := FF q w) (x - c).toNat ((52 - (x + 1)).toNat + 1) A c (fun y a b' => nv.2.2.1 y a (by omega))
        rw [show (52 - c).toNat = (x - c).toNat + ((52 - (x + 1)).toNat + 1) by omega, s, show c + (((x - c).toNat : Nat) : Int) = x by omega, bo, if_pos lx, hA']
        split <;> rfl
      have newR : (0 ≤ A'.1 ∧ A'.1 ≤ w 2 - w 13) ∧ (0 ≤ wb own b r1 ∧ wb own b r1 ≤ w 2 - w 13) ∧ sAB lo hi A'.1 (wb own b r1) := by
        rcases ov01 with o0 | o1
        · have od0 : ¬ (decide (wTn w = q)) = true := fun z => by have := od.mpr z; omega
          have eA : A'.1 = (if A.1 = -1 ∨ FF q w x < A.1 then FF q w x else A.1) := by
            rw [hA']
            by_cases z : A.1 = -1 ∨ FF q w x < A.1
            · rw [if_pos z, if_pos (by rcases z with z | z; exact Or.inl z; exact Or.inr (Or.inr ⟨od0, z⟩))]
            · rw [if_neg z, if_neg (fun y => z (by rcases y with y | y | y; exact Or.inl y; exact absurd y.1 od0; exact Or.inr y.2))]
          have eb : wb own b r1 = (if b = -1 ∨ r1 < b then r1 else b) := by
            unfold wb
            by_cases z : b = -1 ∨ r1 < b
            · rw [if_pos z, if_pos (by omega)]
            · rw [if_neg z, if_neg (by omega)]
          rw [if_neg (fun (z : own = 1 ∧ lo < b) => by omega)] at g4
          have g4' : sAB lo (if ¬ b = -1 ∧ b < hi then b else hi) (FF q w x) r1 := by
            by_cases z : ¬ b = -1 ∧ b < hi
            · rw [if_pos z]; rw [if_pos ⟨o0, z⟩] at g4; exact g4
            · rw [if_neg z]; rw [if_neg (fun y => z y.2)] at g4; exact g4
          have s := sAB.oth (M := A.1) hlo.2.1 (by rcases hb with hb | hb; exact Or.inl hb; exact Or.inr ⟨hb.1.1, hb.2.1.1, hb.2.2.1, hb.2.2.2.2 o0⟩) fx.1 g4'
          rw [eA, eb]
          refine ⟨?_, ?_, s⟩
          · rcases hb with hb | hb <;> split <;> omega
          · rcases hb with hb | hb <;> split <;> omega
        · have od1 := od.mp o1
          have eA : A'.1 = (if A.1 = -1 ∨ A.1 < FF q w x then FF q w x else A.1) := by
            rw [hA']
            by_cases z : A.1 = -1 ∨ A.1 < FF q w x
            · rw [if_pos z, if_pos (by rcases z with z | z; exact Or.inl z; exact Or.inr (Or.inl ⟨od1, z⟩))]
            · rw [if_neg z, if_neg (fun y => z (by rcases y with y | y | y; exact Or.inl y; exact Or.inr y.2; exact absurd od1 y.1))]
          have eb : wb own b r1 = (if b = -1 ∨ b < r1 then r1 else b) := by
            unfold wb
            by_cases z : b = -1 ∨ b < r1
            · rw [if_pos z, if_pos (by omega)]
            · rw [if_neg z, if_neg (by omega)]
          rw [if_neg (fun (z : own = 0 ∧ ¬ b = -1 ∧ b < hi) => by omega)] at g4
          have g4' : sAB (if lo < b then b else lo) hi (FF q w x) r1 := by
            by_cases z : lo < b
            · rw [if_pos z]; rw [if_pos ⟨o1, z⟩] at g4; exact g4
            · rw [if_neg z]; rw [if_neg (fun y => z y.2)] at g4; exact g4
          have s := sAB.own (M := A.1) hlo.2.1 (by rcases hb with hb | hb; exact Or.inl hb; exact Or.inr ⟨hb.1.1, hb.2.1.1, hb.2.2.1, hb.2.2.2.1 o1⟩) fx.1 g4'
          rw [eA, eb]
          refine ⟨?_, ?_, s⟩
          · rcases hb with hb | hb <;> split <;> omega
          · rcases hb with hb | hb <;> split <;> omega
      obtain ⟨nA, nb, nS⟩ := newR
      -- at the root the best and its card are exact
      have root : d = 0 → wb own b r1 = A'.1 ∧ τc.1 163 29 = A'.2 := fun z => by
        obtain ⟨z1, z2, z3, z4⟩ := h0 z
        have s := nS
        have s4 := g4
        unfold sAB at s s4
        have od1 := od.mp z3
        rw [if_neg (fun (y : own = 0 ∧ ¬ b = -1 ∧ b < hi) => by omega)] at s4
        refine ⟨by have := s.1; omega, ?_⟩
        rw [g12 z, hA']
        have bA : b = A.1 := by
          rcases hb with hb | hb
          · omega
          · have t := hb.2.2.1
            unfold sAB at t
            have := t.1
            omega
        by_cases y : b = -1 ∨ (own = 1 ∧ b < r1) ∨ (own = 0 ∧ r1 < b)
        · rw [if_pos y, if_pos (by
            rcases y with y | y | y
            · exact Or.inl (by omega)
            · refine Or.inr (Or.inl ⟨od1, ?_⟩)
              by_cases y2 : own = 1 ∧ lo < b
              · rw [if_pos y2] at s4; omega
              · rw [if_neg y2] at s4; omega
            · omega)]
        · rw [if_neg y, if_neg (fun yy => by
            rcases yy with yy | yy | yy
            · omega
            · by_cases y2 : own = 1 ∧ lo < b
              · rw [if_pos y2] at s4; omega
              · rw [if_neg y2] at s4; omega
            · exact yy.1 od1)]
          rcases z4 with z4 | z4
          · omega
          · exact z4
      have mono := bo_mono (own := decide (wTn w = q)) (lg := wLg w) (f := FF q w) (52 - (x + 1)).toNat A' (x + 1) (by omega) (fun z a b' hz => (FF_in hw hz ⟨by omega, by omega⟩).1) nA.1
      have inn := bo_in (own := decide (wTn w = q)) (lg := wLg w) (f := FF q w) (G := w 2 - w 13) (52 - (x + 1)).toNat A' (x + 1) (Or.inr nA) (fun z a b' hz => FF_in hw hz ⟨by omega, by omega⟩)
      rw [boA] at mono inn
      by_cases cc : ct own lo hi (w 2 - w 13) (wb own b r1)
      · have lv := g8 cc
        have ok := cut_ok (V := (VB q w).1) hlo.2.1 cc nS (fun z => ⟨mono.1 (od.mp z), by omega⟩) (fun z => ⟨by omega, mono.2 (fun y => by have := od.mpr y; omega)⟩) nA.1 nb.1
        obtain ⟨f3, rfl⟩ : ∃ f3, f2 = f3 + 1 := ⟨f2 - 1, by have : 1 * (TT k + 3) ≤ m * (TT k + 3) := Nat.mul_le_mul_right _ (by omega); omega⟩
        refine ⟨f3, τc, u3, 4 * w 0, wb own b r1, g1, ?_, g5, g6, g7, lv, ⟨by omega, by omega⟩, ?_, ok, nb, g10, fun z => ?_⟩
        · have : 1 * (TT k + 3) ≤ m * (TT k + 3) := Nat.mul_le_mul_right _ (by omega)
          omega
        · rw [show (4 * w 0 - 4 * w 0).toNat = 0 by omega]; rfl
        · have rt := root z
          have hz := h0 z
          have bG : wb own b r1 = w 2 - w 13 := by
            rcases cc with cc | cc <;> omega
          have st : VB q w = A' := by
            rw [← boA]
            refine bo_stop _ _ _ (by omega) (fun y a b' hy => ?_)
            have := FF_in (q := q) hw hy ⟨by omega, by omega⟩
            exact ⟨fun yy => by omega, fun yy => yy.1 (od.mp hz.2.2.1)⟩
          rw [st]
          exact rt
      · have lv := g9 cc
        obtain ⟨m', hm'⟩ : ∃ m', m' = (4 * w 0 - (x + 1)).toNat := ⟨_, rfl⟩
        have mul : (m' + 1) * (TT k + 3) ≤ m * (TT k + 3) := Nat.mul_le_mul_right _ (by omega)
        rw [Nat.add_mul, Nat.one_mul] at mul
        obtain ⟨f', τ', u', nx, r', q1, q2, q3, q4, q5, q6, q7, q8, q9, q10, q11, q12⟩ := ihm m' (by omega) w u3 d lo hi own f2 (x + 1) (wb own b r1) A' τc hw hov hlf g6 g5 hd hown lv g11 hlo (by omega) (by omega) (by omega) boA (Or.inr ⟨nA, nb, nS, fun z => by unfold ct at cc; omega, fun z => by unfold ct at cc; omega⟩) (fun z => by
          have hz := h0 z
          exact ⟨hz.1, hz.2.1, hz.2.2.1, Or.inr (root z).2⟩)
        have u12 : u3 12 = τ.1 164 12 := by rw [g6.1 12 (by omega) (by omega), e.1 12 (by omega) (by omega)]
        have u13 : u3 13 = τ.1 164 13 := by rw [g6.1 13 (by omega) (by omega), e.1 13 (by omega) (by omega)]
        exact ⟨f', τ', u', nx, r', by rw [g1, q1], by omega, q3, q4, g7.tr q5 u12 u13, q6, q7, q8, q9, q10, g10.tr q11, q12⟩
    have cd : F_M_cards τ = some (4 * w 0, τ) := by unfold F_M_cards; rw [e0]
    have f2 : FW (rGo (τ.1 164) x) (τb.1 164) := by rw [b2]; exact FW.rf
    have fuel : TT k = 53 * (TT (k - 1) + 3) + 5 := by
      obtain ⟨j, hj⟩ : ∃ j, k = j + 1 := ⟨k - 1, by omega⟩
      rw [hj, TT, show j + 1 - 1 = j by omega]
    have io := pm_isOver pib
    rw [evb.ov] at io
    by_cases ov : wOv (rPlays w x) = true
    · rw [if_pos ov] at io
      obtain ⟨u3, τc, k1, k2, k3, k4, k5, k6, k7, k8⟩ := em_backs (σ := τb) (w := w) (u := τ.1 164) (v := 0) (by omega) lvb ov01 bz (by omega) e hw hov r.2.1 r.2.2 evb f2 b4 b5 b6 b7 b8 qb hqi
      have vo := VV_over (q := q) ov
      have ef : FF q w x = gn q w x + 0 := by unfold FF; rw [vo]
      refine after f1 τc (gn q w x + 0) u3 ?_ (by omega) (by rw [← ef]; exact fx) (by rw [ef]; unfold sAB; refine ⟨fun _ _ => rfl, fun _ => ?_, fun _ => ?_⟩ <;> omega) k2 k3 k4 k5 k6 (fdb.tr k7) (by rw [k7.1 163 28 (by omega) (by omega) (by omega)]; exact qb) (fun z => by rw [k8 z, cb 163 29 (by omega) (by omega) (by omega)])
      rw [F_M_searches_18, zt_ckI d0, nxl, zt_bdS, cd, zt_bdS, zt_ckI ⟨by unfold zt_in; omega, by unfold zt_in; omega⟩, if_pos (by omega), zt_ckI d0, zt_letS, ← hτa, b1, zt_bdS, io, zt_bdS, zt_ckI (by decide), if_neg (by decide), k1, zt_bdS]
      rfl
    · rw [if_neg ov] at io
      have ov' : wOv (rPlays w x) = false := Bool.eq_false_iff.mpr ov
      have gs := em_gains (σ := τb) (by omega) e hw hov r.2.1 r.2.2 evb f2 b8 qb (by unfold zt_in; omega)
      obtain ⟨τd, g1, g2, g3, g4, g5⟩ := em_deepens (σ := τb) (by omega) lvb ov01 bz gs pib qb hqi
      rw [evb.tn] at g3
      have w0 : rPlays w x 0 = w 0 := rPlays_s hw hov r.2.1 (by omega)
      obtain ⟨lo', hlo'⟩ : ∃ y, y = (if own = 1 ∧ lo < b then b else lo) := ⟨_, rfl⟩
      obtain ⟨hi', hhi'⟩ : ∃ y, y = (if own = 0 ∧ ¬ b = -1 ∧ b < hi then b else hi) := ⟨_, rfl⟩
      rw [← hlo', ← hhi'] at g3 after
      have win : -1 - (d + 1) ≤ lo' - gn q w x ∧ (lo' - gn q w x < hi' - gn q w x ∨ (hi' - gn q w x < 0 ∧ lo' - gn q w x < 0)) ∧ hi' - gn q w x ≤ 100 ∧ -1 - (d + 1) ≤ hi' - gn q w x := by
        have gg1 := gg.1
        have gg2 := gg.2.1
        have hb2 : (b = -1) ∨ (0 ≤ b ∧ b ≤ w 2 - w 13 ∧ (own = 1 → b < hi) ∧ (own = 0 → lo < b)) := by
          rcases hb with hb | hb
          · exact Or.inl hb.2
          · exact Or.inr ⟨hb.2.1.1, hb.2.1.2, hb.2.2.2.1, hb.2.2.2.2⟩
        clear after IH ihm
        rw [hlo', hhi']
        rcases ov01 with o0 | o1
        · rw [if_neg (fun (z : own = 1 ∧ lo < b) => by omega)]
          split <;> omega
        · rw [if_neg (fun (z : own = 0 ∧ ¬ b = -1 ∧ b < hi) => by omega)]
          split <;> omega
      have n4 : (4 * w 0).toNat ≤ 52 := by omega
      have mu1 : (4 * w 0).toNat * (TT (k - 1) + 3) ≤ 52 * (TT (k - 1) + 3) := Nat.mul_le_mul_right _ n4
      have mu2 : 1 * (TT k + 3) ≤ m * (TT k + 3) := Nat.mul_le_mul_right _ (by omega)
      have fl2 : (4 * w 0).toNat * (TT (k - 1) + 3) + 2 ≤ f1 := by omega
      obtain ⟨f', τ', u', nx, r', q1, q2, q3, q4, q5, q6, q7, q8, q9, q10, q11, q12⟩ := IH (k - 1) (by omega) (4 * w 0).toNat (rPlays w x) (τd.1 164) (d + 1) (lo' - gn q w x) (hi' - gn q w x) _ f1 0 (-1) (-1, -1) τd hw' ov' (by omega) (by rw [g2]; exact evb) rfl (by omega) rfl g3 (by rw [g4 163 28 (by omega)]; exact qb) win (by omega) (by rw [w0]; omega) fl2 rfl (Or.inl ⟨rfl, rfl⟩) (fun z => absurd z (by omega))
      subst q3
      rw [g2, b2] at q5
      have cf : ∀ y j, y ≠ 164 → (y < 170 ∨ 179 < y ∨ j < d + 1) → (y ≠ 163 ∨ j ≠ 29) → (y < 170 ∨ 174 < y ∨ j ≠ d + 1) → τ'.1 y j = τb.1 y j := fun y j a1 a2 a3 a4 => by rw [q11.1 y j a1 a2 a3, g4 y j a4]
      have fd' : FD d τb τ' := ⟨fun y j h1 h2 h3 => cf y j h1 (by omega) h3 (by omega), fun _ => by rw [q11.2.1 (by omega), g4 163 29 (by omega)], by rw [q11.2.2, g5]⟩
      have lv' : LV τ' d lo hi own (x + 1) b := by
        obtain ⟨m1, m2, m3, m4, m5⟩ := lvb
        exact ⟨by rw [cf _ _ (by omega) (by omega) (by omega) (by omega)]; exact m1, by rw [cf _ _ (by omega) (by omega) (by omega) (by omega)]; exact m2, by rw [cf _ _ (by omega) (by omega) (by omega) (by omega)]; exact m3, by rw [cf _ _ (by omega) (by omega) (by omega) (by omega)]; exact m4, by rw [cf _ _ (by omega) (by omega) (by omega) (by omega)]; exact m5⟩
      have e2 := rPlays_s (c := x) hw r.1 r.2.1 (i := 2) (by omega)
      have rr : 0 ≤ gn q w x + r' ∧ gn q w x + r' ≤ w 2 - w 13 := by
        rcases rPlays_t (c := x) hw r.1 r.2.1 with t | t
        · rw [t.2.1, e2] at q10; omega
        · have := gg.2.2 t.1
          rw [t.2.1, e2] at q10; omega
      have q163 : τ'.1 163 28 = q := by rw [cf 163 28 (by omega) (by omega) (by omega) (by omega)]; exact qb
      obtain ⟨u3, τc, k1', k2, k3, k4, k5, k6, k7, k8⟩ := em_backs (σ := τ') (w := w) (u := τ.1 164) (v := r') (by omega) lv' ov01 bz (by omega) e hw hov r.2.1 r.2.2 q4 q5 (by rw [cf _ _ (by omega) (by omega) (by omega) (by omega)]; exact b4) (by rw [cf _ _ (by omega) (by omega) (by omega) (by omega)]; exact b5) (by rw [cf _ _ (by omega) (by omega) (by omega) (by omega)]; exact b6) (by rw [cf _ _ (by omega) (by omega) (by omega) (by omega)]; exact b7) (by rw [cf _ _ (by omega) (by omega) (by omega) (by omega)]; exact b8) q163 hqi
      have ve := VV_eq (q := q) hw' ov'
      have ee0 := q4.1 0 (by omega) (by omega)
      have nx2 : F_M_nextLegal (τ'.1 173 (d + 1)) τ' = some (4 * w 0, τ') := by
        rw [q6.2.2.2.1, em_nextLegal (q4.pi hw'.pi) ⟨q7.1, by rw [ee0]; exact q7.2⟩, ee0, nl_lg _ _ (fun y a b' => q4.lg hw' ⟨by omega, by omega⟩), q8, w0]
      have cd2 : F_M_cards τ' = some (4 * w 0, τ') := by unfold F_M_cards; rw [ee0, w0]
      have sh := q9.sh
      refine after f' τc (gn q w x + r') u3 ?_ (by omega) rr (by unfold FF; rw [ve, Int.add_comm (gn q w x) r']; exact sh) k2 k3 k4 k5 k6 ((fdb.tr fd').tr k7) (by rw [k7.1 163 28 (by omega) (by omega) (by omega)]; exact q163) (fun z => by rw [k8 z, q11.2.1 (by omega), g4 163 29 (by omega), cb 163 29 (by omega) (by omega) (by omega)])
      rw [F_M_searches_18, zt_ckI d0, nxl, zt_bdS, cd, zt_bdS, zt_ckI ⟨by unfold zt_in; omega, by unfold zt_in; omega⟩, if_pos (by omega), zt_ckI d0, zt_letS, ← hτa, b1, zt_bdS, io, zt_bdS, zt_ckI (by decide), if_pos rfl, g1, zt_bdS, q1, F_M_searches_18, zt_ckI (by omega), nx2, zt_bdS, cd2, zt_bdS, zt_ckI ⟨by unfold zt_in; omega, by unfold zt_in; omega⟩, if_neg (by omega), zt_ckI (by unfold zt_in; omega), if_neg (by omega), show d + 1 + -1 = d by omega, zt_ckI (by omega), q6.2.2.2.2, k1', zt_bdS]
      rfl
end SN
