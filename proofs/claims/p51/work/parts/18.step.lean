/-! one step of the simulation: calls and handlers -/
theorem q_rcv2 {o : Nat} {as : List Value} {M : List va_E} (h : q_rcv 2 o as M = true) : ∃ (id : Nat) (as' : List Value), as = .ref id :: as' := by
  cases as with
  | nil => cases h
  | cons v as' => cases v <;> first | exact ⟨_, _, rfl⟩ | cases h
theorem q_rcv1 {o : Nat} {as : List Value} {M : List va_E} (h : q_rcv 1 o as M = true) : ∃ (id : Nat) (as' : List Value) (fs : List Value), as = .ref id :: as' ∧ q_at M id = some (.inr (o, fs)) := by
  cases as with
  | nil => cases h
  | cons v as' =>
    cases v with
    | ref id =>
      have h9 : (match q_at M id with | some (.inr (ci, _)) => decide (ci = o) | _ => false) = true := h
      split at h9
      · rename_i ci fs hat
        have := of_decide_eq_true h9
        subst this
        exact ⟨id, as', fs, rfl, hat⟩
      · cases h9
    | _ => cases h
set_option maxRecDepth 20000 in
theorem q_rm_ok {d ml F L : Nat} (h1 : d + 1 + 4 ≤ F) (h2 : 37 * (d + 1) + 120 ≤ L) (h3 : ml ≤ 18) : d + 4 + 1 ≤ F ∧ 8 + (ml + 11) + (37 * d + 120) ≤ L := ⟨by omega, by omega⟩
section QT
variable {l : Launch} {D : va_G} {tc : Nat → ClassId} {A : Nat → Prop} {X : q_X} {f : Nat}
variable {p : Program} {e : Env} {R : Room} {s : State} {m : MethodId} {args : Array Value} {below : List Frame} {meth : Method} {c : Code} {H : Heap} {locs : List Loc} {cells slots : Nat} {Q : State → Prop}
set_option maxHeartbeats 4000000 in
/-- the call itself -/
theorem q_call (IH : q_Sim l D tc A X f) {d' y a pc b : Nat} {i : Instr} {as rest st : List Value} {Mw M' : q_M} {r' : q_O} {ad : Nat → Nat} {ls : Array Slot} (hcall : q_ex X f d' a 0 (lv_args 0 as) [] Mw = some (r', M')) (hri : ∃ v : Option Value, r' = .inl v) (ha : a < q_mt.length) (hne : a ≠ q_law) (ha9 : ¬ 900 ≤ a) (hlen : (lg_sl as).length ≤ (q_row a).2.2.1) (hrcv : q_rcv (q_row a).2.2.2.2.2.1 (q_row a).2.2.2.2.2.2.1 as Mw.1 = true) (hargs : q_args (q_row a).2.2.2.2.2.1 b st = some (as, rest)) (hsum : (rest.map fun v => v.category).sum ≤ 8)
    (hvs : q_vs Mw.1.length as) (hvM : q_vM Mw.1) {idx : Nat} (hinv : q_inv i = some idx) (hdg : decode (q_row y).2.1 pc = .ok (i, q_len i b)) (hlk : q_eok (q_row y).2.2.2.2.2.2.1 (pc, i, a, b) = true) (hF : q_Fr p s m args meth c y) (hsz : ls.size = (q_row y).2.2.1) (hC : q_Cx D tc A ad X s) (hP : va_P D q_cl (q_rz ad tc Mw.1) H) (hD : va_D A (q_rz ad tc Mw.1)) (hS : va_S A s.heap H locs) (hRf : d' + 1 + 4 ≤ R.frames) (hRl : 37 * (d' + 1) + 120 ≤ R.locals) (hc : cells + (M'.2.1 - Mw.2.1) ≤ R.cells ∧ slots + (M'.2.2 - Mw.2.2) ≤ R.slots) :
    ∃ av : Array Value, vx_Run p l e R s m args below meth c H locs cells slots (M'.2.1 - Mw.2.1) (M'.2.2 - Mw.2.2) (F0 m pc ls (q_ts ad st)) (q_ts ad rest) (q_Qc D tc A ad Mw.1.length r' M' av) q_XC A := by
  have hM := q_met IH hcall hri ha hne hlen hvs hvM ad
  obtain ⟨hx, hb, hml, hts, hown, hinit, htab, hlocks⟩ := hF
  have hok := q_mok_row ha hne
  simp only [q_mok, Bool.and_eq_true, decide_eq_true_eq] at hok
  obtain ⟨⟨⟨⟨⟨hpl, hmh⟩, hpar⟩, hmax⟩, hcls⟩, hkind⟩ := hok
  have hmP := q_mP_row ha hne
  have hw := q_ws ha hne
  have hws : ∀ w ∈ q_cw (q_row a) :: q_Tw, ∀ (a' : Array Value) (U : State), s.WarmedH U.vm → w.before a' U = true := fun w h1 a' U hW => word_at hW (q_Tw_good (hw w h1)) (hts w (hw w h1))
  have hcw : (q_cw (q_row a)).before args s = true := hts _ (hw _ List.mem_cons_self)
  have hini : (Cond.initialized (q_row a).1.cls).before args s = true := by
    rcases Classical.em (Cond.initialized (q_row a).1.cls ∈ q_Tw) with h | h
    · exact hts _ h
    · exact absurd (List.mem_filter.mpr ⟨hmP.2.1, rfl⟩) h
  have hspec := q_args_spec hargs
  have hpl2 : ∀ sig, parseMethodDescriptor (q_row a).1.desc = some sig → q_nar[a]? = some sig.parameters.length := by
    intro sig hs
    rw [hs] at hpar
    rw [← hpar]
    rfl
  have hR : d' + 4 + 1 ≤ R.frames ∧ 8 + ((q_row a).2.2.1 + 11) + (37 * d' + 120) ≤ R.locals := q_rm_ok hRf hRl hmax
  have hpc : ∀ U : State, U.heap = H → s.WarmedH U.vm → q_Cx D tc A ad X U ∧ va_P D q_cl (q_rz ad tc Mw.1) U.heap ∧ va_D A (q_rz ad tc Mw.1) := fun U hU hW => ⟨hC.step hW (locs := locs) (by rw [hU]; exact hS), by rw [hU]; exact hP, hD⟩
  have hmn : q_mn a = (q_row a).1 := by
    unfold q_mn
    split <;> first | omega | rfl
  have hsum9 : 2 * (F0 m pc ls (q_ts ad st)).monitorRoom + ((q_ts ad rest).map fun v => v.category).sum ≤ 8 := by
    rw [q_ts_cat]
    show 2 * 0 + _ ≤ 8
    omega
  have hfix : CallFix p m c (q_row y).2.1 (q_row y).2.2.1 s args q_Tw (q_cn (q_row y).2.2.2.2.2.2.1) := ⟨hx, hb, hml, hown, hts⟩
  cases i <;> simp only [q_inv] at hinv <;> try cases hinv
  · -- special
    simp only [q_eok, Bool.and_eq_true, decide_eq_true_eq, if_neg ha9, if_neg (show ¬ a = 999 by omega)] at hlk
    obtain ⟨hlk1, hk, hn⟩ := hlk
    have hlk1 := hts _ (q_ml_mem hlk1)
    rw [hmn] at hlk1
    rw [hk] at hkind hrcv hspec
    simp only [Bool.and_eq_true, decide_eq_true_eq] at hkind
    have hmP3 := hmP.2.2
    rw [hk] at hmP3
    obtain ⟨id, as', rfl⟩ := q_rcv2 hrcv
    refine ⟨_, vx_runI (b := ad id) (As := q_ts ad as') (rest := q_ts ad rest) (n := b) (maxL := (q_row a).2.2.1) (bytes := (q_row a).2.1) hfix hM ⟨⟨rfl, rfl, hR.1, hR.2, hws, ?_, ?_, hini, hmh, fun sig hs => ?_, hlk1⟩, hkind.1.1, hts _ (List.mem_filter.mpr ⟨hmP3, rfl⟩)⟩ ⟨q_Pc_blind, fun U hU hW => ⟨rfl, hpc U hU hW⟩⟩ rfl ?_ hsz ?_ hsum9 hdg hc⟩
    · have e1 : q_cw (q_row a) = Cond.code (q_row a).1 (q_row a).2.1 (q_row a).2.2.1 none := by unfold q_cw; rw [if_pos hkind.1.2, hkind.2]
      rw [← e1]; exact List.mem_cons_self
    · have e1 : q_cw (q_row a) = Cond.code (q_row a).1 (q_row a).2.1 (q_row a).2.2.1 none := by unfold q_cw; rw [if_pos hkind.1.2, hkind.2]
      rw [← e1]; exact hcw
    · have := hpl2 sig hs
      rw [hn] at this
      exact Option.some.inj this
    · have := hspec.2
      simp only [List.length_cons] at this
      show (List.map _ _).length = _
      rw [List.length_map]
      simpa using this
    · show q_ts ad st = _
      rw [hspec.1]
      simp [q_ts, q_tv]
  · -- static
    simp only [q_eok, Bool.and_eq_true, decide_eq_true_eq, if_neg ha9, if_neg (show ¬ a = 999 by omega)] at hlk
    obtain ⟨hlk1, hk, hn⟩ := hlk
    have hlk1 := hts _ (q_ml_mem hlk1)
    rw [hmn] at hlk1
    rw [hk] at hspec
    have hmP3 := hmP.2.2
    rw [hk] at hmP3
    have hstat : (Cond.static (q_row a).1).before args s = true := hts _ (List.mem_filter.mpr ⟨hmP3, rfl⟩)
    have hlen9 : (q_ts ad as).length = b := by
      show (List.map _ _).length = _
      rw [List.length_map, hspec.2, if_pos rfl]
    have hstk : (F0 m pc ls (q_ts ad st)).stack = (q_ts ad as).reverse ++ q_ts ad rest := by
      show q_ts ad st = _
      rw [hspec.1]
      simp [q_ts]
    have hpar9 : ∀ sig, parseMethodDescriptor (q_row a).1.desc = some sig → b = sig.parameters.length := fun sig hs => by
      have := hpl2 sig hs
      rw [hn] at this
      exact Option.some.inj this
    by_cases hh : (q_row a).2.2.2.2.1 = []
    · have e1 : q_cw (q_row a) = Cond.code (q_row a).1 (q_row a).2.1 (q_row a).2.2.1 (q_row a).2.2.2.1 := by unfold q_cw; rw [if_pos hh]
      exact ⟨_, vx_runS (As := q_ts ad as) (rest := q_ts ad rest) (n := b) (ret := (q_row a).2.2.2.1) (maxL := (q_row a).2.2.1) (bytes := (q_row a).2.1) hfix hM ⟨⟨rfl, rfl, hR.1, hR.2, hws, by rw [← e1]; exact List.mem_cons_self, by rw [← e1]; exact hcw, hini, hmh, hpar9, hlk1⟩, hstat⟩ ⟨q_Pc_blind, fun U hU hW => ⟨rfl, hpc U hU hW⟩⟩ rfl hlen9 hsz hstk hsum9 hdg hc⟩
    · have e1 : q_cw (q_row a) = Cond.codeWith (q_row a).1 (q_row a).2.1 (q_row a).2.2.1 (q_row a).2.2.2.1 (q_row a).2.2.2.2.1 := by unfold q_cw; rw [if_neg hh]
      exact ⟨_, vx_runSX (As := q_ts ad as) (rest := q_ts ad rest) (n := b) (ret := (q_row a).2.2.2.1) (maxL := (q_row a).2.2.1) (bytes := (q_row a).2.1) (hh := (q_row a).2.2.2.2.1) hfix hM ⟨⟨rfl, rfl, hR.1, hR.2, hws, by rw [← e1]; exact List.mem_cons_self⟩, by rw [← e1]; exact hcw, hini, hmh, hpar9, hlk1, hstat⟩ ⟨q_Pc_blind, fun U hU hW => ⟨rfl, hpc U hU hW⟩⟩ rfl hlen9 hsz hstk hsum9 hdg hc⟩
  · -- virtual
    simp only [q_eok, Bool.and_eq_true, decide_eq_true_eq, if_neg ha9] at hlk
    obtain ⟨hlk1, hk, hn⟩ := hlk
    have hlk1 := hts _ (q_ml_mem hlk1)
    rw [hmn] at hlk1
    rw [hk] at hkind hrcv hspec
    simp only [Bool.and_eq_true, decide_eq_true_eq] at hkind
    have hmP3 := hmP.2.2
    rw [hk] at hmP3
    have e1 : q_cw (q_row a) = Cond.code (q_row a).1 (q_row a).2.1 (q_row a).2.2.1 (q_row a).2.2.2.1 := by unfold q_cw; rw [if_pos hkind.1]
    obtain ⟨id, as', fs, rfl, hat⟩ := q_rcv1 hrcv
    refine ⟨_, vx_runV (C := (q_row a).1.cls) (b := ad id) (As := q_ts ad as') (rest := q_ts ad rest) (n := b) (ret := (q_row a).2.2.2.1) (maxL := (q_row a).2.2.1) (bytes := (q_row a).2.1) hfix hM ⟨⟨rfl, rfl, hR.1, hR.2, hws, by rw [← e1]; exact List.mem_cons_self, by rw [← e1]; exact hcw, hini, hmh, fun sig hs => ?_, hlk1⟩, hts _ (List.mem_filter.mpr ⟨hmP3.1, rfl⟩), hts _ (List.mem_filter.mpr ⟨hmP3.2, rfl⟩)⟩ ⟨q_Pc_blind, ?_, fun U hU hW => ⟨rfl, hpc U hU hW⟩⟩ rfl ?_ hsz ?_ hsum9 hdg hc⟩
    · have := hpl2 sig hs
      rw [hn] at this
      exact Option.some.inj this
    · have h9 := hP id _ (q_rz_at hat)
      obtain ⟨rr, g1, g2⟩ := h9
      have hlt : (q_row a).2.2.2.2.2.2.1 < 12 := by
        rcases Nat.lt_or_ge (q_row a).2.2.2.2.2.2.1 12 with z | z
        · exact z
        · rw [List.getElem?_eq_none (by exact z)] at g1
          cases g1
      have := va_recv hC.1 hP (q_cl_get hlt) (q_rz_at hat)
      rw [hcls]
      exact this
    · have := hspec.2
      simp only [List.length_cons] at this
      show (List.map _ _).length = _
      rw [List.length_map]
      simpa using this
    · show q_ts ad st = _
      rw [hspec.1]
      simp [q_ts, q_tv]
set_option maxHeartbeats 4000000 in
theorem q_step (IH : q_Sim l D tc A X f)
    (hstr : ∀ (d y pc a b idx : Nat) (p : Program) (e : Env) (R : Room) (s : State) (m : MethodId) (args : Array Value) (below : List Frame) (meth : Method) (c : Code) (Q : State → Prop) (ad : Nat → Nat) (H : Heap) (locs : List Loc) (ls : Array Slot) (cells slots : Nat), q_Fr p s m args meth c y → q_Cx D tc A ad X s → d + 4 ≤ R.frames → 37 * d + 120 ≤ R.locals → cells ≤ R.cells → slots ≤ R.slots → ls.size = c.maxLocals → va_S A s.heap H locs → decode (q_row y).2.1 pc = .ok (.invokevirtual idx, 3) → Cond.methodLink (q_cn (q_row y).2.2.2.2.2.2.1) idx (q_mn a) ∈ q_Tw →
      ∀ (j : Nat) (r : List Value), j < q_sc.length → (r.map fun v => v.category).sum ≤ 16 → (a = 900 → W p l e R s m args below meth c H locs cells slots Q (F0 m (pc + 3) ls (.int (Int32.ofNat (q_sc.getD j default).2.2.2.length) :: r)) → W p l e R s m args below meth c H locs cells slots Q (F0 m pc ls (.ref (ad (q_big + 1 + j)) :: r))) ∧
        (∀ k : Int32, ¬ (k < 0 ∨ (q_sc.getD j default).2.2.2.length ≤ k.toNatClampNeg) → a = 901 → W p l e R s m args below meth c H locs cells slots Q (F0 m (pc + 3) ls (.int ((q_sc.getD j default).2.2.2.getD k.toNatClampNeg 0) :: r)) → W p l e R s m args below meth c H locs cells slots Q (F0 m pc ls (.int k :: .ref (ad (q_big + 1 + j)) :: r)))) : q_Sim l D tc A X (f + 1) := by
  intro d y pc lv st Mw r Me h hri hV p e R s m args below meth c Q ad0 n0 hF hC0 hRf hRl hE ad H locs ls cells slots hWd hl hc hs
  rw [q_ex] at h
  split at h
  · cases h
  · rename_i i a b hins
    obtain ⟨hdg, hlk, hbr⟩ := q_at_ok hins
    obtain ⟨w1, w2, hP, hD, hS⟩ := id hWd
    have hC : q_Cx D tc A ad X s := hC0.ag w1
    obtain ⟨hx, hb, hml, hts, hown, hinit, htab, hlocks⟩ := id hF
    obtain ⟨hK, hZ, ⟨hX, hbl, hbA⟩, hAO, hA, hSx⟩ := id hC
    split at h
    · rename_i v hend
      cases h
      exact hE v rfl pc b i st ad H locs ls cells slots hend hdg hWd (by omega) (by omega)
    · split at h
      · rename_i pc' lv' st' M' hstp
        obtain ⟨v1, v2⟩ := q_stp_v hstp hV
        have v3 := (q_ex_v X f d y pc' lv' st' M' r Me h v1).2.1
        have a1 := v3.2.1
        have a2 := v3.2.2
        refine q_stp_ok hx hb hstp hdg hts hlk hbr hown (fun hz => hinit (by simpa using hz)) hZ hK hP hD hS hA hX hbl hbA hAO hV.2.2 hV.2.1 hV.1 hl (by omega) (by omega) (fun ad' H1 locs1 ls' cells' slots' hag e1 e2 hl' g1 g2 g3 => ?_)
        exact IH d y pc' lv' st' M' r Me h hri v1 p e R s m args below meth c Q ad0 n0 hF hC0 hRf hRl hE ad' H1 locs1 ls' cells' slots' ⟨w1.trans hag w2, Nat.le_trans w2 v2.1, g1, g2, g3⟩ hl' (by omega) (by omega)
      · split at h
        · rename_i idx hnew
          split at h
          · rename_i hcond
            obtain ⟨E, hEx, hz⟩ := Option.map_eq_some_iff.mp h
            cases hz
            obtain ⟨v, hv⟩ := hri
            cases hv
          · cases h
        · split at h
          · cases h
          · rename_i idx hinv
            split at h
            · rename_i ha9
              split at h
              · rename_i st' M' hj
                split at h
                · rename_i hcond
                  obtain ⟨j1, j2, j3⟩ := q_jdk_v hj hV.2.2 hV.2.1
                  have v1 : q_V lv st' (M', Mw.2) := ⟨fun q hq => by dsimp only; rw [j2]; exact hV.1 q hq, fun v hv => by dsimp only; rw [j2]; exact j3 v hv, j1⟩
                  have v3 := (q_ex_v X f d y (pc + 3) lv st' (M', Mw.2) r Me h v1).2.1
                  have a1 := v3.2.1
                  have a2 := v3.2.2
                  dsimp only at a1 a2
                  have hk9 : Cond.methodLink (q_cn (q_row y).2.2.2.2.2.2.1) idx (q_mn a) ∈ q_Tw ∧ ((i = .invokestatic idx ∧ a ∈ [910, 911, 912, 913]) ∨ (i = .invokevirtual idx ∧ a ∈ [900, 901]) ∨ (i = .invokespecial idx ∧ a = 914)) := by
                    refine q_eok_jdk (b := b) (pc := pc) ?_ ha9 hcond.2
                    unfold q_inv at hinv
                    split at hinv
                    · cases hinv; exact Or.inl ⟨hlk, rfl⟩
                    · cases hinv; exact Or.inr (Or.inl ⟨hlk, rfl⟩)
                    · cases hinv; exact Or.inr (Or.inr ⟨hlk, rfl, hcond.2⟩)
                    · cases hinv
                  have hdg3 : decode (q_row y).2.1 pc = .ok (i, 3) := by
                    rcases hk9.2 with ⟨z, _⟩ | ⟨z, _⟩ | ⟨z, _⟩ <;> (rw [z] at hdg ⊢; exact hdg)
                  refine q_jdk_ok hx hb hj hk9 hdg3 hts hown (hml.trans hl.1.symm) hK hP hD hS (by omega) (by omega) (by omega) (by omega) hcond.1 (fun j r9 hjl hr9 => ⟨fun hi ha0 hk0 => ?_, fun k9 hk9' hi ha0 hk0 => ?_⟩) (fun H1 locs1 g1 g2 g3 => ?_)
                  · exact (hstr d y pc a b idx p e R s m args below meth c Q ad H locs ls cells slots hF hC hRf hRl (by omega) (by omega) (hl.1.trans hml.symm) hS (by rw [hi] at hdg3; exact hdg3) hk9.1 j (q_ts ad r9) hjl (by rw [q_ts_cat]; exact hr9)).1 ha0 hk0
                  · exact (hstr d y pc a b idx p e R s m args below meth c Q ad H locs ls cells slots hF hC hRf hRl (by omega) (by omega) (hl.1.trans hml.symm) hS (by rw [hi] at hdg3; exact hdg3) hk9.1 j (q_ts ad r9) hjl (by rw [q_ts_cat]; exact hr9)).2 k9 hk9' ha0 hk0
                  · exact IH d y (pc + 3) lv st' (M', Mw.2) r Me h hri v1 p e R s m args below meth c Q ad0 n0 hF hC0 hRf hRl hE ad H1 locs1 ls cells slots ⟨w1, by dsimp only; rw [j2]; exact w2, g1, g2, g3⟩ hl hc hs
                · cases h
              · cases h
            · rename_i ha9
              split at h
              · rename_i d' as rest hargs
                split at h
                · rename_i hcond
                  obtain ⟨c1, c2, c3, c4, c5⟩ := hcond
                  obtain ⟨u1, u2⟩ := q_args_v hargs hV.2.1
                  split at h
                  · rename_i v M' hcall
                    obtain ⟨x1, x2, x3⟩ := q_ex_v X f d' a 0 _ _ _ _ _ hcall ⟨q_lva_v as 0 u1, q_vs_nil, hV.2.2⟩
                    have hvv : q_vs M'.1.length v.toList := by
                      cases v with
                      | none => exact q_vs_nil
                      | some v => exact q_vs_c.mpr ⟨x3 v rfl, q_vs_nil⟩
                    have v1 : q_V lv (v.toList ++ rest) M' := ⟨hV.1.mono x2.1, q_vs_app hvv (u2.mono x2.1), x1⟩
                    have v3 := (q_ex_v X f (d' + 1) y (pc + 3) lv _ M' r Me h v1).2.1
                    have a1 := v3.2.1
                    have a2 := v3.2.2
                    have b1 := x2.2.1
                    have b2 := x2.2.2
                    obtain ⟨av, hrun⟩ := q_call (e := e) (below := below) (R := R) (cells := cells) (slots := slots) IH hcall ⟨v, rfl⟩ c2 c3 ha9 c4 c5 hargs c1 u1 hV.2.2 hinv hdg hlk hF hl.1 hC hP hD hS hRf hRl ⟨by omega, by omega⟩
                    intro T hT XS
                    rcases hrun T hT XS with ⟨v', st₀, t, T', L, h0, X', hL, e1, e2, ⟨v0, ad', hrv, hov, hag, hP', hD', hFr⟩, hgo⟩ | ⟨q, st₀, t, T', L, E, ce, h0, X', hL, e1, e2, hno, hce, hcv, hcl, hgo⟩
                    · cases hrv
                      cases hov
                      obtain ⟨k1, k2, k3⟩ := vx_keep h0 e1 hS (fun _ _ z => z) (fun _ z => z) hL hFr
                      have hag2 : q_ag n0 ad0 ad' := w1.trans hag w2
                      have hw := IH (d' + 1) y (pc + 3) lv _ M' r Me h hri v1 p e R s m args below meth c Q ad0 n0 hF hC0 hRf hRl hE ad' T'.heap (locs ++ L) ls (cells + (M'.2.1 - Mw.2.1)) (slots + (M'.2.2 - Mw.2.2)) ⟨hag2, Nat.le_trans w2 x2.1, by rw [e1]; exact hP', hD', k3⟩ (by rw [q_tl_ag hag hV.1]; exact hl) (by omega) (by omega)
                      have e9 : q_ts ad' (v.toList ++ rest) = (v.map (q_tv ad')).toList ++ q_ts ad rest := by
                        have : q_ts ad' rest = q_ts ad rest := q_ts_ag hag u2
                        rw [← this]
                        cases v <;> simp [q_ts]
                      rw [e9] at hw
                      obtain ⟨t2, y1, y2⟩ := hw T' rfl X'
                      exact ⟨t2, hgo t2 y1, y2⟩
                    · exact hno.elim
                  · rename_i E M' hcall
                    obtain ⟨v, hv⟩ := hri
                    rw [q_hh (q_ins_lt hins)] at h
                    simp only [q_hd] at h
                    rw [if_pos trivial] at h
                    subst hv
                    cases h
                  · cases h
                · cases h
              · cases h
end QT
