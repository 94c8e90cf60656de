/-! THE MACHINE DOES WHAT THE MINI-MACHINE DOES -/
theorem q_row_get {y : Nat} (h : y < q_mt.length) : q_mt[y]? = some (q_row y) := by
  unfold q_row
  rw [List.getD_eq_getElem?_getD, List.getElem?_eq_getElem h]
  rfl
theorem q_ins_lt {y pc : Nat} {e : Instr × Nat × Nat} (h : q_ins (q_row y).2.2.2.2.2.2.2 pc = some e) : y < q_mt.length := by
  rcases Nat.lt_or_ge y q_mt.length with z | z
  · exact z
  · unfold q_row at h
    rw [List.getD_eq_getElem?_getD, List.getElem?_eq_none z] at h
    simp [q_ins] at h
theorem q_at_ok {y pc a b : Nat} {i : Instr} (h : q_ins (q_row y).2.2.2.2.2.2.2 pc = some (i, a, b)) : decode (q_row y).2.1 pc = .ok (i, q_len i b) ∧ q_eok (q_row y).2.2.2.2.2.2.1 (pc, i, a, b) = true ∧ q_br i a pc = true := by
  have hx := q_xok_all y _ (q_row_get (q_ins_lt h))
  unfold q_ins at h
  obtain ⟨e, h1, h2⟩ := Option.map_eq_some_iff.mp h
  have h3 := List.find?_some h1
  have h4 := List.mem_of_find?_eq_some h1
  simp only [beq_iff_eq] at h3
  obtain ⟨e1, e2⟩ := e
  dsimp only at h2 h3
  subst h2; subst h3
  have h5 := List.all_eq_true.mp hx _ h4
  simp only [q_xe, Bool.and_eq_true, decide_eq_true_eq] at h5
  exact ⟨h5.1.1, h5.1.2, h5.2⟩
/-- the four rows of a throw, and what they link -/
def q_tok (y : Nat) (e : Nat × Instr × Nat × Nat) : Bool := match e.2.1 with
  | .new _ => if 1000 ≤ e.2.2.1 then decide ((q_row y).2.2.2.2.2.2.1 = 10) && (decide (e.2.2 = (1000, 199)) || decide (e.2.2 = (1001, 114))) && decide (q_ins (q_row y).2.2.2.2.2.2.2 (e.1 + 3) = some (.dup, 0, 0)) && decide (q_ins (q_row y).2.2.2.2.2.2.2 (e.1 + 4) = some (.invokespecial e.2.2.2, 999, 0)) && decide (q_ins (q_row y).2.2.2.2.2.2.2 (e.1 + 7) = some (.athrow, 0, 0)) else true
  | _ => true
def q_tokL : Nat → List q_MT → Bool
  | y, x :: xs => x.2.2.2.2.2.2.2.all (q_tok y) && decide (x.2.2.2.2.1 = [] ∨ x.2.2.2.2.2.2.1 = 13) && q_tokL (y + 1) xs
  | _, [] => true
theorem q_tokL_get : ∀ (L : List q_MT) (k : Nat), q_tokL k L = true → ∀ (j : Nat) (z : q_MT), L[j]? = some z → z.2.2.2.2.2.2.2.all (q_tok (k + j)) = true ∧ (z.2.2.2.2.1 = [] ∨ z.2.2.2.2.2.2.1 = 13)
  | [], k, _, j, z, hz => by simp at hz
  | w :: L, k, h, j, z, hz => by
    simp only [q_tokL, Bool.and_eq_true, decide_eq_true_eq] at h
    cases j with
    | zero =>
      simp only [List.getElem?_cons_zero, Option.some.injEq] at hz
      subst hz
      exact h.1
    | succ j =>
      rw [List.getElem?_cons_succ] at hz
      have := q_tokL_get L (k + 1) h.2 j z hz
      rwa [show k + 1 + j = k + (j + 1) by omega] at this
set_option maxRecDepth 100000 in
theorem q_tok_ok : q_tokL 0 q_mt = true := by decide +kernel
theorem q_tok_row {y : Nat} (hy : y < q_mt.length) : (q_row y).2.2.2.2.2.2.2.all (q_tok y) = true ∧ ((q_row y).2.2.2.2.1 = [] ∨ (q_row y).2.2.2.2.2.2.1 = 13) := by
  have := q_tokL_get q_mt 0 q_tok_ok y _ (q_row_get hy)
  rwa [Nat.zero_add] at this
theorem q_thr_ok {y pc a b idx : Nat} {E : String} (h : q_ins (q_row y).2.2.2.2.2.2.2 pc = some (.new idx, a, b)) (hE : q_exn a = some E) : q_thr y pc b ∧ (q_row y).2.2.2.2.2.2.1 = 10 ∧ ((a = 1000 ∧ b = 199) ∨ (a = 1001 ∧ b = 114)) := by
  have hy := q_ins_lt h
  have h1 := (q_tok_row hy).1
  have ha : 1000 ≤ a := by
    unfold q_exn at hE
    split at hE
    · omega
    · omega
    · cases hE
  obtain ⟨e, g1, g2⟩ := Option.map_eq_some_iff.mp h
  have h3 := List.find?_some g1
  have h4 := List.mem_of_find?_eq_some g1
  simp only [beq_iff_eq] at h3
  obtain ⟨e1, e2⟩ := e
  dsimp only at g2 h3
  subst g2; subst h3
  have h5 := List.all_eq_true.mp h1 _ h4
  simp only [q_tok, if_pos ha, Bool.and_eq_true, Bool.or_eq_true, decide_eq_true_eq] at h5
  obtain ⟨⟨⟨⟨k1, k2⟩, k3⟩, k4⟩, k5⟩ := h5
  refine ⟨⟨(q_at_ok k3).1, (q_at_ok k4).1, (q_at_ok k5).1⟩, k1, ?_⟩
  rcases k2 with k2 | k2
  · exact Or.inl (by simpa using k2)
  · exact Or.inr (by simpa using k2)
theorem q_ws {a : Nat} (ha : a < q_mt.length) (hne : a ≠ q_law) : ∀ w ∈ q_cw (q_row a) :: q_Tw, w ∈ q_Tw := by
  intro w hw
  rcases List.mem_cons.mp hw with rfl | hw
  · rcases q_mP_all a _ (q_row_get ha) with h | h
    · exact absurd h hne
    · exact List.mem_filter.mpr h.1
  · exact hw
theorem q_mok_row {a : Nat} (ha : a < q_mt.length) (hne : a ≠ q_law) : q_mok a (q_row a) = true := (q_mok_all a _ (q_row_get ha)).resolve_left hne
theorem q_mP_row {a : Nat} (ha : a < q_mt.length) (hne : a ≠ q_law) : q_mP (q_row a) := (q_mP_all a _ (q_row_get ha)).resolve_left hne
theorem q_lg_len (ad : Nat → Nat) : ∀ (as : List Value), (lg_sl (q_ts ad as)).length = (lg_sl as).length
  | [] => rfl
  | v :: as => by
    have h : ∀ (v : Value) (r : List Value), (lg_sl (v :: r)).length = (if v.category = 2 then 2 else 1) + (lg_sl r).length := by
      intro v r
      cases v <;> simp [lg_sl, Value.category] <;> omega
    show (lg_sl (q_tv ad v :: q_ts ad as)).length = _
    rw [h, h, q_tv_cat, q_lg_len ad as]
theorem q_args_spec {k n : Nat} {st as rest : List Value} (h : q_args k n st = some (as, rest)) : st = as.reverse ++ rest ∧ as.length = (if k = 0 then n else n + 1) := by
  unfold q_args at h
  split at h
  · rename_i hk
    split at h
    · cases h
      rw [if_pos hk, List.reverse_reverse, List.take_append_drop]
      exact ⟨rfl, by rw [List.length_reverse, List.length_take]; omega⟩
    · cases h
  · rename_i hk
    split at h
    · cases h
      rw [if_neg hk, List.reverse_reverse, List.take_append_drop]
      exact ⟨rfl, by rw [List.length_reverse, List.length_take]; omega⟩
    · cases h
def q_names : List String := ["java/lang/RuntimeException", "java/lang/Exception"]
set_option maxRecDepth 100000 in
theorem q_hat_n1 : ∀ w ∈ (vx_at0 "FadingTrumps" 199 "java/util/NoSuchElementException" q_names).filter goodWord, w ∈ lw_tbl := by decide +kernel
set_option maxRecDepth 100000 in
theorem q_hat_i1 : ∀ w ∈ (vx_at0 "FadingTrumps" 114 "java/lang/IllegalArgumentException" q_names).filter goodWord, w ∈ lw_tbl := by decide +kernel
set_option maxRecDepth 100000 in
theorem q_hat_n2 : ∀ w ∈ (vx_at0 "FadingTrumps" 199 "java/util/NoSuchElementException" q_names).filter (fun w => !goodWord w), w ∈ q_Dw := by decide +kernel
set_option maxRecDepth 100000 in
theorem q_hat_i2 : ∀ w ∈ (vx_at0 "FadingTrumps" 114 "java/lang/IllegalArgumentException" q_names).filter (fun w => !goodWord w), w ∈ q_Dw := by decide +kernel
theorem q_ot_n : ∀ w ∈ vx_at0 "FadingTrumps" 199 "java/util/NoSuchElementException" q_names, vx_ot w = true := by decide +kernel
theorem q_ot_i : ∀ w ∈ vx_at0 "FadingTrumps" 114 "java/lang/IllegalArgumentException" q_names, vx_ot w = true := by decide +kernel
set_option maxRecDepth 100000 in
theorem q_ini_n : Cond.initialized "java/util/NoSuchElementException" ∈ q_Tw := by decide +kernel
set_option maxRecDepth 100000 in
theorem q_ini_i : Cond.initialized "java/lang/IllegalArgumentException" ∈ q_Tw := by decide +kernel
theorem q_fit_names : ∀ n ∈ q_names, Bundle.fit n = true := by decide +kernel
theorem q_vs_ot {w : Cond} (h : w ∈ q_Tw) : vx_ot w = true := by
  have := (List.mem_filter.mp h).2
  unfold vx_ot
  rw [this, Bool.or_true]
section QS
variable {l : Launch} {D : va_G} {tc : Nat → ClassId} {A : Nat → Prop} {X : q_X} {f : Nat}
set_option maxHeartbeats 4000000 in
theorem q_body (IH : q_Sim l D tc A X f) (hst : l.stackTraces = false) {d a : Nat} {as : List Value} {M Me : q_M} {r : q_O} (h : q_ex X f d a 0 (lv_args 0 as) [] M = some (r, Me)) (hlen : (lg_sl as).length ≤ (q_row a).2.2.1) (hvs : q_vs M.1.length as) (hvM : q_vM M.1) (ad : Nat → Nat)
    {p : Program} {e : Env} {s : State} {m : MethodId} {args : Array Value} {below : List Frame} {meth : Method} {c : Code} (hF : q_Fr p s m args meth c a) (hr : meth.sig.returnType = (q_row a).2.2.2.1) (hv : q_Pc D tc A ad X as M args s) :
    W p l e (q_rm d M Me) s m args below meth c s.heap [] 0 0 (vx_MQ below (q_Qc D tc A ad M.1.length r Me) (q_XC D tc A ad M.1.length r Me) args s (Me.2.1 - M.2.1) (Me.2.2 - M.2.2) A) (entryFrame m args (q_row a).2.2.1) := by
  obtain ⟨rfl, hC, hP, hD⟩ := hv
  rw [lg_entry_eq]
  have hl := lv_entry (q_ts ad as) (n := (q_row a).2.2.1) (by rw [q_lg_len]; exact hlen)
  rw [q_lva_ts] at hl
  have hmono := (q_ex_v X f d a 0 _ _ _ _ _ h ⟨q_lva_v as 0 hvs, q_vs_nil, hvM⟩).2.1
  refine IH d a 0 (lv_args 0 as) [] M r Me h ⟨q_lva_v as 0 hvs, q_vs_nil, hvM⟩ p e (q_rm d M Me) s m _ below meth c _ ad M.1.length hF hC (Nat.le_refl _) (Nat.le_refl _) ?_ ad s.heap [] _ 0 0 ⟨q_ag.rf, Nat.le_refl _, hP, hD, va_S.rf⟩ hl (by have := hmono.2.1; show Me.2.1 + 0 ≤ (Me.2.1 - M.2.1) + M.2.1; omega) (by have := hmono.2.2; show Me.2.2 + 0 ≤ (Me.2.2 - M.2.2) + M.2.2; omega)
  obtain ⟨hx, hb, hml, hts, hown, hinit, htab, hlocks⟩ := hF
  refine ⟨fun v hv pc b i st ad' H locs ls cells slots hend hdg hWd hc hs => ?_, fun E hE => ⟨fun pc a0 b idx st ad' H locs ls cells slots hE0 hdg hlk hthr hhh hsz hWd hsum hc hs => ?_, fun pc ad' H locs ls rest cells slots q ce hhh hWd hcell hcv hcl hc hs => ?_⟩⟩
  · obtain ⟨w1, w2, w3, w4, w5⟩ := hWd
    refine W.widen (k := Me.2.1 - M.2.1) (n := Me.2.2 - M.2.2) hc hs (vx_ret ?_)
    generalize (q_row a).2.2.2.1 = rt at hend hr
    have hq : ∀ t : State, t.heap = H → s.WarmedH t.vm → q_Qc D tc A ad M.1.length r Me (q_ts ad as).toArray s (.returned (v.map (q_tv ad'))) t := fun t ht _ => ⟨v, ad', hv, rfl, w1, by rw [ht]; exact w3, w4, w5.F ht⟩
    unfold q_end at hend
    split at hend
    · split at hend
      · cases hend; exact W.vret hx hb hr hq w5.2.2 hdg
      · cases hend
    · split at hend
      · split at hend
        · rename_i hn; cases hend; exact W.zret hx hb hr hn hq w5.2.2 hdg
        · cases hend
      · cases hend
    · split at hend
      · cases hend; exact W.lret hx hb hr hq w5.2.2 hdg
      · cases hend
    · split at hend
      · cases hend; exact W.fret hx hb hr hq w5.2.2 hdg
      · cases hend
    · split at hend
      · cases hend; exact W.dret hx hb hr hq w5.2.2 hdg
      · cases hend
    · split at hend
      · cases hend; exact W.aret hx hb hr (Or.inl ⟨_, rfl⟩) (Or.inr ⟨_, rfl⟩) hq w5.2.2 hdg
      · cases hend
    · cases hend
  · obtain ⟨w1, w2, w3, w4, w5⟩ := hWd
    obtain ⟨hown10, hab⟩ : (q_row a).2.2.2.2.2.2.1 = 10 ∧ ((a0 = 1000 ∧ b = 199) ∨ (a0 = 1001 ∧ b = 114)) := hthr.2
    have hkl := q_kl_mem hlk
    dsimp only at hkl
    rw [hown10] at hkl hown
    have hout : ∀ x ∈ c.exceptionTable.toList, covers x (pc + 7) = false := by
      rw [htab, hhh]
      exact fun x hx => by cases hx
    have hx9 : ∀ t : State, s.vm.Alike t.vm → H.size ≤ t.heap.size → (∀ q : Nat, q < H.size → t.heap[q]? = H[q]?) → q_XC D tc A ad M.1.length r Me E s t := by
      intro t _ h1 h2
      exact ⟨ad', hE, w1, w3.kept (fun k q hq => h2 q.1 ((w3 k q hq).lt)), w4, Nat.le_trans w5.1 h1, fun q g1 g2 => (h2 q (Nat.lt_of_lt_of_le g1 w5.1)).trans (w5.2.1 q g1 g2)⟩
    obtain ⟨-, -, -, -, ⟨hU, hN⟩, -, -, -, hDw⟩ := hC
    rcases hab with ⟨rfl, rfl⟩ | ⟨rfl, rfl⟩
    · cases hE0
      exact vx_throw0 (own := "FadingTrumps") (names := q_names) hx hb hst hown (by decide +kernel) q_fit_names (hts _ hkl) (hts _ q_ini_n) (vx_hat (fun w hw => hts w (List.mem_filter.mpr ⟨q_hat_n1 w hw, (List.mem_filter.mp hw).2⟩)) q_hat_n2 (q_Dw_use hDw)) (fun w hw => by
        rcases List.mem_cons.mp hw with rfl | hw
        · exact q_vs_ot hkl
        · rcases List.mem_cons.mp hw with rfl | hw
          · exact q_vs_ot q_ini_n
          · exact q_ot_n w hw) hU hN w5 hsz hdg hthr.1.1 hthr.1.2.1 hthr.1.2.2 hout (by show 2 + 3 < d + 9; omega) (by rw [q_ts_cat]; show _ + (13 * (2 + 1) + 42) ≤ 100 * d + 300; omega) hc hs hlocks hx9 w5.2.2 hc hs
    · cases hE0
      exact vx_throw0 (own := "FadingTrumps") (names := q_names) hx hb hst hown (by decide +kernel) q_fit_names (hts _ hkl) (hts _ q_ini_i) (vx_hat (fun w hw => hts w (List.mem_filter.mpr ⟨q_hat_i1 w hw, (List.mem_filter.mp hw).2⟩)) q_hat_i2 (q_Dw_use hDw)) (fun w hw => by
        rcases List.mem_cons.mp hw with rfl | hw
        · exact q_vs_ot hkl
        · rcases List.mem_cons.mp hw with rfl | hw
          · exact q_vs_ot q_ini_i
          · exact q_ot_i w hw) hU hN w5 hsz hdg hthr.1.1 hthr.1.2.1 hthr.1.2.2 hout (by show 2 + 3 < d + 9; omega) (by rw [q_ts_cat]; show _ + (13 * (2 + 1) + 42) ≤ 100 * d + 300; omega) hc hs hlocks hx9 w5.2.2 hc hs
  · obtain ⟨w1, w2, w3, w4, w5⟩ := hWd
    exact vx_out (fun x hx => by rw [htab, hhh] at hx; cases hx) hlocks hcell hcv hcl (fun t ht _ => ⟨ad', hE, w1, by rw [ht]; exact w3, w4, w5.F ht⟩) w5.2.2 hc hs
set_option maxHeartbeats 4000000 in
theorem q_met (IH : q_Sim l D tc A X f) (hst : l.stackTraces = false) {d a : Nat} {as : List Value} {M Me : q_M} {r : q_O} (h : q_ex X f d a 0 (lv_args 0 as) [] M = some (r, Me)) (ha : a < q_mt.length) (hne : a ≠ q_law) (hlen : (lg_sl as).length ≤ (q_row a).2.2.1) (hvs : q_vs M.1.length as) (hvM : q_vM M.1) (ad : Nat → Nat) :
    vx_Met l (q_row a).1 (q_cw (q_row a) :: q_Tw) (q_rm d M Me) (q_Pc D tc A ad X as M) (q_Qc D tc A ad M.1.length r Me) (q_XC D tc A ad M.1.length r Me) (Me.2.1 - M.2.1) (Me.2.2 - M.2.2) A := by
  have hok := q_mok_row ha hne
  simp only [q_mok, Bool.and_eq_true, decide_eq_true_eq] at hok
  obtain ⟨⟨⟨⟨⟨hpl, hmh⟩, hpar⟩, hmax⟩, hcls⟩, hkind⟩ := hok
  have hfr : ∀ {p : Program} {e : Env} {s : State} {m : MethodId} {args : Array Value} {below : List Frame} {meth : Method} {c : Code} {s₁ : State} (B : BodyLoose p l (q_row a).1 (headSpec (q_cw (q_row a) :: q_Tw) (q_rm d M Me)) (q_row a).2.1 (q_row a).2.2.1 (q_row a).2.2.2.1 e s m args below meth c s₁), c.maxLocals = (q_row a).2.2.1 → c.exceptionTable.toList = tableOf (q_row a).2.2.2.2.1 → q_Fr p s m args meth c a := by
    intro p e s m args below meth c s₁ B hml htab
    have hts := atoms_spec (ws := q_cw (q_row a) :: q_Tw) B.pre
    refine ⟨B.exec, B.bytes, hml, fun w hw => hts w (List.mem_cons_of_mem _ hw), by rw [← hcls]; exact findClass_of_methodNamed B.named, fun hk => ?_, htab, B.notSynchronized⟩
    rw [hk] at hkind
    simp only [Bool.and_eq_true, decide_eq_true_eq] at hkind
    rw [(name_of_methodNamed B.named B.method).1]
    exact hkind.1.1
  by_cases hh : (q_row a).2.2.2.2.1 = []
  · refine vx_ofW (cc := (q_row a).2.1) (maxL := (q_row a).2.2.1) (ret := (q_row a).2.2.2.1) (ws' := q_Tw) hpl (by unfold q_cw; rw [if_pos hh]) ?_
    intro p e s m args below meth c s₁ B hml ht hv
    refine q_body IH hst h hlen hvs hvM ad (hfr B hml ?_) B.returns hv
    rw [hh]
    cases hl : c.exceptionTable.toList with
    | nil => rfl
    | cons z zs => exact (ht z (by rw [hl]; exact List.mem_cons_self)).elim
  · refine vx_ofWH (cc := (q_row a).2.1) (maxL := (q_row a).2.2.1) (ret := (q_row a).2.2.2.1) (hh := (q_row a).2.2.2.2.1) (ws' := q_Tw) hpl (by unfold q_cw; rw [if_neg hh]) ?_
    intro p e s m args below meth c s₁ B hml hv
    refine q_body IH hst h hlen hvs hvM ad (hfr B hml ?_) B.returns hv
    have hts := atoms_spec (ws := q_cw (q_row a) :: q_Tw) B.pre
    have hcw := hts _ List.mem_cons_self
    unfold q_cw at hcw
    rw [if_neg hh] at hcw
    exact vx_table (x := (q_row a).1) B hcw
end QS
