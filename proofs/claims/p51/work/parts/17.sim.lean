/-! THE MACHINE DOES WHAT THE MINI-MACHINE DOES -/
theorem q_row_get {y : Nat} (h : y < q_mt.length) : q_mt[y]? = some (q_row y) := by
  unfold q_row
  rw [List.getD_eq_getElem?_getD, List.getElem?_eq_getElem h]
  rfl
theorem q_ins_lt {y pc : Nat} {e : Instr × Nat × Nat} (h : q_ins (q_row y).2.2.2.2.2.2.2 pc = some e) : y < q_mt.length := by
  rcases Nat.lt_or_ge y q_mt.length with z | z
  · exact z
  · unfold q_row at h
    rw [List.getD_eq_getElem?_getD, List.getElem?_eq_none z] at h
    simp [q_ins] at h
theorem q_at_ok {y pc a b : Nat} {i : Instr} (h : q_ins (q_row y).2.2.2.2.2.2.2 pc = some (i, a, b)) : decode (q_row y).2.1 pc = .ok (i, q_len i b) ∧ q_eok (q_row y).2.2.2.2.2.2.1 (pc, i, a, b) = true ∧ q_br i a pc = true := by
  have hx := q_xok_all y _ (q_row_get (q_ins_lt h))
  unfold q_ins at h
  obtain ⟨e, h1, h2⟩ := Option.map_eq_some_iff.mp h
  have h3 := List.find?_some h1
  have h4 := List.mem_of_find?_eq_some h1
  simp only [beq_iff_eq] at h3
  obtain ⟨e1, e2⟩ := e
  dsimp only at h2 h3
  subst h2; subst h3
  have h5 := List.all_eq_true.mp hx _ h4
  simp only [q_xe, Bool.and_eq_true, decide_eq_true_eq] at h5
  exact ⟨h5.1.1, h5.1.2, h5.2⟩
set_option maxRecDepth 100000 in
theorem q_hh_all : q_mt.all (fun x => decide (x.2.2.2.2.1 = [])) = true := by decide +kernel
theorem q_hh {y : Nat} (hy : y < q_mt.length) : (q_row y).2.2.2.2.1 = [] := of_decide_eq_true (List.all_eq_true.mp q_hh_all _ (List.mem_of_getElem? (q_row_get hy)))
theorem q_ws {a : Nat} (ha : a < q_mt.length) (hne : a ≠ q_law) : ∀ w ∈ q_cw (q_row a) :: q_Tw, w ∈ q_Tw := by
  intro w hw
  rcases List.mem_cons.mp hw with rfl | hw
  · rcases q_mP_all a _ (q_row_get ha) with h | h
    · exact absurd h hne
    · exact List.mem_filter.mpr h.1
  · exact hw
theorem q_mok_row {a : Nat} (ha : a < q_mt.length) (hne : a ≠ q_law) : q_mok a (q_row a) = true := (q_mok_all a _ (q_row_get ha)).resolve_left hne
theorem q_mP_row {a : Nat} (ha : a < q_mt.length) (hne : a ≠ q_law) : q_mP (q_row a) := (q_mP_all a _ (q_row_get ha)).resolve_left hne
theorem q_lg_len (ad : Nat → Nat) : ∀ (as : List Value), (lg_sl (q_ts ad as)).length = (lg_sl as).length
  | [] => rfl
  | v :: as => by
    have h : ∀ (v : Value) (r : List Value), (lg_sl (v :: r)).length = (if v.category = 2 then 2 else 1) + (lg_sl r).length := by
      intro v r
      cases v <;> simp [lg_sl, Value.category] <;> omega
    show (lg_sl (q_tv ad v :: q_ts ad as)).length = _
    rw [h, h, q_tv_cat, q_lg_len ad as]
theorem q_args_spec {k n : Nat} {st as rest : List Value} (h : q_args k n st = some (as, rest)) : st = as.reverse ++ rest ∧ as.length = (if k = 0 then n else n + 1) := by
  unfold q_args at h
  split at h
  · rename_i hk
    split at h
    · cases h
      rw [if_pos hk, List.reverse_reverse, List.take_append_drop]
      exact ⟨rfl, by rw [List.length_reverse, List.length_take]; omega⟩
    · cases h
  · rename_i hk
    split at h
    · cases h
      rw [if_neg hk, List.reverse_reverse, List.take_append_drop]
      exact ⟨rfl, by rw [List.length_reverse, List.length_take]; omega⟩
    · cases h
section QS
variable {l : Launch} {D : va_G} {tc : Nat → ClassId} {A : Nat → Prop} {X : q_X} {f : Nat}
set_option maxHeartbeats 4000000 in
theorem q_body (IH : q_Sim l D tc A X f) {d a : Nat} {as : List Value} {M Me : q_M} {r : q_O} (h : q_ex X f d a 0 (lv_args 0 as) [] M = some (r, Me)) (hri : ∃ v : Option Value, r = .inl v) (hlen : (lg_sl as).length ≤ (q_row a).2.2.1) (hvs : q_vs M.1.length as) (hvM : q_vM M.1) (ad : Nat → Nat)
    {p : Program} {e : Env} {s : State} {m : MethodId} {args : Array Value} {below : List Frame} {meth : Method} {c : Code} (hF : q_Fr p s m args meth c a) (hr : meth.sig.returnType = (q_row a).2.2.2.1) (hv : q_Pc D tc A ad X as M args s) :
    W p l e (q_rm d M Me) s m args below meth c s.heap [] 0 0 (vx_MQ below (q_Qc D tc A ad M.1.length r Me) q_XC args s (Me.2.1 - M.2.1) (Me.2.2 - M.2.2) A) (entryFrame m args (q_row a).2.2.1) := by
  obtain ⟨rfl, hC, hP, hD⟩ := hv
  rw [lg_entry_eq]
  have hl := lv_entry (q_ts ad as) (n := (q_row a).2.2.1) (by rw [q_lg_len]; exact hlen)
  rw [q_lva_ts] at hl
  have hmono := (q_ex_v X f d a 0 _ _ _ _ _ h ⟨q_lva_v as 0 hvs, q_vs_nil, hvM⟩).2.1
  refine IH d a 0 (lv_args 0 as) [] M r Me h hri ⟨q_lva_v as 0 hvs, q_vs_nil, hvM⟩ p e (q_rm d M Me) s m _ below meth c _ ad M.1.length hF hC (Nat.le_refl _) (Nat.le_refl _) ?_ ad s.heap [] _ 0 0 ⟨q_ag.rf, Nat.le_refl _, hP, hD, va_S.rf⟩ hl (by have := hmono.2.1; show Me.2.1 + 0 ≤ (Me.2.1 - M.2.1) + M.2.1; omega) (by have := hmono.2.2; show Me.2.2 + 0 ≤ (Me.2.2 - M.2.2) + M.2.2; omega)
  obtain ⟨hx, hb, hml, hts, hown, hinit, htab, hlocks⟩ := hF
  refine fun v hv pc b i st ad' H locs ls cells slots hend hdg hWd hc hs => ?_
  · obtain ⟨w1, w2, w3, w4, w5⟩ := hWd
    refine W.widen (k := Me.2.1 - M.2.1) (n := Me.2.2 - M.2.2) hc hs (vx_ret ?_)
    generalize (q_row a).2.2.2.1 = rt at hend hr
    have hq : ∀ t : State, t.heap = H → s.WarmedH t.vm → q_Qc D tc A ad M.1.length r Me (q_ts ad as).toArray s (.returned (v.map (q_tv ad'))) t := fun t ht _ => ⟨v, ad', hv, rfl, w1, by rw [ht]; exact w3, w4, w5.F ht⟩
    unfold q_end at hend
    split at hend
    · split at hend
      · cases hend; exact W.vret hx hb hr hq w5.2.2 hdg
      · cases hend
    · split at hend
      · split at hend
        · rename_i hn; cases hend; exact W.zret hx hb hr hn hq w5.2.2 hdg
        · cases hend
      · cases hend
    · split at hend
      · cases hend; exact W.lret hx hb hr hq w5.2.2 hdg
      · cases hend
    · split at hend
      · cases hend; exact W.fret hx hb hr hq w5.2.2 hdg
      · cases hend
    · split at hend
      · cases hend; exact W.dret hx hb hr hq w5.2.2 hdg
      · cases hend
    · split at hend
      · cases hend; exact W.aret hx hb hr (Or.inl ⟨_, rfl⟩) (Or.inr ⟨_, rfl⟩) hq w5.2.2 hdg
      · cases hend
    · cases hend
set_option maxHeartbeats 4000000 in
theorem q_met (IH : q_Sim l D tc A X f) {d a : Nat} {as : List Value} {M Me : q_M} {r : q_O} (h : q_ex X f d a 0 (lv_args 0 as) [] M = some (r, Me)) (hri : ∃ v : Option Value, r = .inl v) (ha : a < q_mt.length) (hne : a ≠ q_law) (hlen : (lg_sl as).length ≤ (q_row a).2.2.1) (hvs : q_vs M.1.length as) (hvM : q_vM M.1) (ad : Nat → Nat) :
    vx_Met l (q_row a).1 (q_cw (q_row a) :: q_Tw) (q_rm d M Me) (q_Pc D tc A ad X as M) (q_Qc D tc A ad M.1.length r Me) q_XC (Me.2.1 - M.2.1) (Me.2.2 - M.2.2) A := by
  have hok := q_mok_row ha hne
  simp only [q_mok, Bool.and_eq_true, decide_eq_true_eq] at hok
  obtain ⟨⟨⟨⟨⟨hpl, hmh⟩, hpar⟩, hmax⟩, hcls⟩, hkind⟩ := hok
  have hfr : ∀ {p : Program} {e : Env} {s : State} {m : MethodId} {args : Array Value} {below : List Frame} {meth : Method} {c : Code} {s₁ : State} (B : BodyLoose p l (q_row a).1 (headSpec (q_cw (q_row a) :: q_Tw) (q_rm d M Me)) (q_row a).2.1 (q_row a).2.2.1 (q_row a).2.2.2.1 e s m args below meth c s₁), c.maxLocals = (q_row a).2.2.1 → c.exceptionTable.toList = tableOf (q_row a).2.2.2.2.1 → q_Fr p s m args meth c a := by
    intro p e s m args below meth c s₁ B hml htab
    have hts := atoms_spec (ws := q_cw (q_row a) :: q_Tw) B.pre
    refine ⟨B.exec, B.bytes, hml, fun w hw => hts w (List.mem_cons_of_mem _ hw), by rw [← hcls]; exact findClass_of_methodNamed B.named, fun hk => ?_, htab, B.notSynchronized⟩
    rw [hk] at hkind
    simp only [Bool.and_eq_true, decide_eq_true_eq] at hkind
    rw [(name_of_methodNamed B.named B.method).1]
    exact hkind.1.1
  by_cases hh : (q_row a).2.2.2.2.1 = []
  · refine vx_ofW (cc := (q_row a).2.1) (maxL := (q_row a).2.2.1) (ret := (q_row a).2.2.2.1) (ws' := q_Tw) hpl (by unfold q_cw; rw [if_pos hh]) ?_
    intro p e s m args below meth c s₁ B hml ht hv
    refine q_body IH h hri hlen hvs hvM ad (hfr B hml ?_) B.returns hv
    rw [hh]
    cases hl : c.exceptionTable.toList with
    | nil => rfl
    | cons z zs => exact (ht z (by rw [hl]; exact List.mem_cons_self)).elim
  · refine vx_ofWH (cc := (q_row a).2.1) (maxL := (q_row a).2.2.1) (ret := (q_row a).2.2.2.1) (hh := (q_row a).2.2.2.2.1) (ws' := q_Tw) hpl (by unfold q_cw; rw [if_neg hh]) ?_
    intro p e s m args below meth c s₁ B hml hv
    refine q_body IH h hri hlen hvs hvM ad (hfr B hml ?_) B.returns hv
    have hts := atoms_spec (ws := q_cw (q_row a) :: q_Tw) B.pre
    have hcw := hts _ List.mem_cons_self
    unfold q_cw at hcw
    rw [if_neg hh] at hcw
    exact vx_table (x := (q_row a).1) B hcw
end QS
