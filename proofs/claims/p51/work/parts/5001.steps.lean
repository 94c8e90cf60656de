/-! a step and a call of the law itself, told alone -/
section EN
variable {l : Launch} {D : va_G} {tc : Nat → ClassId} {A : Nat → Prop} {X : q_X}
variable {p : Program} {e : Env} {R : Room} {s : State} {m : MethodId} {args : Array Value} {below : List Frame} {meth : Method} {c : Code} {Q : State → Prop}
/-- from any world that stands for M at this place, all that is made counted -/
def WK (D : va_G) (tc : Nat → ClassId) (A : Nat → Prop) (p : Program) (l : Launch) (e : Env) (R : Room) (s : State) (m : MethodId) (args : Array Value) (below : List Frame) (meth : Method) (c : Code) (Q : State → Prop) (ad0 : Nat → Nat) (y pc : Nat) (lv : q_L) (st : List Value) (M : q_M) : Prop := ∀ (ad : Nat → Nat) (H : Heap) (locs : List Loc) (ls : Array Slot), q_Wd D tc A ad0 0 s ad H locs M.1 → lv_has ls (q_row y).2.2.1 (q_tl ad lv) → W p l e R s m args below meth c H locs M.2.1 M.2.2 Q (F0 m pc ls (q_ts ad st))
variable {ad0 : Nat → Nat} {y pc a b : Nat} {lv : q_L} {st : List Value} {M : q_M} {i : Instr}
set_option maxHeartbeats 4000000 in
theorem w_stp {pc' : Nat} {lv' : q_L} {st' : List Value} {M' : q_M} (hF : q_Fr p s m args meth c y) (hC0 : q_Cx D tc A ad0 X s) (hins : q_ins (q_row y).2.2.2.2.2.2.2 pc = some (i, a, b)) (hstp : q_stp X (q_row y).2.2.2.2.2.2.1 ((q_row y).2.2.2.2.2.1 == 2) (q_row y).2.2.1 i a b pc lv st M = some (pc', lv', st', M')) (hV : q_V lv st M) (hb : M'.2.1 ≤ R.cells ∧ M'.2.2 ≤ R.slots) (k : WK D tc A p l e R s m args below meth c Q ad0 y pc' lv' st' M') : WK D tc A p l e R s m args below meth c Q ad0 y pc lv st M := by
  intro ad H locs ls hWd hl
  obtain ⟨hdg, hlk, hbr⟩ := q_at_ok hins
  obtain ⟨w1, w2, hP, hD, hS⟩ := id hWd
  have hC : q_Cx D tc A ad X s := hC0.ag w1
  obtain ⟨hx, hbc, hml, hts, hown, hinit, htab, hlocks⟩ := id hF
  obtain ⟨hK, hZ, ⟨hX, hbl, hbA⟩, hAO, hA, hSx⟩ := id hC
  refine q_stp_ok hx hbc hstp hdg hts hlk hbr hown (fun hz => hinit (by simpa using hz)) hZ hK hP hD hS hA hX hbl hbA hAO hV.2.2 hV.2.1 hV.1 hl (by omega) (by omega) (fun ad' H1 locs1 ls' cells' slots' hag e1 e2 hl' g1 g2 g3 => ?_)
  rw [show cells' = M'.2.1 by omega, show slots' = M'.2.2 by omega]
  exact k ad' H1 locs1 ls' ⟨w1.trans hag (Nat.zero_le _), Nat.zero_le _, g1, g2, g3⟩ hl'
set_option maxHeartbeats 4000000 in
theorem w_call {f d' idx : Nat} {as rest : List Value} {v : Option Value} {M' : q_M} (IH : q_Sim l D tc A X f) (hF : q_Fr p s m args meth c y) (hC0 : q_Cx D tc A ad0 X s) (hins : q_ins (q_row y).2.2.2.2.2.2.2 pc = some (i, a, b)) (hinv : q_inv i = some idx) (ha9 : ¬ 900 ≤ a) (hargs : q_args (q_row a).2.2.2.2.2.1 b st = some (as, rest)) (hcond : (rest.map fun v => v.category).sum ≤ 8 ∧ a < q_mt.length ∧ a ≠ q_law ∧ (lg_sl as).length ≤ (q_row a).2.2.1 ∧ q_rcv (q_row a).2.2.2.2.2.1 (q_row a).2.2.2.2.2.2.1 as M.1 = true) (hcall : q_ex X f d' a 0 (lv_args 0 as) [] M = some (.inl v, M')) (hV : q_V lv st M) (hRf : d' + 1 + 4 ≤ R.frames) (hRl : 37 * (d' + 1) + 120 ≤ R.locals) (hb : M'.2.1 ≤ R.cells ∧ M'.2.2 ≤ R.slots) (k : WK D tc A p l e R s m args below meth c Q ad0 y (pc + 3) lv (v.toList ++ rest) M') : WK D tc A p l e R s m args below meth c Q ad0 y pc lv st M := by
  intro ad H locs ls hWd hl
  obtain ⟨hdg, hlk, hbr⟩ := q_at_ok hins
  obtain ⟨w1, w2, hP, hD, hS⟩ := id hWd
  have hC : q_Cx D tc A ad X s := hC0.ag w1
  obtain ⟨c1, c2, c3, c4, c5⟩ := hcond
  obtain ⟨u1, u2⟩ := q_args_v hargs hV.2.1
  obtain ⟨x1, x2, x3⟩ := q_ex_v X f d' a 0 _ _ _ _ _ hcall ⟨q_lva_v as 0 u1, q_vs_nil, hV.2.2⟩
  have b1 := x2.2.1
  have b2 := x2.2.2
  obtain ⟨av, hrun⟩ := q_call (e := e) (below := below) (R := R) (cells := M.2.1) (slots := M.2.2) IH hcall ⟨v, rfl⟩ c2 c3 ha9 c4 c5 hargs c1 u1 hV.2.2 hinv hdg hlk hF hl.1 hC hP hD hS hRf hRl ⟨by omega, by omega⟩
  intro T hT XS
  rcases hrun T hT XS with ⟨v', st₀, t, T', L, h0, X', hL, e1, e2, ⟨v0, ad', hrv, hov, hag, hP', hD', hFr⟩, hgo⟩ | ⟨q, st₀, t, T', L, E, ce, h0, X', hL, e1, e2, hno, hce, hcv, hcl, hgo⟩
  · cases hrv
    cases hov
    obtain ⟨k1, k2, k3⟩ := vx_keep h0 e1 hS (fun _ _ z => z) (fun _ z => z) hL hFr
    have hag2 : q_ag 0 ad0 ad' := w1.trans hag (Nat.zero_le _)
    have hw := k ad' T'.heap (locs ++ L) ls ⟨hag2, Nat.zero_le _, by rw [e1]; exact hP', hD', k3⟩ (by rw [q_tl_ag hag hV.1]; exact hl)
    have e9 : q_ts ad' (v.toList ++ rest) = (v.map (q_tv ad')).toList ++ q_ts ad rest := by
      have : q_ts ad' rest = q_ts ad rest := q_ts_ag hag u2
      rw [← this]
      cases v <;> simp [q_ts]
    rw [e9] at hw
    rw [show M'.2.1 = M.2.1 + (M'.2.1 - M.2.1) by omega, show M'.2.2 = M.2.2 + (M'.2.2 - M.2.2) by omega] at hw
    obtain ⟨t2, y1, y2⟩ := hw T' rfl X'
    exact ⟨t2, hgo t2 y1, y2⟩
  · exact hno.elim
/-- a call's world stays one -/
theorem v_call {f d' : Nat} {as rest : List Value} {v : Option Value} {M' : q_M} (hargs : q_args (q_row a).2.2.2.2.2.1 b st = some (as, rest)) (hcall : q_ex X f d' a 0 (lv_args 0 as) [] M = some (.inl v, M')) (hV : q_V lv st M) : q_V lv (v.toList ++ rest) M' := by
  obtain ⟨u1, u2⟩ := q_args_v hargs hV.2.1
  obtain ⟨x1, x2, x3⟩ := q_ex_v X f d' a 0 _ _ _ _ _ hcall ⟨q_lva_v as 0 u1, q_vs_nil, hV.2.2⟩
  have hvv : q_vs M'.1.length v.toList := by
    cases v with
    | none => exact q_vs_nil
    | some v => exact q_vs_c.mpr ⟨x3 v rfl, q_vs_nil⟩
  exact ⟨hV.1.mono x2.1, q_vs_app hvv (u2.mono x2.1), x1⟩
end EN
