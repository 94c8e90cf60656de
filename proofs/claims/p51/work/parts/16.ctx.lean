/-! what holds of the state beside a world; a call's contract by a run of the mini-machine -/
/-- the String constants' contents, and String's own static -/
def q_Sx (A : Nat → Prop) (ad : Nat → Nat) (s : State) (H : Heap) : Prop :=
  (∀ j : Nat, j < q_sc.length → ∃ av : Nat, va_O "java/lang/String" (ad (q_big + 1 + j)) A s H ∧ va_OF "java/lang/String" "coder" "B" (.int 0) (ad (q_big + 1 + j)) A s H ∧ va_OF "java/lang/String" "value" "[B" (.ref av) (ad (q_big + 1 + j)) A s H ∧ va_T .byte av (q_sc.getD j default).2.2.2.length (fun k => .int ((q_sc.getD j default).2.2.2.getD k 0)) A s H) ∧
  va_Z "java/lang/String" "COMPACT_STRINGS" "Z" (.int 1) A s H ∧ va_Zq "jdk/internal/util/Preconditions" "SIOOBE_FORMATTER" "Ljava/util/function/BiFunction;" A s H
theorem q_Sx.moved {A : Nat → Prop} {ad : Nat → Nat} {u U : State} {H : Heap} (hvm : u.vm.Alike U.vm) (h : q_Sx A ad u H) : q_Sx A ad U H := by
  refine ⟨fun j hj => ?_, va_Z.moved hvm h.2.1, va_Zq.moved hvm h.2.2⟩
  obtain ⟨av, h1, h2, h3, h4⟩ := h.1 j hj
  exact ⟨av, va_O.moved hvm h1, va_OF.moved hvm h2, va_OF.moved hvm h3, va_T.moved hvm h4⟩
theorem q_Sx.kept {A : Nat → Prop} {ad : Nat → Nat} {U : State} {H H1 : Heap} (h : q_Sx A ad U H) (hq : ∀ a : Nat, a < H.size → ¬ A a → H1[a]? = H[a]?) : q_Sx A ad U H1 := by
  refine ⟨fun j hj => ?_, h.2.1.kept hq, h.2.2.kept hq⟩
  obtain ⟨av, h1, h2, h3, h4⟩ := h.1 j hj
  exact ⟨av, h1.kept hq, h2.kept hq, h3.kept hq, h4.kept hq⟩
theorem q_Sx.ag {A : Nat → Prop} {n : Nat} {ad ad' : Nat → Nat} {U : State} {H : Heap} (hag : q_ag n ad ad') (h : q_Sx A ad U H) : q_Sx A ad' U H := by
  refine ⟨fun j hj => ?_, h.2⟩
  obtain ⟨av, h1, h2, h3, h4⟩ := h.1 j hj
  have e : ad' (q_big + 1 + j) = ad (q_big + 1 + j) := hag _ (Or.inr (by omega))
  exact ⟨av, by rw [e]; exact h1, by rw [e]; exact h2, by rw [e]; exact h3, h4⟩
theorem q_St.ag {n : Nat} {ad ad' : Nat → Nat} {s : State} (hag : q_ag n ad ad') (h : q_St ad s) : q_St ad' s := by
  intro b hb
  rw [hag (q_big + 1 + b) (Or.inr (by omega))]
  exact h b hb
def q_Cx (D : va_G) (tc : Nat → ClassId) (A : Nat → Prop) (ad : Nat → Nat) (X : q_X) (s : State) : Prop :=
  va_K D q_cl (q_tys tc) s ∧ q_St ad s ∧ (va_X (ad q_big) X.1 X.2 s s.heap ∧ ad q_big < s.heap.size ∧ ¬ A (ad q_big)) ∧ (va_AO "FadingTrumps$Table" s ∧ va_AO "FadingTrumps$Trick" s) ∧
  (∀ q : Nat, s.heap.size ≤ q → A q) ∧ q_Sx A ad s s.heap
theorem q_Cx.step {D : va_G} {tc : Nat → ClassId} {A : Nat → Prop} {ad : Nat → Nat} {X : q_X} {s U : State} {locs : List Loc} (h : q_Cx D tc A ad X s) (hW : s.WarmedH U.vm) (hS : va_S A s.heap U.heap locs) : q_Cx D tc A ad X U := by
  obtain ⟨h1, h2, ⟨h3, h4, h5⟩, ⟨h6, h7⟩, h11, h12⟩ := h
  have hk := hS.2.1
  refine ⟨h1.moved hW.alike, fun b hb => (h2 b hb).warm hW, ⟨(h3.kept (hk _ h4 h5)).moved hW.alike, Nat.lt_of_lt_of_le h4 hS.1, h5⟩, ⟨h6.moved hW.alike, h7.moved hW.alike⟩, fun q hq => h11 q (Nat.le_trans hS.1 hq), (h12.kept hk).moved hW.alike⟩
theorem q_Cx.ag {D : va_G} {tc : Nat → ClassId} {A : Nat → Prop} {n : Nat} {ad ad' : Nat → Nat} {X : q_X} {s : State} (hag : q_ag n ad ad') (h : q_Cx D tc A ad X s) : q_Cx D tc A ad' X s := by
  obtain ⟨h1, h2, ⟨h3, h4, h5⟩, h6, h11, h12⟩ := h
  have e : ad' q_big = ad q_big := hag _ (Or.inr (Nat.le_refl _))
  exact ⟨h1, h2.ag hag, ⟨by rw [e]; exact h3, by rw [e]; exact h4, by rw [e]; exact h5⟩, h6, h11, h12.ag hag⟩
/-- the frame's own facts -/
def q_Fr (p : Program) (s : State) (m : MethodId) (args : Array Value) (meth : Method) (c : Code) (y : Nat) : Prop :=
  p.tables.exec = Jvm.exec ∧ c.code = (q_row y).2.1 ∧ c.maxLocals = (q_row y).2.2.1 ∧ (∀ w ∈ q_Tw, w.before args s = true) ∧ s.vm.findClass (q_cn (q_row y).2.2.2.2.2.2.1) = some m.cls ∧ ((q_row y).2.2.2.2.2.1 = 2 → meth.name = "<init>") ∧ c.exceptionTable.toList = tableOf (q_row y).2.2.2.2.1 ∧ meth.locks = false
def q_Wd (D : va_G) (tc : Nat → ClassId) (A : Nat → Prop) (ad0 : Nat → Nat) (n0 : Nat) (s : State) (ad : Nat → Nat) (H : Heap) (locs : List Loc) (M : List va_E) : Prop :=
  q_ag n0 ad0 ad ∧ n0 ≤ M.length ∧ va_P D q_cl (q_rz ad tc M) H ∧ va_D A (q_rz ad tc M) ∧ va_S A s.heap H locs
/-- the ends of a walk: an answer, a throw of its own, a throw that came from a call -/
def q_Ends (D : va_G) (tc : Nat → ClassId) (A : Nat → Prop) (p : Program) (l : Launch) (e : Env) (R : Room) (s : State) (m : MethodId) (args : Array Value) (below : List Frame) (meth : Method) (c : Code) (Q : State → Prop) (y : Nat) (ad0 : Nat → Nat) (n0 : Nat) (r : q_O) (Me : q_M) : Prop :=
  (∀ v : Option Value, r = .inl v → ∀ (pc b : Nat) (i : Instr) (st : List Value) (ad : Nat → Nat) (H : Heap) (locs : List Loc) (ls : Array Slot) (cells slots : Nat), q_end (q_row y).2.2.2.1 i st = some v → decode (q_row y).2.1 pc = .ok (i, q_len i b) → q_Wd D tc A ad0 n0 s ad H locs Me.1 → cells ≤ R.cells → slots ≤ R.slots → W p l e R s m args below meth c H locs cells slots Q (F0 m pc ls (q_ts ad st)))
def q_Sim (l : Launch) (D : va_G) (tc : Nat → ClassId) (A : Nat → Prop) (X : q_X) (f : Nat) : Prop :=
  ∀ (d y pc : Nat) (lv : q_L) (st : List Value) (Mw : q_M) (r : q_O) (Me : q_M), q_ex X f d y pc lv st Mw = some (r, Me) → (∃ v : Option Value, r = .inl v) → q_V lv st Mw →
  ∀ (p : Program) (e : Env) (R : Room) (s : State) (m : MethodId) (args : Array Value) (below : List Frame) (meth : Method) (c : Code) (Q : State → Prop) (ad0 : Nat → Nat) (n0 : Nat), q_Fr p s m args meth c y → q_Cx D tc A ad0 X s → d + 4 ≤ R.frames → 37 * d + 120 ≤ R.locals → q_Ends D tc A p l e R s m args below meth c Q y ad0 n0 r Me →
  ∀ (ad : Nat → Nat) (H : Heap) (locs : List Loc) (ls : Array Slot) (cells slots : Nat), q_Wd D tc A ad0 n0 s ad H locs Mw.1 → lv_has ls (q_row y).2.2.1 (q_tl ad lv) → Me.2.1 + cells ≤ R.cells + Mw.2.1 → Me.2.2 + slots ≤ R.slots + Mw.2.2 →
  W p l e R s m args below meth c H locs cells slots Q (F0 m pc ls (q_ts ad st))
/-- a callee's contract -/
def q_Qc (D : va_G) (tc : Nat → ClassId) (A : Nat → Prop) (ad : Nat → Nat) (n : Nat) (r : q_O) (Me : q_M) : Array Value → State → Outcome → State → Prop := fun _ st o t =>
  ∃ (v : Option Value) (ad' : Nat → Nat), r = .inl v ∧ o = .returned (v.map (q_tv ad')) ∧ q_ag n ad ad' ∧ va_P D q_cl (q_rz ad' tc Me.1) t.heap ∧ va_D A (q_rz ad' tc Me.1) ∧ va_F A st t
def q_XC : String → State → State → Prop := fun _ _ _ => False
abbrev q_rm (d : Nat) (M Me : q_M) : Room := { frames := d + 4, cells := Me.2.1 - M.2.1, slots := Me.2.2 - M.2.2, locals := 37 * d + 120 }
def q_Pc (D : va_G) (tc : Nat → ClassId) (A : Nat → Prop) (ad : Nat → Nat) (X : q_X) (as : List Value) (M : q_M) : Array Value → State → Prop := va_Pc (q_ts ad as) (fun U => q_Cx D tc A ad X U ∧ va_P D q_cl (q_rz ad tc M.1) U.heap ∧ va_D A (q_rz ad tc M.1))
theorem q_lva_ts (ad : Nat → Nat) : ∀ (as : List Value) (k : Nat), lv_args k (q_ts ad as) = q_tl ad (lv_args k as)
  | [], _ => rfl
  | v :: as, k => by
    show (k, q_tv ad v) :: lv_args (if (q_tv ad v).category = 2 then k + 2 else k + 1) (q_ts ad as) = (k, q_tv ad v) :: q_tl ad (lv_args (if v.category = 2 then k + 2 else k + 1) as)
    rw [q_tv_cat, q_lva_ts ad as]
theorem q_Pc_blind {D : va_G} {tc : Nat → ClassId} {A : Nat → Prop} {ad : Nat → Nat} {X : q_X} {as : List Value} {M : q_M} : FrameBlind (q_Pc D tc A ad X as M) := by
  intro a U g mk h
  obtain ⟨h1, h2, h3, h4⟩ := h
  exact ⟨h1, h2.step (U := U.calling g mk a) (locs := []) (State.WarmedH.refl U) va_S.rf, h3, h4⟩
