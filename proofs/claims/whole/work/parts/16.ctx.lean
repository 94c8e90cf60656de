/-! what holds of the state beside a world; a call's contract by a run of the mini-machine -/
/-- the String constants' contents, and String's own static -/
def q_Sx (A : Nat → Prop) (ad : Nat → Nat) (s : State) (H : Heap) : Prop :=
  (∀ j : Nat, j < q_sc.length → ∃ av : Nat, va_O "java/lang/String" (ad (q_big + 1 + j)) A s H ∧ va_OF "java/lang/String" "coder" "B" (.int 0) (ad (q_big + 1 + j)) A s H ∧ va_OF "java/lang/String" "value" "[B" (.ref av) (ad (q_big + 1 + j)) A s H ∧ va_T .byte av (q_sc.getD j default).2.2.2.length (fun k => .int ((q_sc.getD j default).2.2.2.getD k 0)) A s H) ∧
  va_Z "java/lang/String" "COMPACT_STRINGS" "Z" (.int 1) A s H ∧ va_Zq "jdk/internal/util/Preconditions" "SIOOBE_FORMATTER" "Ljava/util/function/BiFunction;" A s H
theorem q_Sx.moved {A : Nat → Prop} {ad : Nat → Nat} {u U : State} {H : Heap} (hvm : u.vm.Alike U.vm) (h : q_Sx A ad u H) : q_Sx A ad U H := by
  refine ⟨fun j hj => ?_, va_Z.moved hvm h.2.1, va_Zq.moved hvm h.2.2⟩
  obtain ⟨av, h1, h2, h3, h4⟩ := h.1 j hj
  exact ⟨av, va_O.moved hvm h1, va_OF.moved hvm h2, va_OF.moved hvm h3, va_T.moved hvm h4⟩
theorem q_Sx.kept {A : Nat → Prop} {ad : Nat → Nat} {U : State} {H H1 : Heap} (h : q_Sx A ad U H) (hq : ∀ a : Nat, a < H.size → ¬ A a → H1[a]? = H[a]?) : q_Sx A ad U H1 := by
  refine ⟨fun j hj => ?_, h.2.1.kept hq, h.2.2.kept hq⟩
  obtain ⟨av, h1, h2, h3, h4⟩ := h.1 j hj
  exact ⟨av, h1.kept hq, h2.kept hq, h3.kept hq, h4.kept hq⟩
theorem q_Sx.ag {A : Nat → Prop} {n : Nat} {ad ad' : Nat → Nat} {U : State} {H : Heap} (hag : q_ag n ad ad') (h : q_Sx A ad U H) : q_Sx A ad' U H := by
  refine ⟨fun j hj => ?_, h.2⟩
  obtain ⟨av, h1, h2, h3, h4⟩ := h.1 j hj
  have e : ad' (q_big + 1 + j) = ad (q_big + 1 + j) := hag _ (Or.inr (by omega))
  exact ⟨av, by rw [e]; exact h1, by rw [e]; exact h2, by rw [e]; exact h3, h4⟩
theorem q_St.ag {n : Nat} {ad ad' : Nat → Nat} {s : State} (hag : q_ag n ad ad') (h : q_St ad s) : q_St ad' s := by
  intro b hb
  rw [hag (q_big + 1 + b) (Or.inr (by omega))]
  exact h b hb
/-- words of the exceptions that the tables alone decide -/
def q_Dw : List Cond := [.declares ⟨"java/lang/RuntimeException", "<init>", "()V"⟩, .declares ⟨"java/lang/Exception", "<init>", "()V"⟩, .declares ⟨"java/lang/Throwable", "<init>", "()V"⟩, .castable "java/util/NoSuchElementException" "java/util/NoSuchElementException", .castable "java/lang/IllegalArgumentException" "java/lang/IllegalArgumentException"]
theorem q_Dw_warm {s U : State} (hW : s.WarmedH U.vm) (h : ∀ w ∈ q_Dw, va_Nw w s) : ∀ w ∈ q_Dw, va_Nw w U := by
  intro w hw
  have h9 := h w hw
  simp only [q_Dw, List.mem_cons, List.not_mem_nil, or_false] at hw
  rcases hw with rfl | rfl | rfl | rfl | rfl
  · exact va_Nw.warmD hW h9
  · exact va_Nw.warmD hW h9
  · exact va_Nw.warmD hW h9
  · exact va_Nw.warmC hW h9
  · exact va_Nw.warmC hW h9
theorem q_Dw_use {s : State} {args : Array Value} (h : ∀ w ∈ q_Dw, va_Nw w s) : ∀ w ∈ q_Dw, w.before args s = true := by
  intro w hw
  have h9 := h w hw
  simp only [q_Dw, List.mem_cons, List.not_mem_nil, or_false] at hw
  rcases hw with rfl | rfl | rfl | rfl | rfl <;> exact va_Nw.use rfl h9
def q_Cx (D : va_G) (tc : Nat → ClassId) (A : Nat → Prop) (ad : Nat → Nat) (X : q_X) (s : State) : Prop :=
  va_K D q_cl (q_tys tc) s ∧ q_St ad s ∧ (va_X (ad q_big) X.1 X.2 s s.heap ∧ ad q_big < s.heap.size ∧ ¬ A (ad q_big)) ∧ (va_AO "FadingTrumps$Table" s ∧ va_AO "FadingTrumps$Trick" s) ∧
  (vx_Zq Bundle.tN "UNASSIGNED_STACK" Bundle.steD A s s.heap ∧ vx_Zq Bundle.tN "SUPPRESSED_SENTINEL" Bundle.listD A s s.heap) ∧ va_Nc "java/lang/IllegalArgumentException" "java/util/NoSuchElementException" s ∧ (∀ q : Nat, s.heap.size ≤ q → A q) ∧ q_Sx A ad s s.heap ∧ ∀ w ∈ q_Dw, va_Nw w s
theorem q_Cx.step {D : va_G} {tc : Nat → ClassId} {A : Nat → Prop} {ad : Nat → Nat} {X : q_X} {s U : State} {locs : List Loc} (h : q_Cx D tc A ad X s) (hW : s.WarmedH U.vm) (hS : va_S A s.heap U.heap locs) : q_Cx D tc A ad X U := by
  obtain ⟨h1, h2, ⟨h3, h4, h5⟩, ⟨h6, h7⟩, ⟨h8, h9⟩, h10, h11, h12, h13⟩ := h
  have hk := hS.2.1
  refine ⟨h1.moved hW.alike, fun b hb => (h2 b hb).warm hW, ⟨(h3.kept (hk _ h4 h5)).moved hW.alike, Nat.lt_of_lt_of_le h4 hS.1, h5⟩, ⟨h6.moved hW.alike, h7.moved hW.alike⟩, ⟨(h8.kept hk).moved hW.alike, (h9.kept hk).moved hW.alike⟩, h10.moved hW.alike, fun q hq => h11 q (Nat.le_trans hS.1 hq), (h12.kept hk).moved hW.alike, q_Dw_warm hW h13⟩
theorem q_Cx.ag {D : va_G} {tc : Nat → ClassId} {A : Nat → Prop} {n : Nat} {ad ad' : Nat → Nat} {X : q_X} {s : State} (hag : q_ag n ad ad') (h : q_Cx D tc A ad X s) : q_Cx D tc A ad' X s := by
  obtain ⟨h1, h2, ⟨h3, h4, h5⟩, h6, h8, h10, h11, h12, h13⟩ := h
  have e : ad' q_big = ad q_big := hag _ (Or.inr (Nat.le_refl _))
  exact ⟨h1, h2.ag hag, ⟨by rw [e]; exact h3, by rw [e]; exact h4, by rw [e]; exact h5⟩, h6, h8, h10, h11, h12.ag hag, h13⟩
/-- the frame's own facts -/
def q_Fr (p : Program) (s : State) (m : MethodId) (args : Array Value) (meth : Method) (c : Code) (y : Nat) : Prop :=
  p.tables.exec = Jvm.exec ∧ c.code = (q_row y).2.1 ∧ c.maxLocals = (q_row y).2.2.1 ∧ (∀ w ∈ q_Tw, w.before args s = true) ∧ s.vm.findClass (q_cn (q_row y).2.2.2.2.2.2.1) = some m.cls ∧ ((q_row y).2.2.2.2.2.1 = 2 → meth.name = "<init>") ∧ c.exceptionTable.toList = tableOf (q_row y).2.2.2.2.1 ∧ meth.locks = false
def q_Wd (D : va_G) (tc : Nat → ClassId) (A : Nat → Prop) (ad0 : Nat → Nat) (n0 : Nat) (s : State) (ad : Nat → Nat) (H : Heap) (locs : List Loc) (M : List va_E) : Prop :=
  q_ag n0 ad0 ad ∧ n0 ≤ M.length ∧ va_P D q_cl (q_rz ad tc M) H ∧ va_D A (q_rz ad tc M) ∧ va_S A s.heap H locs
/-- the four rows of 'throw new E()' -/
def q_thr (y pc b : Nat) : Prop := decode (q_row y).2.1 (pc + 3) = .ok (.dup, 1) ∧ decode (q_row y).2.1 (pc + 4) = .ok (.invokespecial b, 3) ∧ decode (q_row y).2.1 (pc + 7) = .ok (.athrow, 1)
/-- the ends of a walk: an answer, a throw of its own, a throw that came from a call -/
def q_Ends (D : va_G) (tc : Nat → ClassId) (A : Nat → Prop) (p : Program) (l : Launch) (e : Env) (R : Room) (s : State) (m : MethodId) (args : Array Value) (below : List Frame) (meth : Method) (c : Code) (Q : State → Prop) (y : Nat) (ad0 : Nat → Nat) (n0 : Nat) (r : q_O) (Me : q_M) : Prop :=
  (∀ v : Option Value, r = .inl v → ∀ (pc b : Nat) (i : Instr) (st : List Value) (ad : Nat → Nat) (H : Heap) (locs : List Loc) (ls : Array Slot) (cells slots : Nat), q_end (q_row y).2.2.2.1 i st = some v → decode (q_row y).2.1 pc = .ok (i, q_len i b) → q_Wd D tc A ad0 n0 s ad H locs Me.1 → cells ≤ R.cells → slots ≤ R.slots → W p l e R s m args below meth c H locs cells slots Q (F0 m pc ls (q_ts ad st))) ∧
  ∀ E : String, r = .inr E →
    (∀ (pc a b idx : Nat) (st : List Value) (ad : Nat → Nat) (H : Heap) (locs : List Loc) (ls : Array Slot) (cells slots : Nat), q_exn a = some E → decode (q_row y).2.1 pc = .ok (.new idx, 3) → q_eok (q_row y).2.2.2.2.2.2.1 (pc, .new idx, a, b) = true → (q_thr y pc b ∧ (q_row y).2.2.2.2.2.2.1 = 10 ∧ ((a = 1000 ∧ b = 199) ∨ (a = 1001 ∧ b = 114))) → (q_row y).2.2.2.2.1 = [] → ls.size = c.maxLocals → q_Wd D tc A ad0 n0 s ad H locs Me.1 → (st.map fun v => v.category).sum ≤ 8 → cells + 1 ≤ R.cells → slots + 6 ≤ R.slots → W p l e R s m args below meth c H locs cells slots Q (F0 m pc ls (q_ts ad st))) ∧
    ∀ (pc : Nat) (ad : Nat → Nat) (H : Heap) (locs : List Loc) (ls : Array Slot) (rest : List Value) (cells slots : Nat) (q : Addr) (ce : Cell), (q_row y).2.2.2.2.1 = [] → q_Wd D tc A ad0 n0 s ad H locs Me.1 → H[q]? = some ce → ce.vm = .none → s.vm.findClass E = some ce.cls → cells ≤ R.cells → slots ≤ R.slots → vx_W p l e R s m args below meth c H locs cells slots Q (F0 m pc ls rest) q
def q_Sim (l : Launch) (D : va_G) (tc : Nat → ClassId) (A : Nat → Prop) (X : q_X) (f : Nat) : Prop :=
  ∀ (d y pc : Nat) (lv : q_L) (st : List Value) (Mw : q_M) (r : q_O) (Me : q_M), q_ex X f d y pc lv st Mw = some (r, Me) → q_V lv st Mw →
  ∀ (p : Program) (e : Env) (R : Room) (s : State) (m : MethodId) (args : Array Value) (below : List Frame) (meth : Method) (c : Code) (Q : State → Prop) (ad0 : Nat → Nat) (n0 : Nat), q_Fr p s m args meth c y → q_Cx D tc A ad0 X s → d + 9 ≤ R.frames → 100 * d + 300 ≤ R.locals → q_Ends D tc A p l e R s m args below meth c Q y ad0 n0 r Me →
  ∀ (ad : Nat → Nat) (H : Heap) (locs : List Loc) (ls : Array Slot) (cells slots : Nat), q_Wd D tc A ad0 n0 s ad H locs Mw.1 → lv_has ls (q_row y).2.2.1 (q_tl ad lv) → Me.2.1 + cells ≤ R.cells + Mw.2.1 → Me.2.2 + slots ≤ R.slots + Mw.2.2 →
  W p l e R s m args below meth c H locs cells slots Q (F0 m pc ls (q_ts ad st))
/-- a callee's contract -/
def q_Qc (D : va_G) (tc : Nat → ClassId) (A : Nat → Prop) (ad : Nat → Nat) (n : Nat) (r : q_O) (Me : q_M) : Array Value → State → Outcome → State → Prop := fun _ st o t =>
  ∃ (v : Option Value) (ad' : Nat → Nat), r = .inl v ∧ o = .returned (v.map (q_tv ad')) ∧ q_ag n ad ad' ∧ va_P D q_cl (q_rz ad' tc Me.1) t.heap ∧ va_D A (q_rz ad' tc Me.1) ∧ va_F A st t
def q_XC (D : va_G) (tc : Nat → ClassId) (A : Nat → Prop) (ad : Nat → Nat) (n : Nat) (r : q_O) (Me : q_M) : String → State → State → Prop := fun E st t =>
  ∃ ad' : Nat → Nat, r = .inr E ∧ q_ag n ad ad' ∧ va_P D q_cl (q_rz ad' tc Me.1) t.heap ∧ va_D A (q_rz ad' tc Me.1) ∧ va_F A st t
abbrev q_rm (d : Nat) (M Me : q_M) : Room := { frames := d + 9, cells := Me.2.1 - M.2.1, slots := Me.2.2 - M.2.2, locals := 100 * d + 300 }
def q_Pc (D : va_G) (tc : Nat → ClassId) (A : Nat → Prop) (ad : Nat → Nat) (X : q_X) (as : List Value) (M : q_M) : Array Value → State → Prop := va_Pc (q_ts ad as) (fun U => q_Cx D tc A ad X U ∧ va_P D q_cl (q_rz ad tc M.1) U.heap ∧ va_D A (q_rz ad tc M.1))
theorem q_lva_ts (ad : Nat → Nat) : ∀ (as : List Value) (k : Nat), lv_args k (q_ts ad as) = q_tl ad (lv_args k as)
  | [], _ => rfl
  | v :: as, k => by
    show (k, q_tv ad v) :: lv_args (if (q_tv ad v).category = 2 then k + 2 else k + 1) (q_ts ad as) = (k, q_tv ad v) :: q_tl ad (lv_args (if v.category = 2 then k + 2 else k + 1) as)
    rw [q_tv_cat, q_lva_ts ad as]
theorem q_Pc_blind {D : va_G} {tc : Nat → ClassId} {A : Nat → Prop} {ad : Nat → Nat} {X : q_X} {as : List Value} {M : q_M} : FrameBlind (q_Pc D tc A ad X as M) := by
  intro a U g mk h
  obtain ⟨h1, h2, h3, h4⟩ := h
  exact ⟨h1, h2.step (U := U.calling g mk a) (locs := []) (State.WarmedH.refl U) va_S.rf, h3, h4⟩
