/-! STRING CONSTANTS: String.length and charAt, walked -/
def st_len : MethodName := ⟨"java/lang/String", "length", "()I"⟩
def st_chr : MethodName := ⟨"java/lang/String", "charAt", "(I)C"⟩
def st_cod : MethodName := ⟨"java/lang/String", "coder", "()B"⟩
def st_lat : MethodName := ⟨"java/lang/String", "isLatin1", "()Z"⟩
def st_chk : MethodName := ⟨"java/lang/String", "checkIndex", "(II)V"⟩
def st_ch1 : MethodName := ⟨"java/lang/StringLatin1", "charAt", "([BI)C"⟩
def st_pre : MethodName := ⟨"jdk/internal/util/Preconditions", "checkIndex", "(IILjava/util/function/BiFunction;)I"⟩
abbrev st_bL : ByteArray := prog_23_method_54_code
abbrev st_bC : ByteArray := prog_23_method_56_code
abbrev st_bO : ByteArray := prog_23_method_152_code
abbrev st_bI : ByteArray := prog_23_method_154_code
abbrev st_bK : ByteArray := prog_23_method_155_code
abbrev st_b1 : ByteArray := prog_24_method_2_code
abbrev st_bP : ByteArray := prog_31_method_11_code
set_option maxRecDepth 100000 in
theorem st_w : ∀ w ∈ [Cond.initialized "java/lang/String", Cond.initialized "java/lang/StringLatin1", Cond.initialized "jdk/internal/util/Preconditions", Cond.instanceMethod st_len, Cond.selects "java/lang/String" st_len st_len, Cond.instanceMethod st_chr, Cond.selects "java/lang/String" st_chr st_chr, Cond.instanceMethod st_cod, Cond.selects "java/lang/String" st_cod st_cod, Cond.instanceMethod st_lat, Cond.selects "java/lang/String" st_lat st_lat, Cond.static st_ch1, Cond.static st_chk, Cond.static st_pre, Cond.fieldLink "java/lang/String" 9 "java/lang/String" "value" "[B", Cond.methodLink "java/lang/String" 335 st_cod, Cond.fieldLink "java/lang/String" 38 "java/lang/String" "COMPACT_STRINGS" "Z", Cond.fieldLink "java/lang/String" 15 "java/lang/String" "coder" "B", Cond.methodLink "java/lang/String" 492 st_lat, Cond.methodLink "java/lang/String" 495 st_ch1, Cond.methodLink "java/lang/StringLatin1" 9 st_chk, Cond.fieldLink "java/lang/String" 1053 "jdk/internal/util/Preconditions" "SIOOBE_FORMATTER" "Ljava/util/function/BiFunction;", Cond.methodLink "java/lang/String" 1059 st_pre], w ∈ q_Tw := by decide +kernel
set_option maxRecDepth 100000 in
theorem st_wc : ∀ w ∈ [Cond.code st_len st_bL 1 (some .int), Cond.code st_chr st_bC 2 (some .char), Cond.code st_cod st_bO 1 (some .byte), Cond.code st_lat st_bI 1 (some .boolean), Cond.code st_chk st_bK 2 none, Cond.code st_ch1 st_b1 2 (some .char), Cond.code st_pre st_bP 3 (some .int)], w ∈ q_Tw := by decide +kernel
theorem st_llen : (parseMethodDescriptor st_len.desc).map (fun d => d.parameters.length) = some 0 := by decide +kernel
theorem st_lchr : (parseMethodDescriptor st_chr.desc).map (fun d => d.parameters.length) = some 1 := by decide +kernel
theorem st_lcod : (parseMethodDescriptor st_cod.desc).map (fun d => d.parameters.length) = some 0 := by decide +kernel
theorem st_llat : (parseMethodDescriptor st_lat.desc).map (fun d => d.parameters.length) = some 0 := by decide +kernel
theorem st_lchk : (parseMethodDescriptor st_chk.desc).map (fun d => d.parameters.length) = some 2 := by decide +kernel
theorem st_lch1 : (parseMethodDescriptor st_ch1.desc).map (fun d => d.parameters.length) = some 2 := by decide +kernel
theorem st_lpre : (parseMethodDescriptor st_pre.desc).map (fun d => d.parameters.length) = some 3 := by decide +kernel
theorem st_dL0 : decode st_bL 0 = .ok (.aload_n 0, 1) := by decide +kernel
theorem st_dL1 : decode st_bL 1 = .ok (.getfield 9, 3) := by decide +kernel
theorem st_dL4 : decode st_bL 4 = .ok (.arraylength, 1) := by decide +kernel
theorem st_dL5 : decode st_bL 5 = .ok (.aload_n 0, 1) := by decide +kernel
theorem st_dL6 : decode st_bL 6 = .ok (.invokevirtual 335, 3) := by decide +kernel
theorem st_dL9 : decode st_bL 9 = .ok (.ishr, 1) := by decide +kernel
theorem st_dL10 : decode st_bL 10 = .ok (.ireturn, 1) := by decide +kernel
theorem st_dC0 : decode st_bC 0 = .ok (.aload_n 0, 1) := by decide +kernel
theorem st_dC1 : decode st_bC 1 = .ok (.invokevirtual 492, 3) := by decide +kernel
theorem st_dC4 : decode st_bC 4 = .ok (.ifCond .eq 12, 3) := by decide +kernel
theorem st_dC7 : decode st_bC 7 = .ok (.aload_n 0, 1) := by decide +kernel
theorem st_dC8 : decode st_bC 8 = .ok (.getfield 9, 3) := by decide +kernel
theorem st_dC11 : decode st_bC 11 = .ok (.iload_n 1, 1) := by decide +kernel
theorem st_dC12 : decode st_bC 12 = .ok (.invokestatic 495, 3) := by decide +kernel
theorem st_dC15 : decode st_bC 15 = .ok (.ireturn, 1) := by decide +kernel
theorem st_dO0 : decode st_bO 0 = .ok (.getstatic 38, 3) := by decide +kernel
theorem st_dO3 : decode st_bO 3 = .ok (.ifCond .eq 10, 3) := by decide +kernel
theorem st_dO6 : decode st_bO 6 = .ok (.aload_n 0, 1) := by decide +kernel
theorem st_dO7 : decode st_bO 7 = .ok (.getfield 15, 3) := by decide +kernel
theorem st_dO10 : decode st_bO 10 = .ok (.goto 4, 3) := by decide +kernel
theorem st_dO14 : decode st_bO 14 = .ok (.ireturn, 1) := by decide +kernel
theorem st_dI0 : decode st_bI 0 = .ok (.getstatic 38, 3) := by decide +kernel
theorem st_dI3 : decode st_bI 3 = .ok (.ifCond .eq 14, 3) := by decide +kernel
theorem st_dI6 : decode st_bI 6 = .ok (.aload_n 0, 1) := by decide +kernel
theorem st_dI7 : decode st_bI 7 = .ok (.getfield 15, 3) := by decide +kernel
theorem st_dI10 : decode st_bI 10 = .ok (.ifCond .ne 7, 3) := by decide +kernel
theorem st_dI13 : decode st_bI 13 = .ok (.iconst 1, 1) := by decide +kernel
theorem st_dI14 : decode st_bI 14 = .ok (.goto 4, 3) := by decide +kernel
theorem st_dI18 : decode st_bI 18 = .ok (.ireturn, 1) := by decide +kernel
theorem st_dK0 : decode st_bK 0 = .ok (.iload_n 0, 1) := by decide +kernel
theorem st_dK1 : decode st_bK 1 = .ok (.iload_n 1, 1) := by decide +kernel
theorem st_dK2 : decode st_bK 2 = .ok (.getstatic 1053, 3) := by decide +kernel
theorem st_dK5 : decode st_bK 5 = .ok (.invokestatic 1059, 3) := by decide +kernel
theorem st_dK8 : decode st_bK 8 = .ok (.pop, 1) := by decide +kernel
theorem st_dK9 : decode st_bK 9 = .ok (.return_, 1) := by decide +kernel
theorem st_d10 : decode st_b1 0 = .ok (.iload_n 1, 1) := by decide +kernel
theorem st_d11 : decode st_b1 1 = .ok (.aload_n 0, 1) := by decide +kernel
theorem st_d12 : decode st_b1 2 = .ok (.arraylength, 1) := by decide +kernel
theorem st_d13 : decode st_b1 3 = .ok (.invokestatic 9, 3) := by decide +kernel
theorem st_d16 : decode st_b1 6 = .ok (.aload_n 0, 1) := by decide +kernel
theorem st_d17 : decode st_b1 7 = .ok (.iload_n 1, 1) := by decide +kernel
theorem st_d18 : decode st_b1 8 = .ok (.baload, 1) := by decide +kernel
theorem st_d19 : decode st_b1 9 = .ok (.sipush 255, 3) := by decide +kernel
theorem st_d112 : decode st_b1 12 = .ok (.iand, 1) := by decide +kernel
theorem st_d113 : decode st_b1 13 = .ok (.i2c, 1) := by decide +kernel
theorem st_d114 : decode st_b1 14 = .ok (.ireturn, 1) := by decide +kernel
theorem st_dP0 : decode st_bP 0 = .ok (.iload_n 0, 1) := by decide +kernel
theorem st_dP1 : decode st_bP 1 = .ok (.ifCond .lt 8, 3) := by decide +kernel
theorem st_dP4 : decode st_bP 4 = .ok (.iload_n 0, 1) := by decide +kernel
theorem st_dP5 : decode st_bP 5 = .ok (.iload_n 1, 1) := by decide +kernel
theorem st_dP6 : decode st_bP 6 = .ok (.if_icmp .lt 10, 3) := by decide +kernel
theorem st_dP16 : decode st_bP 16 = .ok (.iload_n 0, 1) := by decide +kernel
theorem st_dP17 : decode st_bP 17 = .ok (.ireturn, 1) := by decide +kernel
abbrev st_ws (y : MethodName) (bytes : ByteArray) (maxL : Nat) (ret : Option FieldType) : List Cond := Cond.code y bytes maxL ret :: q_Tw
abbrev st_rm (f lo : Nat) : Room := { frames := f, cells := 0, slots := 0, locals := lo }
/-- it answers v, and nothing has changed -/
def st_Met (l : Launch) (y : MethodName) (bytes : ByteArray) (maxL : Nat) (ret : Option FieldType) (f lo : Nat) (Pc : Array Value → State → Prop) (v : Option Value) : Prop := Met l y (st_ws y bytes maxL ret) (st_rm f lo) Pc (fun _ st o t => o = .returned v ∧ t.heap = st.heap) 0 0 (fun _ => False)
section ST
variable {p : Program} {l : Launch} {e : Env} {R : Room} {s : State} {m : MethodId} {args : Array Value} {below : List Frame} {meth : Method} {c : Code} {H : Heap} {locs : List Loc} {cells slots : Nat} {Q : State → Prop}
variable {y : MethodName} {bytes cc : ByteArray} {maxL f lo Wd idx pc : Nat} {ret : Option FieldType} {Pc : Array Value → State → Prop} {v0 : Option Value} {own C : String} {b : Addr} {As rest st : List Value} {ls : Array Slot} {A : Nat → Prop} {a av n : Nat} {g : Nat → Int32} {locs0 : List Loc}
theorem st_good (hts : ∀ w ∈ q_Tw, w.before args s = true) (hcd : Cond.code y bytes maxL ret ∈ q_Tw) : ∀ w ∈ st_ws y bytes maxL ret, ∀ (a' : Array Value) (U : State), s.WarmedH U.vm → w.before a' U = true := by
  intro w hw a' U hW
  have h9 : w ∈ q_Tw := by
    rcases List.mem_cons.mp hw with rfl | hw
    · exact hcd
    · exact hw
  exact word_at hW (q_Tw_good h9) (hts w h9)
set_option maxHeartbeats 1000000 in
theorem st_V (hM : st_Met l y bytes maxL ret f lo Pc v0) (hx : p.tables.exec = Jvm.exec) (hb : c.code = cc) (hown : s.vm.findClass own = some m.cls) (hts : ∀ w ∈ q_Tw, w.before args s = true) (hsz : ls.size = c.maxLocals) (hk : Cond.methodLink own idx y ∈ q_Tw) (hin : Cond.instanceMethod y ∈ q_Tw) (hse : Cond.selects C y y ∈ q_Tw) (hini : Cond.initialized y.cls ∈ q_Tw) (hcd : Cond.code y bytes maxL ret ∈ q_Tw) (hy : y.cls ≠ "java/lang/invoke/MethodHandle" ∧ y.cls ≠ "java/lang/invoke/VarHandle") (hlen : (parseMethodDescriptor y.desc).map (fun d => d.parameters.length) = some As.length) (hR : f + 1 ≤ R.frames ∧ Wd + (maxL + 11) + lo ≤ R.locals) (hbl : FrameBlind Pc) (hcell : ∃ cellB : Cell, H[b]? = some cellB ∧ cellB.vm.isStatics = false ∧ s.vm.findClass C = some cellB.cls) (hPc : ∀ U : State, U.heap = H → s.WarmedH U.vm → Pc (Value.ref b :: As).toArray U) (hW : (rest.map fun v => v.category).sum ≤ Wd) (hdg : decode cc pc = .ok (.invokevirtual idx, 3)) (hc : cells ≤ R.cells ∧ slots ≤ R.slots) (hst : st = As.reverse ++ .ref b :: rest) (k : W p l e R s m args below meth c H locs cells slots Q (F0 m (pc + 3) ls (v0.toList ++ rest))) : W p l e R s m args below meth c H locs cells slots Q (F0 m pc ls st) := by
  subst hst
  obtain ⟨cellB, hcB, hoB, hclB⟩ := hcell
  have hK : Back l R p e below s args y 3 Wd (PreOf R 0 0 Pc) (PostOf (fun _ st o t => o = .returned v0 ∧ t.heap = st.heap) 0 0 (fun _ => False)) := back_of (bytes := bytes) (maxL := maxL) (ret := ret) hM hbl rfl rfl hR.1 hR.2 (st_good hts hcd) List.mem_cons_self (fun a' U hW => word_at hW (q_Tw_good hini) (hts _ hini))
  intro T hT X
  obtain ⟨v, vm₁, ⟨U', l2, c2, s2⟩, hW₁, X', ⟨g', mk, t, L, e1, e2, hq, h1, hL, h2, h3⟩, stp⟩ := callV X hx (C := C) (bytes := bytes) (maxL := maxL) (ret := ret) hown (hts _ hk) (hts _ hin) (hts _ hse) (hts _ hcd) hy hK (by rw [hT]; exact hcB) hoB hclB (g := F0 m pc ls (As.reverse ++ .ref b :: rest)) rfl hsz (argsL := As) (rest := rest) (fun sig h => by rw [h] at hlen; exact (Option.some.inj hlen).symm) rfl (by show 2 * 0 + _ ≤ Wd; omega) (by rw [hb]; exact hdg) (fun vm₁ hW₁ => ⟨hc.1, hc.2, hPc (T.setVm vm₁) hT hW₁⟩)
  dsimp only [Pt.U, Pt.locs, Pt.cells, Pt.slots] at X' e1 e2 h1 h2 h3 stp
  subst h1; subst h2; subst h3
  have hL0 : L = [] := by
    cases L with
    | nil => rfl
    | cons q L => exact (hL q List.mem_cons_self).elim
  subst hL0
  rw [List.append_nil] at X'
  obtain ⟨hv, hh⟩ := hq
  cases hv
  have e3 : U'.heap = H := by rw [e1, hh]; exact hT
  obtain ⟨t2, a1, b1⟩ := k U' e3 X'
  exact ⟨t2, stp t2 a1, b1⟩
set_option maxHeartbeats 1000000 in
theorem st_S (hM : st_Met l y bytes maxL ret f lo Pc v0) (hx : p.tables.exec = Jvm.exec) (hb : c.code = cc) (hown : s.vm.findClass own = some m.cls) (hts : ∀ w ∈ q_Tw, w.before args s = true) (hsz : ls.size = c.maxLocals) (hk : Cond.methodLink own idx y ∈ q_Tw) (hsa : Cond.static y ∈ q_Tw) (hini : Cond.initialized y.cls ∈ q_Tw) (hcd : Cond.code y bytes maxL ret ∈ q_Tw) (hy : y.cls ≠ "java/lang/invoke/MethodHandle" ∧ y.cls ≠ "java/lang/invoke/VarHandle") (hlen : (parseMethodDescriptor y.desc).map (fun d => d.parameters.length) = some As.length) (hR : f + 1 ≤ R.frames ∧ Wd + (maxL + 11) + lo ≤ R.locals) (hbl : FrameBlind Pc) (hPc : ∀ U : State, U.heap = H → s.WarmedH U.vm → Pc As.toArray U) (hW : (rest.map fun v => v.category).sum ≤ Wd) (hdg : decode cc pc = .ok (.invokestatic idx, 3)) (hc : cells ≤ R.cells ∧ slots ≤ R.slots) (hst : st = As.reverse ++ rest) (k : W p l e R s m args below meth c H locs cells slots Q (F0 m (pc + 3) ls (v0.toList ++ rest))) : W p l e R s m args below meth c H locs cells slots Q (F0 m pc ls st) := by
  subst hst
  have hK : Back l R p e below s args y 3 Wd (PreOf R 0 0 Pc) (PostOf (fun _ st o t => o = .returned v0 ∧ t.heap = st.heap) 0 0 (fun _ => False)) := back_of (bytes := bytes) (maxL := maxL) (ret := ret) hM hbl rfl rfl hR.1 hR.2 (st_good hts hcd) List.mem_cons_self (fun a' U hW => word_at hW (q_Tw_good hini) (hts _ hini))
  intro T hT X
  obtain ⟨v, vm₁, ⟨U', l2, c2, s2⟩, hW₁, X', ⟨g', mk, t, L, e1, e2, hq, h1, hL, h2, h3⟩, stp⟩ := callS X hx (bytes := bytes) (maxL := maxL) (ret := ret) hown (hts _ hk) (hts _ hsa) (hts _ hini) (hts _ hcd) hy hK (g := F0 m pc ls (As.reverse ++ rest)) rfl hsz (argsL := As) (rest := rest) (fun sig h => by rw [h] at hlen; exact (Option.some.inj hlen).symm) rfl (by show 2 * 0 + _ ≤ Wd; omega) (by rw [hb]; exact hdg) (fun vm₁ hW₁ => ⟨hc.1, hc.2, hPc (T.setVm vm₁) hT hW₁⟩)
  dsimp only [Pt.U, Pt.locs, Pt.cells, Pt.slots] at X' e1 e2 h1 h2 h3 stp
  subst h1; subst h2; subst h3
  have hL0 : L = [] := by
    cases L with
    | nil => rfl
    | cons q L => exact (hL q List.mem_cons_self).elim
  subst hL0
  rw [List.append_nil] at X'
  obtain ⟨hv, hh⟩ := hq
  cases hv
  have e3 : U'.heap = H := by rw [e1, hh]; exact hT
  obtain ⟨t2, a1, b1⟩ := k U' e3 X'
  exact ⟨t2, stp t2 a1, b1⟩
/-- what holds of a text and of String's statics -/
def st_T (A : Nat → Prop) (a n : Nat) (g : Nat → Int32) (U : State) (H : Heap) : Prop := ∃ av : Nat, va_O "java/lang/String" a A U H ∧ va_OF "java/lang/String" "coder" "B" (.int 0) a A U H ∧ va_OF "java/lang/String" "value" "[B" (.ref av) a A U H ∧ va_T .byte av n (fun k => .int (g k)) A U H
def st_G (A : Nat → Prop) (U : State) (H : Heap) : Prop := va_Z "java/lang/String" "COMPACT_STRINGS" "Z" (.int 1) A U H ∧ va_Zq "jdk/internal/util/Preconditions" "SIOOBE_FORMATTER" "Ljava/util/function/BiFunction;" A U H
theorem st_T.to {U : State} (h : st_T A a n g s s.heap) (hS : va_S A s.heap H locs) (hU : U.heap = H) (hW : s.WarmedH U.vm) : st_T A a n g U U.heap := by
  obtain ⟨av, h1, h2, h3, h4⟩ := h
  rw [hU]
  exact ⟨av, va_O.moved hW.alike (h1.kept hS.2.1), va_OF.moved hW.alike (h2.kept hS.2.1), va_OF.moved hW.alike (h3.kept hS.2.1), va_T.moved hW.alike (h4.kept hS.2.1)⟩
theorem st_G.to {U : State} (h : st_G A s s.heap) (hS : va_S A s.heap H locs) (hU : U.heap = H) (hW : s.WarmedH U.vm) : st_G A U U.heap := by
  rw [hU]
  exact ⟨va_Z.moved hW.alike (h.1.kept hS.2.1), va_Zq.moved hW.alike (h.2.kept hS.2.1)⟩
theorem st_bT : FrameBlind (va_Pc (Value.ref a :: As) (fun U => st_T A a n g U U.heap ∧ st_G A U U.heap)) := by
  intro x U gg mk h
  obtain ⟨h0, h1, h2⟩ := h
  exact ⟨h0, h1.to (U := U.calling gg mk x) (locs := []) va_S.rf rfl (State.WarmedH.refl U), h2.to (U := U.calling gg mk x) (locs := []) va_S.rf rfl (State.WarmedH.refl U)⟩
theorem st_bA : FrameBlind (va_Pc As (fun U => va_T .byte av n (fun k => .int (g k)) A U U.heap ∧ st_G A U U.heap)) := by
  intro x U gg mk h
  obtain ⟨h0, h1, h2⟩ := h
  exact ⟨h0, va_T.moved (u := U) (U := U.calling gg mk x) (Vm.Alike.refl U.vm) h1, h2.to (U := U.calling gg mk x) (locs := []) va_S.rf rfl (State.WarmedH.refl U)⟩
theorem st_bG : FrameBlind (va_Pc As (fun U => st_G A U U.heap)) := by
  intro x U gg mk h
  exact ⟨h.1, h.2.to (U := U.calling gg mk x) (locs := []) va_S.rf rfl (State.WarmedH.refl U)⟩
theorem st_b0 : FrameBlind (va_Pc As (fun _ => True)) := fun x U gg mk h => ⟨h.1, trivial⟩
theorem st_mcod : st_Met l st_cod st_bO 1 (some .byte) 0 0 (va_Pc [.ref a] (fun U => st_T A a n g U U.heap ∧ st_G A U U.heap)) (some (.int 0)) := by
  refine Met.ofW (cc := st_bO) (maxL := 1) (ret := some .byte) (by decide) rfl ?_
  intro p e s m args below meth c s₁ B hml hv
  obtain ⟨rfl, ⟨av, hO, hCo, hVa, hT⟩, hG⟩ := hv
  have hx := B.exec
  have hb := B.bytes
  have hr := B.returns
  have hts0 := atoms_spec (ws := st_ws st_cod st_bO 1 (some .byte)) B.pre
  have hts : ∀ w ∈ q_Tw, w.before _ s = true := fun w hw => hts0 w (List.mem_cons_of_mem _ hw)
  have hown : s.vm.findClass "java/lang/String" = some m.cls := findClass_of_methodNamed B.named
  have hlocks := B.notSynchronized
  have hS : va_S A s.heap s.heap [] := va_S.rf
  have hl := lv_entry ([.ref a]) (n := 1) (Nat.le_of_ble_eq_true rfl)
  rw [lg_entry_eq]
  generalize (lg_sl ([.ref a]) ++ List.replicate (1 - (lg_sl ([.ref a])).length) Slot.unset).toArray = ls at hl ⊢
  have hl : lv_has ls 1 [(0, .ref a)] := hl
  refine va_gets hx hb hG.1 hS hown (hts _ (st_w _ (by simp))) (fun _ z => z) st_dO0 ?_
  refine lv_if_eq hx hb st_dO3 (tgt := 13) (by decide) (fun z => absurd z (by decide)) (fun _ => ?_)
  refine lv_aload_n hx hb st_dO6 rfl (lv_at hl 0 rfl) ?_
  refine vk_getf hx hb hCo hS hown (hts _ (st_w _ (by simp))) (fun _ z => z) st_dO7 ?_
  refine lv_goto hx hb st_dO10 (tgt := 14) (by decide) ?_
  exact W.zret hx hb hr rfl (fun t ht _ => ⟨rfl, ht⟩) (fun q hq => absurd hq List.not_mem_nil) st_dO14
theorem st_mlat : st_Met l st_lat st_bI 1 (some .boolean) 0 0 (va_Pc [.ref a] (fun U => st_T A a n g U U.heap ∧ st_G A U U.heap)) (some (.int 1)) := by
  refine Met.ofW (cc := st_bI) (maxL := 1) (ret := some .boolean) (by decide) rfl ?_
  intro p e s m args below meth c s₁ B hml hv
  obtain ⟨rfl, ⟨av, hO, hCo, hVa, hT⟩, hG⟩ := hv
  have hx := B.exec
  have hb := B.bytes
  have hr := B.returns
  have hts0 := atoms_spec (ws := st_ws st_lat st_bI 1 (some .boolean)) B.pre
  have hts : ∀ w ∈ q_Tw, w.before _ s = true := fun w hw => hts0 w (List.mem_cons_of_mem _ hw)
  have hown : s.vm.findClass "java/lang/String" = some m.cls := findClass_of_methodNamed B.named
  have hlocks := B.notSynchronized
  have hS : va_S A s.heap s.heap [] := va_S.rf
  have hl := lv_entry ([.ref a]) (n := 1) (Nat.le_of_ble_eq_true rfl)
  rw [lg_entry_eq]
  generalize (lg_sl ([.ref a]) ++ List.replicate (1 - (lg_sl ([.ref a])).length) Slot.unset).toArray = ls at hl ⊢
  have hl : lv_has ls 1 [(0, .ref a)] := hl
  refine va_gets hx hb hG.1 hS hown (hts _ (st_w _ (by simp))) (fun _ z => z) st_dI0 ?_
  refine lv_if_eq hx hb st_dI3 (tgt := 17) (by decide) (fun z => absurd z (by decide)) (fun _ => ?_)
  refine lv_aload_n hx hb st_dI6 rfl (lv_at hl 0 rfl) ?_
  refine vk_getf hx hb hCo hS hown (hts _ (st_w _ (by simp))) (fun _ z => z) st_dI7 ?_
  refine lv_if_ne hx hb st_dI10 (tgt := 17) (by decide) (fun z => absurd rfl z) (fun _ => ?_)
  refine lv_iconst (v := 1) hx hb st_dI13 (by decide) ?_
  refine lv_goto hx hb st_dI14 (tgt := 18) (by decide) ?_
  exact W.zret hx hb hr rfl (fun t ht _ => ⟨rfl, ht⟩) (fun q hq => absurd hq List.not_mem_nil) st_dI18
theorem st_mlen : st_Met l st_len st_bL 1 (some .int) 1 20 (va_Pc [.ref a] (fun U => st_T A a n g U U.heap ∧ st_G A U U.heap)) (some (.int (Int32.ofNat n))) := by
  refine Met.ofW (cc := st_bL) (maxL := 1) (ret := some .int) (by decide) rfl ?_
  intro p e s m args below meth c s₁ B hml hv
  obtain ⟨rfl, hTT, hG⟩ := hv
  obtain ⟨av, hO, hCo, hVa, hT⟩ := id hTT
  have hx := B.exec
  have hb := B.bytes
  have hr := B.returns
  have hts0 := atoms_spec (ws := st_ws st_len st_bL 1 (some .int)) B.pre
  have hts : ∀ w ∈ q_Tw, w.before _ s = true := fun w hw => hts0 w (List.mem_cons_of_mem _ hw)
  have hown : s.vm.findClass "java/lang/String" = some m.cls := findClass_of_methodNamed B.named
  have hlocks := B.notSynchronized
  have hS : va_S A s.heap s.heap [] := va_S.rf
  have hl := lv_entry ([.ref a]) (n := 1) (Nat.le_of_ble_eq_true rfl)
  rw [lg_entry_eq]
  generalize (lg_sl ([.ref a]) ++ List.replicate (1 - (lg_sl ([.ref a])).length) Slot.unset).toArray = ls at hl ⊢
  have hl : lv_has ls 1 [(0, .ref a)] := hl
  refine lv_aload_n hx hb st_dL0 rfl (lv_at hl 0 rfl) ?_
  refine vk_getf hx hb hVa hS hown (hts _ (st_w _ (by simp))) (fun _ z => z) st_dL1 ?_
  refine va_tlen hx hb hT hS rfl st_dL4 ?_
  refine lv_aload_n hx hb st_dL5 rfl (lv_at hl 0 rfl) ?_
  refine st_V (As := []) (Wd := 8) st_mcod hx hb hown hts (hl.1.trans hml.symm) (st_w _ (by simp)) (st_w _ (by simp)) (st_w _ (by simp)) (st_w _ (by simp [st_cod])) (st_wc _ (by simp)) (by decide) st_lcod ⟨Nat.le_of_ble_eq_true rfl, Nat.le_of_ble_eq_true rfl⟩ st_bT (va_Orecv hO hS) (fun U hU hW => ⟨rfl, hTT.to hS hU hW, hG.to hS hU hW⟩) (by show (1 + 0 : Nat) ≤ 8; decide) st_dL6 ⟨Nat.zero_le _, Nat.zero_le _⟩ rfl ?_
  refine lv_ishr hx hb st_dL9 ?_
  have e0 : Int32.ofNat n >>> ((0 : Int32) &&& 31) = Int32.ofNat n := by
    rw [show ((0 : Int32) &&& 31) = 0 from rfl]
    exact Int32.shiftRight_zero
  rw [e0]
  exact W.iret hx hb hr (fun t ht _ => ⟨rfl, ht⟩) (fun q hq => absurd hq List.not_mem_nil) st_dL10
theorem st_mpre {k : Int32} {x : Value} (hxv : x = .null ∨ ∃ t, x = .ref t) (hk : vp_in k n) (hn : n < 2 ^ 31) : st_Met l st_pre st_bP 3 (some .int) 0 0 (va_Pc [.int k, .int (Int32.ofNat n), x] (fun _ => True)) (some (.int k)) := by
  refine Met.ofW (cc := st_bP) (maxL := 3) (ret := some .int) (by decide) rfl ?_
  intro p e s m args below meth c s₁ B hml hv
  obtain ⟨rfl, -⟩ := hv
  have hx := B.exec
  have hb := B.bytes
  have hr := B.returns
  have hlocks := B.notSynchronized
  have k0 : ¬ k < 0 := fun z => hk (Or.inl z)
  have k1 : k < Int32.ofNat n := by
    have h1 : k.toNatClampNeg < n := Nat.not_le.mp (fun z => hk (Or.inr z))
    have h0 : (0 : Int) ≤ k.toInt := by
      have := Int32.not_lt.mp k0
      simpa using Int32.le_iff_toInt_le.mp this
    rw [Int32.lt_iff_toInt_lt, Int32.toInt_ofNat_of_lt hn]
    have h2 : k.toNatClampNeg = k.toInt.toNat := rfl
    omega
  have hl : lv_has _ 3 (lv_args 0 [.int k, .int (Int32.ofNat n), x]) := lv_entry ([.int k, .int (Int32.ofNat n), x]) (n := 3) (by rcases hxv with rfl | ⟨t, rfl⟩ <;> exact Nat.le_of_ble_eq_true rfl)
  rw [lg_entry_eq]
  generalize (lg_sl ([.int k, .int (Int32.ofNat n), x]) ++ List.replicate (3 - (lg_sl ([.int k, .int (Int32.ofNat n), x])).length) Slot.unset).toArray = ls at hl ⊢
  refine lv_iload_n hx hb st_dP0 rfl (lv_at hl 0 rfl) ?_
  refine lv_if_lt hx hb st_dP1 (tgt := 9) (by decide) (fun z => absurd z k0) (fun _ => ?_)
  refine lv_iload_n hx hb st_dP4 rfl (lv_at hl 0 rfl) ?_
  refine lv_iload_n hx hb st_dP5 rfl (lv_at hl 1 rfl) ?_
  refine lv_icmp_lt hx hb st_dP6 (tgt := 16) (by decide) (fun _ => ?_) (fun z => absurd k1 z)
  refine lv_iload_n hx hb st_dP16 rfl (lv_at hl 0 rfl) ?_
  exact W.iret hx hb hr (fun t ht _ => ⟨rfl, ht⟩) (fun q hq => absurd hq List.not_mem_nil) st_dP17
theorem st_mchk {k : Int32} (hk : vp_in k n) (hn : n < 2 ^ 31) : st_Met l st_chk st_bK 2 none 1 22 (va_Pc [.int k, .int (Int32.ofNat n)] (fun U => st_G A U U.heap)) none := by
  refine Met.ofW (cc := st_bK) (maxL := 2) (ret := none) (by decide) rfl ?_
  intro p e s m args below meth c s₁ B hml hv
  obtain ⟨rfl, hG⟩ := hv
  have hx := B.exec
  have hb := B.bytes
  have hr := B.returns
  have hts0 := atoms_spec (ws := st_ws st_chk st_bK 2 none) B.pre
  have hts : ∀ w ∈ q_Tw, w.before _ s = true := fun w hw => hts0 w (List.mem_cons_of_mem _ hw)
  have hown : s.vm.findClass "java/lang/String" = some m.cls := findClass_of_methodNamed B.named
  have hlocks := B.notSynchronized
  have hS : va_S A s.heap s.heap [] := va_S.rf
  have hl := lv_entry ([.int k, .int (Int32.ofNat n)]) (n := 2) (Nat.le_of_ble_eq_true rfl)
  rw [lg_entry_eq]
  generalize (lg_sl ([.int k, .int (Int32.ofNat n)]) ++ List.replicate (2 - (lg_sl ([.int k, .int (Int32.ofNat n)])).length) Slot.unset).toArray = ls at hl ⊢
  have hl : lv_has ls 2 [(0, .int k), (1, .int (Int32.ofNat n))] := hl
  refine lv_iload_n hx hb st_dK0 rfl (lv_at hl 0 rfl) ?_
  refine lv_iload_n hx hb st_dK1 rfl (lv_at hl 1 rfl) ?_
  obtain ⟨x, hxv, hZ⟩ : ∃ x : Value, (x = .null ∨ ∃ t, x = .ref t) ∧ va_Z "jdk/internal/util/Preconditions" "SIOOBE_FORMATTER" "Ljava/util/function/BiFunction;" x A s s.heap := by
    rcases hG.2 with hZ | ⟨t, hZ⟩
    · exact ⟨_, Or.inl rfl, hZ⟩
    · exact ⟨_, Or.inr ⟨t, rfl⟩, hZ⟩
  refine va_gets hx hb hZ hS hown (hts _ (st_w _ (by simp))) (fun _ z => z) st_dK2 ?_
  refine st_S (As := [.int k, .int (Int32.ofNat n), x]) (rest := []) (Wd := 8) (st_mpre hxv hk hn) hx hb hown hts (hl.1.trans hml.symm) (st_w _ (by simp)) (st_w _ (by simp)) (st_w _ (by simp [st_pre])) (st_wc _ (by simp)) (by decide) st_lpre ⟨Nat.le_of_ble_eq_true rfl, Nat.le_of_ble_eq_true rfl⟩ st_b0 (fun U hU hW => ⟨rfl, trivial⟩) (by decide) st_dK5 ⟨Nat.zero_le _, Nat.zero_le _⟩ rfl ?_
  refine lv_pop hx hb st_dK8 rfl ?_
  exact W.vret hx hb hr (fun t ht _ => ⟨rfl, ht⟩) (fun q hq => absurd hq List.not_mem_nil) st_dK9
theorem st_mch1 {k : Int32} (hk : vp_in k n) (hn : n < 2 ^ 31) (hg : ((g k.toNatClampNeg &&& 255).toUInt32 % 65536).toInt32 = g k.toNatClampNeg ∧ narrow .char (.int (g k.toNatClampNeg)) = .int (g k.toNatClampNeg)) : st_Met l st_ch1 st_b1 2 (some .char) 2 43 (va_Pc [.ref av, .int k] (fun U => va_T .byte av n (fun j => .int (g j)) A U U.heap ∧ st_G A U U.heap)) (some (.int (g k.toNatClampNeg))) := by
  refine Met.ofW (cc := st_b1) (maxL := 2) (ret := some .char) (by decide) rfl ?_
  intro p e s m args below meth c s₁ B hml hv
  obtain ⟨rfl, hT, hG⟩ := hv
  have hx := B.exec
  have hb := B.bytes
  have hr := B.returns
  have hts0 := atoms_spec (ws := st_ws st_ch1 st_b1 2 (some .char)) B.pre
  have hts : ∀ w ∈ q_Tw, w.before _ s = true := fun w hw => hts0 w (List.mem_cons_of_mem _ hw)
  have hown : s.vm.findClass "java/lang/StringLatin1" = some m.cls := findClass_of_methodNamed B.named
  have hlocks := B.notSynchronized
  have hS : va_S A s.heap s.heap [] := va_S.rf
  have hl := lv_entry ([.ref av, .int k]) (n := 2) (Nat.le_of_ble_eq_true rfl)
  rw [lg_entry_eq]
  generalize (lg_sl ([.ref av, .int k]) ++ List.replicate (2 - (lg_sl ([.ref av, .int k])).length) Slot.unset).toArray = ls at hl ⊢
  have hl : lv_has ls 2 [(0, .ref av), (1, .int k)] := hl
  refine lv_iload_n hx hb st_d10 rfl (lv_at hl 1 rfl) ?_
  refine lv_aload_n hx hb st_d11 rfl (lv_at hl 0 rfl) ?_
  refine va_tlen hx hb hT hS rfl st_d12 ?_
  refine st_S (As := [.int k, .int (Int32.ofNat n)]) (rest := []) (Wd := 8) (st_mchk (A := A) hk hn) hx hb hown hts (hl.1.trans hml.symm) (st_w _ (by simp)) (st_w _ (by simp)) (st_w _ (by simp [st_chk])) (st_wc _ (by simp)) (by decide) st_lchk ⟨Nat.le_of_ble_eq_true rfl, Nat.le_of_ble_eq_true rfl⟩ st_bG (fun U hU hW => ⟨rfl, hG.to hS hU hW⟩) (by decide) st_d13 ⟨Nat.zero_le _, Nat.zero_le _⟩ rfl ?_
  refine lv_aload_n hx hb st_d16 rfl (lv_at hl 0 rfl) ?_
  refine lv_iload_n hx hb st_d17 rfl (lv_at hl 1 rfl) ?_
  refine va_tb hx hb hT hS hk rfl st_d18 ?_
  refine lv_sipush (v := 255) hx hb st_d19 (by decide) ?_
  refine lv_iand hx hb st_d112 ?_
  refine lv_i2c hx hb st_d113 hg.1 ?_
  exact W.zret hx hb hr hg.2 (fun t ht _ => ⟨rfl, ht⟩) (fun q hq => absurd hq List.not_mem_nil) st_d114
theorem st_mchr {k : Int32} (hk : vp_in k n) (hn : n < 2 ^ 31) (hg : ((g k.toNatClampNeg &&& 255).toUInt32 % 65536).toInt32 = g k.toNatClampNeg ∧ narrow .char (.int (g k.toNatClampNeg)) = .int (g k.toNatClampNeg)) : st_Met l st_chr st_bC 2 (some .char) 3 64 (va_Pc [.ref a, .int k] (fun U => st_T A a n g U U.heap ∧ st_G A U U.heap)) (some (.int (g k.toNatClampNeg))) := by
  refine Met.ofW (cc := st_bC) (maxL := 2) (ret := some .char) (by decide) rfl ?_
  intro p e s m args below meth c s₁ B hml hv
  obtain ⟨rfl, hTT, hG⟩ := hv
  obtain ⟨av, hO, hCo, hVa, hT⟩ := id hTT
  have hx := B.exec
  have hb := B.bytes
  have hr := B.returns
  have hts0 := atoms_spec (ws := st_ws st_chr st_bC 2 (some .char)) B.pre
  have hts : ∀ w ∈ q_Tw, w.before _ s = true := fun w hw => hts0 w (List.mem_cons_of_mem _ hw)
  have hown : s.vm.findClass "java/lang/String" = some m.cls := findClass_of_methodNamed B.named
  have hlocks := B.notSynchronized
  have hS : va_S A s.heap s.heap [] := va_S.rf
  have hl := lv_entry ([.ref a, .int k]) (n := 2) (Nat.le_of_ble_eq_true rfl)
  rw [lg_entry_eq]
  generalize (lg_sl ([.ref a, .int k]) ++ List.replicate (2 - (lg_sl ([.ref a, .int k])).length) Slot.unset).toArray = ls at hl ⊢
  have hl : lv_has ls 2 [(0, .ref a), (1, .int k)] := hl
  refine lv_aload_n hx hb st_dC0 rfl (lv_at hl 0 rfl) ?_
  refine st_V (As := []) (rest := []) (Wd := 8) (st_mlat (A := A) (n := n) (g := g)) hx hb hown hts (hl.1.trans hml.symm) (st_w _ (by simp)) (st_w _ (by simp)) (st_w _ (by simp)) (st_w _ (by simp [st_lat])) (st_wc _ (by simp)) (by decide) st_llat ⟨Nat.le_of_ble_eq_true rfl, Nat.le_of_ble_eq_true rfl⟩ st_bT (va_Orecv hO hS) (fun U hU hW => ⟨rfl, hTT.to hS hU hW, hG.to hS hU hW⟩) (by decide) st_dC1 ⟨Nat.zero_le _, Nat.zero_le _⟩ rfl ?_
  refine lv_if_eq hx hb st_dC4 (tgt := 16) (by decide) (fun z => absurd z (by decide)) (fun _ => ?_)
  refine lv_aload_n hx hb st_dC7 rfl (lv_at hl 0 rfl) ?_
  refine vk_getf hx hb hVa hS hown (hts _ (st_w _ (by simp))) (fun _ z => z) st_dC8 ?_
  refine lv_iload_n hx hb st_dC11 rfl (lv_at hl 1 rfl) ?_
  refine st_S (As := [.ref av, .int k]) (rest := []) (Wd := 8) (st_mch1 (A := A) hk hn hg) hx hb hown hts (hl.1.trans hml.symm) (st_w _ (by simp)) (st_w _ (by simp)) (st_w _ (by simp [st_ch1])) (st_wc _ (by simp)) (by decide) st_lch1 ⟨Nat.le_of_ble_eq_true rfl, Nat.le_of_ble_eq_true rfl⟩ st_bA (fun U hU hW => ⟨rfl, by rw [hU]; exact va_T.moved hW.alike (hT.kept hS.2.1), hG.to hS hU hW⟩) (by decide) st_dC12 ⟨Nat.zero_le _, Nat.zero_le _⟩ rfl ?_
  exact W.zret hx hb hr hg.2 (fun t ht _ => ⟨rfl, ht⟩) (fun q hq => absurd hq List.not_mem_nil) st_dC15
end ST
