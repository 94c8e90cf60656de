/-! members of the JDK that the mini-machine tells by rows -/
theorem q_w_max_s : Cond.static Lib.Math.max.name ∈ q_Tw := List.mem_filter.mpr ⟨(List.mem_append_right _ (List.mem_append_right _ (List.mem_append_right _ (List.mem_append_right _ (List.mem_append_right _ (List.mem_of_getElem? (i := 98) rfl)))))), rfl⟩
theorem q_w_max_c : Cond.code Lib.Math.max.name Lib.Math.max.code 2 (some .int) ∈ q_Tw := List.mem_filter.mpr ⟨(List.mem_append_right _ (List.mem_append_right _ (List.mem_append_right _ (List.mem_append_right _ (List.mem_append_right _ (List.mem_of_getElem? (i := 99) rfl)))))), rfl⟩
theorem q_w_min_s : Cond.static Lib.Math.min.name ∈ q_Tw := List.mem_filter.mpr ⟨(List.mem_append_right _ (List.mem_append_right _ (List.mem_append_right _ (List.mem_append_left _ (List.mem_of_getElem? (i := 17) rfl))))), rfl⟩
theorem q_w_min_c : Cond.code Lib.Math.min.name Lib.Math.min.code 2 (some .int) ∈ q_Tw := List.mem_filter.mpr ⟨(List.mem_append_right _ (List.mem_append_right _ (List.mem_append_right _ (List.mem_append_left _ (List.mem_of_getElem? (i := 18) rfl))))), rfl⟩
theorem q_w_abs_s : Cond.static Lib.Math.abs.name ∈ q_Tw := List.mem_filter.mpr ⟨(List.mem_append_right _ (List.mem_append_right _ (List.mem_append_right _ (List.mem_append_right _ (List.mem_append_right _ (List.mem_of_getElem? (i := 110) rfl)))))), rfl⟩
theorem q_w_abs_c : Cond.code Lib.Math.abs.name Lib.Math.abs.code 1 (some .int) ∈ q_Tw := List.mem_filter.mpr ⟨(List.mem_append_right _ (List.mem_append_right _ (List.mem_append_right _ (List.mem_append_right _ (List.mem_append_right _ (List.mem_of_getElem? (i := 111) rfl)))))), rfl⟩
theorem q_w_math : Cond.initialized "java/lang/Math" ∈ q_Tw := List.mem_filter.mpr ⟨(List.mem_append_right _ (List.mem_append_left _ (List.mem_of_getElem? (i := 13) rfl))), rfl⟩
theorem q_w_ac_n : Cond.native arraycopyName ∈ q_Tw := List.mem_filter.mpr ⟨(List.mem_append_right _ (List.mem_append_right _ (List.mem_append_right _ (List.mem_append_right _ (List.mem_append_left _ (List.mem_of_getElem? (i := 110) rfl)))))), rfl⟩
theorem q_w_ac_s : Cond.static arraycopyName ∈ q_Tw := List.mem_filter.mpr ⟨(List.mem_append_right _ (List.mem_append_right _ (List.mem_append_right _ (List.mem_append_right _ (List.mem_append_left _ (List.mem_of_getElem? (i := 109) rfl)))))), rfl⟩
theorem q_w_sys : Cond.initialized "java/lang/System" ∈ q_Tw := List.mem_filter.mpr ⟨(List.mem_append_right _ (List.mem_append_left _ (List.mem_of_getElem? (i := 23) rfl))), rfl⟩
theorem q_w_ob_i : Cond.instanceMethod Lib.objectInit ∈ q_Tw := List.mem_filter.mpr ⟨(List.mem_append_right _ (List.mem_append_left _ (List.mem_of_getElem? (i := 31) rfl))), rfl⟩
theorem q_w_ob_c : Cond.code Lib.objectInit ⟨#[0xb1]⟩ 1 none ∈ q_Tw := List.mem_filter.mpr ⟨(List.mem_append_right _ (List.mem_append_left _ (List.mem_of_getElem? (i := 32) rfl))), rfl⟩

theorem q_min_sw (x y : Int32) : (if x < y then x else y) = (if y < x then y else x) := by
  simp only [Int32.lt_iff_toInt_lt]
  split <;> split <;> first
    | rfl
    | omega
    | (apply Int32.toInt_inj.mp; omega)
section QJ
variable {p : Program} {l : Launch} {e : Env} {R : Room} {s : State} {m : MethodId} {args : Array Value} {below : List Frame} {meth : Method} {c : Code} {H : Heap} {locs : List Loc} {cells slots : Nat} {Q : State → Prop}
variable {cc : ByteArray} {D : va_G} {tc : Nat → ClassId} {A : Nat → Prop} {ad : Nat → Nat} {M M' : List va_E} {o a b pc : Nat} {i : Instr} {st st' : List Value} {ls : Array Slot}
theorem q_eok_jdk {idx : Nat} (h : q_eok o (pc, .invokestatic idx, a, b) = true ∧ i = .invokestatic idx ∨ q_eok o (pc, .invokevirtual idx, a, b) = true ∧ i = .invokevirtual idx ∨ q_eok o (pc, .invokespecial idx, a, b) = true ∧ i = .invokespecial idx ∧ a ≠ 999) (ha : 900 ≤ a) (ha9 : a ≠ 999) :
    Cond.methodLink (q_cn o) idx (q_mn a) ∈ q_Tw ∧ ((i = .invokestatic idx ∧ a ∈ [910, 911, 912, 913]) ∨ (i = .invokevirtual idx ∧ a ∈ [900, 901]) ∨ (i = .invokespecial idx ∧ a = 914)) := by
  rcases h with ⟨h, rfl⟩ | ⟨h, rfl⟩ | ⟨h, rfl, hn⟩
  · simp only [q_eok, if_neg ha9, if_pos ha, Bool.and_eq_true, decide_eq_true_eq] at h
    exact ⟨q_ml_mem h.1, Or.inl ⟨rfl, h.2⟩⟩
  · simp only [q_eok, if_pos ha, Bool.and_eq_true, decide_eq_true_eq] at h
    exact ⟨q_ml_mem h.1, Or.inr (Or.inl ⟨rfl, h.2⟩)⟩
  · simp only [q_eok, if_neg hn, if_pos ha, Bool.and_eq_true, decide_eq_true_eq] at h
    exact ⟨q_ml_mem h.1, Or.inr (Or.inr ⟨rfl, h.2⟩)⟩
set_option maxHeartbeats 4000000 in
theorem q_jdk_ok (hx : p.tables.exec = Jvm.exec) (hb : c.code = cc) {X : q_X} (h : q_jdk X M a st = some (st', M')) {idx : Nat} (hk : Cond.methodLink (q_cn o) idx (q_mn a) ∈ q_Tw ∧ ((i = .invokestatic idx ∧ a ∈ [910, 911, 912, 913]) ∨ (i = .invokevirtual idx ∧ a ∈ [900, 901]) ∨ (i = .invokespecial idx ∧ a = 914))) (hdg : decode cc pc = .ok (i, 3)) (hts : ∀ w ∈ q_Tw, w.before args s = true) (hown : s.vm.findClass (q_cn o) = some m.cls) (hsz : c.maxLocals = ls.size)
    (hK : va_K D q_cl (q_tys tc) s) (hP : va_P D q_cl (q_rz ad tc M) H) (hD : va_D A (q_rz ad tc M)) (hS : va_S A s.heap H locs) (hRf : 4 ≤ R.frames) (hRl : 120 ≤ R.locals) (hRc : cells ≤ R.cells) (hRs : slots ≤ R.slots) (hsum : (st.map fun v => v.category).sum ≤ 16)
    (hstr : ∀ (j : Nat) (r : List Value), j < q_sc.length → (r.map fun v => v.category).sum ≤ 16 → (i = .invokevirtual idx → a = 900 → W p l e R s m args below meth c H locs cells slots Q (F0 m (pc + 3) ls (.int (Int32.ofNat (q_sc.getD j default).2.2.2.length) :: q_ts ad r)) → W p l e R s m args below meth c H locs cells slots Q (F0 m pc ls (.ref (ad (q_big + 1 + j)) :: q_ts ad r))) ∧
      (∀ k : Int32, ¬ (k < 0 ∨ (q_sc.getD j default).2.2.2.length ≤ k.toNatClampNeg) → i = .invokevirtual idx → a = 901 → W p l e R s m args below meth c H locs cells slots Q (F0 m (pc + 3) ls (.int ((q_sc.getD j default).2.2.2.getD k.toNatClampNeg 0) :: q_ts ad r)) → W p l e R s m args below meth c H locs cells slots Q (F0 m pc ls (.int k :: .ref (ad (q_big + 1 + j)) :: q_ts ad r))))
    (k : ∀ (H1 : Heap) (locs1 : List Loc), va_P D q_cl (q_rz ad tc M') H1 → va_D A (q_rz ad tc M') → va_S A s.heap H1 locs1 → W p l e R s m args below meth c H1 locs1 cells slots Q (F0 m (pc + 3) ls (q_ts ad st'))) : W p l e R s m args below meth c H locs cells slots Q (F0 m pc ls (q_ts ad st)) := by
  obtain ⟨hml, hk⟩ := hk
  have hml := hts _ hml
  unfold q_jdk at h
  split at h
  · split at h
    · rename_i id r
      split at h
      · rename_i hid
        obtain ⟨h1, h2⟩ := hid
        cases h
        have e1 : q_big + 1 + (id - q_big - 1) = id := by omega
        have hi : i = .invokevirtual idx := by
          rcases hk with ⟨_, z⟩ | ⟨z, _⟩ | ⟨_, z⟩
          · simp at z
          · exact z
          · simp at z
        have hs := (hstr (id - q_big - 1) r h2 (by simp only [List.map_cons, List.sum_cons] at hsum; omega)).1 hi rfl (k H locs hP hD hS)
        rw [e1] at hs
        exact hs
      · cases h
    · cases h
  · split at h
    · rename_i j id r
      split at h
      · rename_i hid
        obtain ⟨h1, h2, h3⟩ := hid
        cases h
        have e1 : q_big + 1 + (id - q_big - 1) = id := by omega
        have hi : i = .invokevirtual idx := by
          rcases hk with ⟨_, z⟩ | ⟨z, _⟩ | ⟨_, z⟩
          · simp at z
          · exact z
          · simp at z
        have hs := (hstr (id - q_big - 1) r h2 (by simp only [List.map_cons, List.sum_cons] at hsum; omega)).2 j h3 hi rfl (k H locs hP hD hS)
        rw [e1] at hs
        exact hs
      · cases h
    · cases h
  · split at h
    · rename_i y x r
      cases h
      have hi : i = .invokestatic idx := by
        rcases hk with ⟨z, _⟩ | ⟨_, z⟩ | ⟨_, z⟩
        · exact z
        · simp at z
        · simp at z
      rw [hi] at hdg
      simp only [List.map_cons, List.sum_cons] at hsum
      exact va_mmax hx hb hsz hown hml (hts _ q_w_max_s) (hts _ q_w_math) (hts _ q_w_max_c) (by omega) (by rw [q_ts_cat]; omega) hRc hRs hdg (k H locs hP hD hS)
    · cases h
  · split at h
    · rename_i y x r
      cases h
      have hi : i = .invokestatic idx := by
        rcases hk with ⟨z, _⟩ | ⟨_, z⟩ | ⟨_, z⟩
        · exact z
        · simp at z
        · simp at z
      rw [hi] at hdg
      simp only [List.map_cons, List.sum_cons] at hsum
      have k9 := k H locs hP hD hS
      rw [q_min_sw] at k9
      exact va_mmin hx hb hsz hown hml (hts _ q_w_min_s) (hts _ q_w_math) (hts _ q_w_min_c) (by omega) (by rw [q_ts_cat]; omega) hRc hRs hdg k9
    · cases h
  · split at h
    · rename_i x r
      cases h
      have hi : i = .invokestatic idx := by
        rcases hk with ⟨z, _⟩ | ⟨_, z⟩ | ⟨_, z⟩
        · exact z
        · simp at z
        · simp at z
      rw [hi] at hdg
      simp only [List.map_cons, List.sum_cons] at hsum
      exact va_mabs hx hb hsz hown hml (hts _ q_w_abs_s) (hts _ q_w_math) (hts _ q_w_abs_c) (by omega) (by rw [q_ts_cat]; omega) hRc hRs hdg (k H locs hP hD hS)
    · cases h
  · split at h
    · rename_i n dp d sp sr r
      split at h
      · cases h
      · rename_i hneg
        have hi : i = .invokestatic idx := by
          rcases hk with ⟨z, _⟩ | ⟨_, z⟩ | ⟨_, z⟩
          · exact z
          · simp at z
          · simp at z
        rw [hi] at hdg
        simp only [List.map_cons, List.sum_cons] at hsum
        have hnf : nativeFrameWords "java/lang/System" "arraycopy" 5 + 11 ≤ 100 := by decide
        split at h
        · rename_i n0 f n1 g hs0 hd0
          split at h
          · rename_i hc
            cases h
            exact va_copyi (ty := .int) hx hb hsz hown hml (hts _ q_w_ac_n) (hts _ q_w_ac_s) (hts _ q_w_sys) hK hP hD hS sr d 0 0 (q_rz_at hs0) (q_rz_at hd0) (q_tys_get (by decide)) (q_tys_get (by decide)) rfl (fun z => hneg (Or.inl z)) (fun z => hneg (Or.inr (Or.inl z))) (fun z => hneg (Or.inr (Or.inr z))) hc.1 hc.2 (fun _ _ => rfl) (by omega) (by rw [q_ts_cat]; omega) hdg (fun H1 locs1 h1 h2 h3 => k H1 locs1 (by rw [← q_rz_set]; exact h1) (by rw [← q_rz_set]; exact h2) h3)
          · cases h
        · rename_i n0 f n1 g hs0 hd0
          split at h
          · rename_i hc
            cases h
            exact va_copyl (ty := .long) hx hb hsz hown hml (hts _ q_w_ac_n) (hts _ q_w_ac_s) (hts _ q_w_sys) hK hP hD hS sr d 1 1 (q_rz_at hs0) (q_rz_at hd0) (q_tys_get (by decide)) (q_tys_get (by decide)) rfl (fun z => hneg (Or.inl z)) (fun z => hneg (Or.inr (Or.inl z))) (fun z => hneg (Or.inr (Or.inr z))) hc.1 hc.2 (fun _ _ => rfl) (by omega) (by rw [q_ts_cat]; omega) hdg (fun H1 locs1 h1 h2 h3 => k H1 locs1 (by rw [← q_rz_set]; exact h1) (by rw [← q_rz_set]; exact h2) h3)
          · cases h
        · cases h
    · cases h
  · split at h
    · rename_i id r
      cases h
      have hi : i = .invokespecial idx := by
        rcases hk with ⟨_, z⟩ | ⟨_, z⟩ | ⟨z, _⟩
        · simp at z
        · simp at z
        · exact z
      rw [hi] at hdg
      simp only [List.map_cons, List.sum_cons] at hsum
      exact W.objInit hx hb hown hml (hts _ q_w_ob_i) (hts _ q_w_ob_c) rfl (by show ls.size = _; rw [hsz]) rfl hdg (by omega) (by show 2 * 0 + _ + 12 ≤ _; rw [q_ts_cat]; omega) (k H locs hP hD hS)
    · cases h
  · cases h
theorem q_jdk_v {X : q_X} (h : q_jdk X M a st = some (st', M')) (hM : q_vM M) (hs : q_vs M.length st) : q_vM M' ∧ M'.length = M.length ∧ q_vs M.length st' := by
  unfold q_jdk at h
  (repeat' split at h) <;> first
    | (cases h; done)
    | (cases h; exact ⟨hM, rfl, q_vs_c.mpr ⟨q_vv_i, (q_vs_c.mp (q_vs_c.mp hs).2).2⟩⟩)
    | (cases h; exact ⟨hM, rfl, q_vs_c.mpr ⟨q_vv_i, (q_vs_c.mp hs).2⟩⟩)
    | (cases h; exact ⟨hM, rfl, (q_vs_c.mp hs).2⟩)
    | (cases h; exact ⟨q_vM_set hM trivial, List.length_set, (q_vs_c.mp (q_vs_c.mp (q_vs_c.mp (q_vs_c.mp (q_vs_c.mp hs).2).2).2).2).2⟩)
end QJ
