section TT
variable {T : zt_T}
/-! A RUN OF THE MINI-MACHINE over the typed state: a row an instruction -/
def zt_cov (lv lv' : q_L) : Prop := ∀ q ∈ lv, q_ld lv' q.1 = some q.2
theorem zt_cov_ld {lv lv' : q_L} {k : Nat} {v : Value} (h : zt_cov lv lv') (hl : q_ld lv k = some v) : q_ld lv' k = some v := h (k, v) (q_ld_mem hl)
theorem zt_cov_nil {lv : q_L} : zt_cov [] lv := fun q hq => absurd hq List.not_mem_nil
theorem zt_cov_cons {lv r : q_L} {k : Nat} {v : Value} (h : q_ld lv k = some v) (hr : zt_cov r lv) : zt_cov ((k, v) :: r) lv := fun q hq => by
  rcases List.mem_cons.mp hq with rfl | hq
  · exact h
  · exact hr q hq
theorem zt_cov_tr {a b c : q_L} (h1 : zt_cov a b) (h2 : zt_cov b c) : zt_cov a c := fun q hq => h2 (q.1, q.2) (q_ld_mem (h1 q hq))
theorem zt_ld_fil {lv : q_L} {j : Nat} {v : Value} {p : Nat × Value → Bool} (h : q_ld lv j = some v) (hp : p (j, v) = true) : q_ld (lv.filter p) j = some v := by
  unfold q_ld at h ⊢
  induction lv with
  | nil => cases h
  | cons q lv ih =>
    obtain ⟨qi, qv⟩ := q
    by_cases hq : (qi == j) = true
    · have hq' : qi = j := by simpa using hq
      subst hq'
      rw [List.find?_cons_of_pos (by simp)] at h
      have : qv = v := by simpa using h
      subst this
      rw [List.filter_cons_of_pos hp, List.find?_cons_of_pos (by simp)]
      rfl
    · rw [List.find?_cons_of_neg (by simpa using hq)] at h
      by_cases hpq : p (qi, qv) = true
      · rw [List.filter_cons_of_pos hpq, List.find?_cons_of_neg (by simpa using hq)]
        exact ih h
      · rw [List.filter_cons_of_neg hpq]
        exact ih h
theorem zt_cov_fil {lv lv' : q_L} {p : Nat × Value → Bool} (h : zt_cov lv lv') : zt_cov (lv.filter p) (lv'.filter p) := fun q hq => by
  obtain ⟨h1, h2⟩ := List.mem_filter.mp hq
  exact zt_ld_fil (h q h1) h2
theorem zt_cov_hd {lv r : q_L} {k : Nat} {v : Value} (hn : ∀ q ∈ r, q.1 ≠ k) (h : zt_cov r lv) : zt_cov ((k, v) :: r) ((k, v) :: lv) := fun q hq => by
  rcases List.mem_cons.mp hq with rfl | hq
  · simp [q_ld]
  · have := h q hq
    unfold q_ld at this ⊢
    rw [List.find?_cons_of_neg (by simpa using Ne.symm (hn q hq))]
    exact this
theorem zt_cov_s1 {lv lv' : q_L} {k : Nat} {v : Value} (h : zt_cov lv lv') : zt_cov (q_s1 lv k v) (q_s1 lv' k v) := by
  unfold q_s1
  refine zt_cov_hd (fun q hq => ?_) (zt_cov_fil h)
  have := (List.mem_filter.mp hq).2
  simp only [Bool.and_eq_true, Bool.not_eq_true', beq_eq_false_iff_ne] at this
  exact this.1
theorem zt_cov_s2 {lv lv' : q_L} {k : Nat} {v : Value} (h : zt_cov lv lv') : zt_cov (q_s2 lv k v) (q_s2 lv' k v) := by
  unfold q_s2
  refine zt_cov_hd (fun q hq => ?_) (zt_cov_fil h)
  have := (List.mem_filter.mp hq).2
  simp only [Bool.and_eq_true, Bool.not_eq_true', beq_eq_false_iff_ne] at this
  exact this.1
theorem zt_cov_dr {lv lv' : q_L} {k : Nat} {v : Value} (h : zt_cov lv lv') : zt_cov ((q_s1 lv k v).drop 1) ((q_s1 lv' k v).drop 1) := by
  unfold q_s1
  exact zt_cov_fil h
def zt_Ex (X : q_X) (d y pc : Nat) (lv : q_L) (st : List Value) (M : q_M) (o : q_O × q_M) : Prop := ∃ f : Nat, ∀ (f' d' : Nat) (lv' : q_L), f ≤ f' → d ≤ d' → zt_cov lv lv' → q_ex X f' d' y pc lv' st M = some o
theorem zt_dm {X : q_X} {d d' y pc : Nat} {lv : q_L} {st : List Value} {M : q_M} {o : q_O × q_M} (hd : d ≤ d') (h : zt_Ex X d y pc lv st M o) : zt_Ex X d' y pc lv st M o := by
  obtain ⟨f, hf⟩ := h
  exact ⟨f, fun f' d'' lv' h1 h2 h3 => hf f' d'' lv' h1 (Nat.le_trans hd h2) h3⟩
theorem zt_wk {X : q_X} {d y pc : Nat} {lv lv1 : q_L} {st : List Value} {M : q_M} {o : q_O × q_M} (hc : zt_cov lv1 lv) (h : zt_Ex X d y pc lv1 st M o) : zt_Ex X d y pc lv st M o := by
  obtain ⟨f, hf⟩ := h
  exact ⟨f, fun f' d'' lv' h1 h2 h3 => hf f' d'' lv' h1 h2 (zt_cov_tr hc h3)⟩
def zt_ck {β : Type} (p : Prop) [Decidable p] (x : Option β) : Option β := if p then x else none
theorem zt_ckE {β : Type} {p : Prop} [Decidable p] {x : Option β} {r : β} (h : zt_ck p x = some r) : p ∧ x = some r := by
  unfold zt_ck at h
  split at h
  · rename_i hp; exact ⟨hp, h⟩
  · cases h
theorem zt_ckI {β : Type} {p : Prop} [Decidable p] {x : Option β} (h : p) : zt_ck p x = x := if_pos h
def zt_bd {α β : Type} (x : Option (α × zt_S)) (k : α → zt_S → Option β) : Option β := match x with
  | some (r, s) => k r s
  | none => none
theorem zt_bdE {α β : Type} {x : Option (α × zt_S)} {k : α → zt_S → Option β} {o : β} (h : zt_bd x k = some o) : ∃ r s, x = some (r, s) ∧ k r s = some o := by
  unfold zt_bd at h
  split at h
  · exact ⟨_, _, rfl, h⟩
  · cases h
theorem zt_bdI {α β : Type} {k : α → zt_S → Option β} {r : α} {s : zt_S} : zt_bd (some (r, s)) k = k r s := rfl
def zt_bx {α β : Type} (x : Option ((α ⊕ Nat) × zt_S)) (k : α → zt_S → Option β) (e : Nat → zt_S → Option β) : Option β := match x with
  | some (.inl r, s) => k r s
  | some (.inr E, s) => e E s
  | none => none
theorem zt_bxE {α β : Type} {x : Option ((α ⊕ Nat) × zt_S)} {k : α → zt_S → Option β} {e : Nat → zt_S → Option β} {o : β} (h : zt_bx x k e = some o) : (∃ r s, x = some (.inl r, s) ∧ k r s = some o) ∨ (∃ E s, x = some (.inr E, s) ∧ e E s = some o) := by
  unfold zt_bx at h
  split at h
  · exact Or.inl ⟨_, _, rfl, h⟩
  · exact Or.inr ⟨_, _, rfl, h⟩
  · cases h
theorem zt_bxI {α β : Type} {k : α → zt_S → Option β} {e : Nat → zt_S → Option β} {r : α} {s : zt_S} : zt_bx (some (.inl r, s)) k e = k r s := rfl
theorem zt_bxX {α β : Type} {k : α → zt_S → Option β} {e : Nat → zt_S → Option β} {E : Nat} {s : zt_S} : zt_bx (some (.inr E, s)) k e = e E s := rfl
/-- a number that an int holds -/
abbrev zt_in (x : Int) : Prop := -2147483648 ≤ x ∧ x < 2147483648
theorem zt_ti {x : Int} (h : zt_in x) : (Int32.ofInt x).toInt = x := Int32.toInt_ofInt_of_le (by have := h.1; omega) (by have := h.2; omega)
theorem zt_ceq {x y : Int} (hx : zt_in x) (hy : zt_in y) : Int32.ofInt x = Int32.ofInt y ↔ x = y := ⟨fun h => by rw [← zt_ti hx, ← zt_ti hy, h], fun h => by rw [h]⟩
set_option maxRecDepth 20000 in
theorem zt_clt {x y : Int} (hx : zt_in x) (hy : zt_in y) : Int32.ofInt x < Int32.ofInt y ↔ x < y := by rw [Int32.lt_iff_toInt_lt, zt_ti hx, zt_ti hy]
theorem zt_cle {x y : Int} (hx : zt_in x) (hy : zt_in y) : Int32.ofInt x ≤ Int32.ofInt y ↔ x ≤ y := by rw [Int32.le_iff_toInt_le, zt_ti hx, zt_ti hy]
theorem zt_0 : (0 : Int32) = Int32.ofInt 0 := rfl
theorem zt_in0 : zt_in 0 := ⟨by decide, by decide⟩
set_option maxRecDepth 20000 in
theorem zt_cl {j : Int} (h0 : 0 ≤ j) (h1 : j < 2147483648) : (Int32.ofInt j).toNatClampNeg = j.toNat := Int32.toNatClampNeg_ofInt_of_le (by omega) (by omega)
set_option maxRecDepth 20000 in
theorem zt_ix {j : Int} {n : Nat} (hj : 0 ≤ j ∧ j < (n : Int)) (hn : n ≤ 1000000) : ¬ (Int32.ofInt j < 0 ∨ n ≤ (Int32.ofInt j).toNatClampNeg) := by
  rw [zt_cl hj.1 (by omega), zt_0, zt_clt ⟨by omega, by omega⟩ zt_in0]
  omega
def zt_and (x y : Int) : Int := (Int32.ofInt x &&& Int32.ofInt y).toInt
def zt_or (x y : Int) : Int := (Int32.ofInt x ||| Int32.ofInt y).toInt
def zt_xor (x y : Int) : Int := (Int32.ofInt x ^^^ Int32.ofInt y).toInt
def zt_shl (x y : Int) : Int := (Int32.ofInt x <<< (Int32.ofInt y &&& 31)).toInt
def zt_shr (x y : Int) : Int := (Int32.ofInt x >>> (Int32.ofInt y &&& 31)).toInt
def zt_l (x : Int) : Int64 := (Int32.ofInt x).toInt64
def zt_i (x : Int64) : Int := x.toInt32.toInt
def zt_b (x : Int) : Int := (Int32.ofInt x).toInt8.toInt32.toInt
def zt_if (x : Int) : UInt32 := FP.i2f (Int32.ofInt x)
def zt_id (x : Int) : UInt64 := FP.i2d (Int32.ofInt x)
def zt_lc (x y : Int64) : Int := (lg_cmp x y).toInt
def zt_ls (x : Int64) (y : Int) : Int64 := x <<< ((Int32.ofInt y).toInt64 &&& 63)
def zt_rs (x : Int64) (y : Int) : Int64 := x >>> ((Int32.ofInt y).toInt64 &&& 63)
def zt_us (x : Int64) (y : Int) : Int64 := (x.toUInt64 >>> ((Int32.ofInt y).toInt64.toUInt64 &&& Int64.toUInt64 63)).toInt64
def zt_fc (x y : UInt32) (op : Jvm.ClassFile.CmpOp) : Int := (Op.cmpValue (FP.fcmp x y) op).toInt
def zt_dc (x y : UInt64) (op : Jvm.ClassFile.CmpOp) : Int := (Op.cmpValue (FP.dcmp x y) op).toInt
def zt_x (X : q_X) (j : Int) : Int := (X.2 j.toNat).toInt
def zt_exn (E : Nat) : String := match E with
  | 0 => "java/util/NoSuchElementException"
  | _ => "java/lang/IllegalArgumentException"
theorem zt_lva0 : ∀ (as : List Value) (k : Nat), ∀ q ∈ lv_args k as, k ≤ q.1
  | [], _, q, hq => absurd hq List.not_mem_nil
  | v :: as, k, q, hq => by
    rcases List.mem_cons.mp hq with rfl | hq
    · exact Nat.le_refl _
    · have := zt_lva0 as _ q hq
      split at this <;> omega
theorem zt_lva : ∀ {as : List Value} {k : Nat} {q : Nat × Value}, q ∈ lv_args k as → q_ld (lv_args k as) q.1 = some q.2
  | [], _, q, hq => absurd hq List.not_mem_nil
  | v :: as, k, q, hq => by
    rcases List.mem_cons.mp hq with rfl | hq
    · simp [q_ld, lv_args]
    · have h0 := zt_lva0 as _ q hq
      have h1 := zt_lva hq
      unfold q_ld at h1 ⊢
      rw [lv_args, List.find?_cons_of_neg (by simp; split at h0 <;> omega)]
      exact h1
section ZT
variable {X : q_X} {d y pc : Nat} {lv : q_L} {st r : List Value} {M : q_M} {σ : zt_S} {o : q_O × q_M} {nL : Nat} {rt : Option FieldType} {hh : List (Nat × Nat × Nat × Nat)} {kd ow : Nat} {code : List (Nat × Instr × Nat × Nat)} {a b : Nat}
theorem zt_st {i : Instr} {pc' : Nat} {lv2 : q_L} {st' : List Value} {M' : q_M} (hy : (q_row y).2.2 = (nL, rt, hh, kd, ow, code)) (hi : q_ins code pc = some (i, a, b)) (he : q_end rt i st = none) (hs : ∀ lv', zt_cov lv lv' → ∃ lv2', zt_cov lv2 lv2' ∧ q_stp X ow (kd == 2) nL i a b pc lv' st M = some (pc', lv2', st', M')) (h : zt_Ex X d y pc' lv2 st' M' o) : zt_Ex X d y pc lv st M o := by
  obtain ⟨f, hf⟩ := h
  refine ⟨f + 1, fun f' d' lv' h1 h2 h3 => ?_⟩
  obtain ⟨g, rfl⟩ : ∃ g, f' = g + 1 := ⟨f' - 1, by omega⟩
  obtain ⟨lv2', k1, k2⟩ := hs lv' h3
  rw [q_ex]
  simp only [hy, hi, he, k2]
  exact hf g d' lv2' (by omega) h2 k1
theorem zt_p1 {i : Instr} {pc' : Nat} {lv2 : q_L} {st' : List Value} (hy : (q_row y).2.2 = (nL, rt, hh, kd, ow, code)) (hi : q_ins code pc = some (i, a, b)) (he : q_end rt i st = none) (hs : ∀ lv', zt_cov lv lv' → ∃ lv2', zt_cov lv2 lv2' ∧ q_p1 i a pc nL lv' st = some (pc', lv2', st')) (h : zt_Ex X d y pc' lv2 st' M o) : zt_Ex X d y pc lv st M o :=
  zt_st hy hi he (fun lv' hc => by
    obtain ⟨lv2', k1, k2⟩ := hs lv' hc
    exact ⟨lv2', k1, by unfold q_stp; rw [k2]⟩) h
theorem zt_c {i : Instr} {pc' : Nat} {st' : List Value} (hy : (q_row y).2.2 = (nL, rt, hh, kd, ow, code)) (hi : q_ins code pc = some (i, a, b)) (he : q_end rt i st = none) (hs : ∀ lv', q_p1 i a pc nL lv' st = some (pc', lv', st')) (h : zt_Ex X d y pc' lv st' M o) : zt_Ex X d y pc lv st M o :=
  zt_p1 hy hi he (fun lv' hc => ⟨lv', hc, hs lv'⟩) h
theorem zt_pk {i : Instr} {pc' : Nat} {st' : List Value} (hy : (q_row y).2.2 = (nL, rt, hh, kd, ow, code)) (hi : q_ins code pc = some (i, a, b)) (he : q_end rt i st = none) (h1 : ∀ lv', q_p1 i a pc nL lv' st = none) (hs : q_pk i a b pc st = some (pc', st')) (h : zt_Ex X d y pc' lv st' M o) : zt_Ex X d y pc lv st M o :=
  zt_st hy hi he (fun lv' hc => ⟨lv', hc, by unfold q_stp; rw [h1, hs]⟩) h
theorem zt_p2 {i : Instr} {pc' : Nat} {st' : List Value} (hy : (q_row y).2.2 = (nL, rt, hh, kd, ow, code)) (hi : q_ins code pc = some (i, a, b)) (he : q_end rt i st = none) (h1 : ∀ lv', q_p1 i a pc nL lv' st = none) (h2 : q_pk i a b pc st = none) (hs : q_p2 X M.1 i a b pc st = some (pc', st')) (h : zt_Ex X d y pc' lv st' M o) : zt_Ex X d y pc lv st M o :=
  zt_st hy hi he (fun lv' hc => ⟨lv', hc, by unfold q_stp; rw [h1, h2, hs]⟩) h
theorem zt_p3 {i : Instr} {pc' : Nat} {st' : List Value} {M' : List va_E} (hy : (q_row y).2.2 = (nL, rt, hh, kd, ow, code)) (hi : q_ins code pc = some (i, a, b)) (he : q_end rt i st = none) (h1 : ∀ lv', q_p1 i a pc nL lv' st = none) (h2 : q_pk i a b pc st = none) (h3 : q_p2 X M.1 i a b pc st = none) (hs : q_p3 ow (kd == 2) M.1 i a b pc st = some (pc', st', M')) (h : zt_Ex X d y pc' lv st' (M', M.2) o) : zt_Ex X d y pc lv st M o :=
  zt_st hy hi he (fun lv' hc => ⟨lv', hc, by unfold q_stp; rw [h1, h2, h3, hs]⟩) h
theorem zt_iconst {n : Int} (hy : (q_row y).2.2 = (nL, rt, hh, kd, ow, code)) (hi : q_ins code pc = some (.iconst n, a, b))  (h : zt_Ex X d y (pc + 1) lv (.int (Int32.ofInt n) :: st) M o) : zt_Ex X d y pc lv st M o := zt_c hy hi rfl (fun _ => rfl) h
theorem zt_bipush {n : Int} (hy : (q_row y).2.2 = (nL, rt, hh, kd, ow, code)) (hi : q_ins code pc = some (.bipush n, a, b)) (hn : (Int8.ofInt n).toInt32 = Int32.ofInt n) (h : zt_Ex X d y (pc + 2) lv (.int (Int32.ofInt n) :: st) M o) : zt_Ex X d y pc lv st M o := zt_c hy hi rfl (fun _ => rfl) (by rw [hn]; exact h)
theorem zt_sipush {n : Int} (hy : (q_row y).2.2 = (nL, rt, hh, kd, ow, code)) (hi : q_ins code pc = some (.sipush n, a, b)) (hn : (Int16.ofInt n).toInt32 = Int32.ofInt n) (h : zt_Ex X d y (pc + 3) lv (.int (Int32.ofInt n) :: st) M o) : zt_Ex X d y pc lv st M o := zt_c hy hi rfl (fun _ => rfl) (by rw [hn]; exact h)
theorem zt_lconst {n : Fin 2} {v : Int64} (hy : (q_row y).2.2 = (nL, rt, hh, kd, ow, code)) (hi : q_ins code pc = some (.lconst n, a, b)) (hn : Int64.ofNat (n : Nat) = v) (h : zt_Ex X d y (pc + 1) lv (.long v :: st) M o) : zt_Ex X d y pc lv st M o := zt_c hy hi rfl (fun _ => rfl) (by rw [hn]; exact h)
theorem zt_fconst0 (hy : (q_row y).2.2 = (nL, rt, hh, kd, ow, code)) (hi : q_ins code pc = some (.fconst 0, a, b))  (h : zt_Ex X d y (pc + 1) lv (.float FP.fconst0 :: st) M o) : zt_Ex X d y pc lv st M o := zt_c hy hi rfl (fun _ => rfl) h
theorem zt_dconst0 (hy : (q_row y).2.2 = (nL, rt, hh, kd, ow, code)) (hi : q_ins code pc = some (.dconst 0, a, b))  (h : zt_Ex X d y (pc + 1) lv (.double FP.dconst0 :: st) M o) : zt_Ex X d y pc lv st M o := zt_c hy hi rfl (fun _ => rfl) h
theorem zt_ldcI {k : Nat} {n : Int} (hy : (q_row y).2.2 = (nL, rt, hh, kd, ow, code)) (hi : q_ins code pc = some (.ldc k, a, b)) (ha : a = 0) (hn : Int32.ofNat b = Int32.ofInt n) (h : zt_Ex X d y (pc + 2) lv (.int (Int32.ofInt n) :: st) M o) : zt_Ex X d y pc lv st M o := zt_pk hy hi rfl (fun _ => rfl) (if_pos ha) (by rw [hn]; exact h)
theorem zt_ldcS {k : Nat} (hy : (q_row y).2.2 = (nL, rt, hh, kd, ow, code)) (hi : q_ins code pc = some (.ldc k, a, b)) (ha : ¬ a = 0) (h : zt_Ex X d y (pc + 2) lv (.ref (q_big + 1 + b) :: st) M o) : zt_Ex X d y pc lv st M o := zt_pk hy hi rfl (fun _ => rfl) (if_neg ha) h
theorem zt_ldcw {k : Nat} {n : Int} (hy : (q_row y).2.2 = (nL, rt, hh, kd, ow, code)) (hi : q_ins code pc = some (.ldc_w k, a, b)) (ha : a = 0) (hn : Int32.ofNat b = Int32.ofInt n) (h : zt_Ex X d y (pc + 3) lv (.int (Int32.ofInt n) :: st) M o) : zt_Ex X d y pc lv st M o := zt_pk hy hi rfl (fun _ => rfl) (if_pos ha) (by rw [hn]; exact h)
theorem zt_ldc2 {k : Nat} {v : Int64} (hy : (q_row y).2.2 = (nL, rt, hh, kd, ow, code)) (hi : q_ins code pc = some (.ldc2_w k, a, b)) (hn : Int64.ofNat b = v) (h : zt_Ex X d y (pc + 3) lv (.long v :: st) M o) : zt_Ex X d y pc lv st M o := zt_pk hy hi rfl (fun _ => rfl) rfl (by rw [hn]; exact h)
theorem zt_iload {k : Nat} {v : Int32} (hy : (q_row y).2.2 = (nL, rt, hh, kd, ow, code)) (hi : q_ins code pc = some (.iload k, a, b)) (hl : q_ld lv k = some (.int v)) (h : zt_Ex X d y (pc + 2) lv (.int v :: st) M o) : zt_Ex X d y pc lv st M o := zt_p1 hy hi rfl (fun lv' hc => ⟨lv', hc, by show (match q_ld lv' k with | some (Value.int x) => some (pc + 2, lv', Value.int x :: st) | _ => none) = _; rw [zt_cov_ld hc hl]⟩) h
theorem zt_iload_n {k : Fin 4} {v : Int32} (hy : (q_row y).2.2 = (nL, rt, hh, kd, ow, code)) (hi : q_ins code pc = some (.iload_n k, a, b)) (hl : q_ld lv (k : Nat) = some (.int v)) (h : zt_Ex X d y (pc + 1) lv (.int v :: st) M o) : zt_Ex X d y pc lv st M o := zt_p1 hy hi rfl (fun lv' hc => ⟨lv', hc, by show (match q_ld lv' (k : Nat) with | some (Value.int x) => some (pc + 1, lv', Value.int x :: st) | _ => none) = _; rw [zt_cov_ld hc hl]⟩) h
theorem zt_lload {k : Nat} {v : Int64} (hy : (q_row y).2.2 = (nL, rt, hh, kd, ow, code)) (hi : q_ins code pc = some (.lload k, a, b)) (hl : q_ld lv k = some (.long v)) (h : zt_Ex X d y (pc + 2) lv (.long v :: st) M o) : zt_Ex X d y pc lv st M o := zt_p1 hy hi rfl (fun lv' hc => ⟨lv', hc, by show (match q_ld lv' k with | some (Value.long x) => some (pc + 2, lv', Value.long x :: st) | _ => none) = _; rw [zt_cov_ld hc hl]⟩) h
theorem zt_lload_n {k : Fin 4} {v : Int64} (hy : (q_row y).2.2 = (nL, rt, hh, kd, ow, code)) (hi : q_ins code pc = some (.lload_n k, a, b)) (hl : q_ld lv (k : Nat) = some (.long v)) (h : zt_Ex X d y (pc + 1) lv (.long v :: st) M o) : zt_Ex X d y pc lv st M o := zt_p1 hy hi rfl (fun lv' hc => ⟨lv', hc, by show (match q_ld lv' (k : Nat) with | some (Value.long x) => some (pc + 1, lv', Value.long x :: st) | _ => none) = _; rw [zt_cov_ld hc hl]⟩) h
theorem zt_fload {k : Nat} {v : UInt32} (hy : (q_row y).2.2 = (nL, rt, hh, kd, ow, code)) (hi : q_ins code pc = some (.fload k, a, b)) (hl : q_ld lv k = some (.float v)) (h : zt_Ex X d y (pc + 2) lv (.float v :: st) M o) : zt_Ex X d y pc lv st M o := zt_p1 hy hi rfl (fun lv' hc => ⟨lv', hc, by show (match q_ld lv' k with | some (Value.float x) => some (pc + 2, lv', Value.float x :: st) | _ => none) = _; rw [zt_cov_ld hc hl]⟩) h
theorem zt_dload {k : Nat} {v : UInt64} (hy : (q_row y).2.2 = (nL, rt, hh, kd, ow, code)) (hi : q_ins code pc = some (.dload k, a, b)) (hl : q_ld lv k = some (.double v)) (h : zt_Ex X d y (pc + 2) lv (.double v :: st) M o) : zt_Ex X d y pc lv st M o := zt_p1 hy hi rfl (fun lv' hc => ⟨lv', hc, by show (match q_ld lv' k with | some (Value.double x) => some (pc + 2, lv', Value.double x :: st) | _ => none) = _; rw [zt_cov_ld hc hl]⟩) h
theorem zt_aload {k : Nat} {v : Nat} (hy : (q_row y).2.2 = (nL, rt, hh, kd, ow, code)) (hi : q_ins code pc = some (.aload k, a, b)) (hl : q_ld lv k = some (.ref v)) (h : zt_Ex X d y (pc + 2) lv (.ref v :: st) M o) : zt_Ex X d y pc lv st M o := zt_p1 hy hi rfl (fun lv' hc => ⟨lv', hc, by show (match q_ld lv' k with | some (Value.ref x) => some (pc + 2, lv', Value.ref x :: st) | _ => none) = _; rw [zt_cov_ld hc hl]⟩) h
theorem zt_aload_n {k : Fin 4} {v : Nat} (hy : (q_row y).2.2 = (nL, rt, hh, kd, ow, code)) (hi : q_ins code pc = some (.aload_n k, a, b)) (hl : q_ld lv (k : Nat) = some (.ref v)) (h : zt_Ex X d y (pc + 1) lv (.ref v :: st) M o) : zt_Ex X d y pc lv st M o := zt_p1 hy hi rfl (fun lv' hc => ⟨lv', hc, by show (match q_ld lv' (k : Nat) with | some (Value.ref x) => some (pc + 1, lv', Value.ref x :: st) | _ => none) = _; rw [zt_cov_ld hc hl]⟩) h
theorem zt_istore {k : Nat} {v : Int32} (hy : (q_row y).2.2 = (nL, rt, hh, kd, ow, code)) (hi : q_ins code pc = some (.istore k, a, b)) (hk : k < nL) (h : zt_Ex X d y (pc + 2) (q_s1 lv k (.int v)) st M o) : zt_Ex X d y pc lv (.int v :: st) M o := zt_p1 hy hi rfl (fun lv' hc => ⟨q_s1 lv' k (.int v), zt_cov_s1 hc, if_pos hk⟩) h
theorem zt_istore_n {k : Fin 4} {v : Int32} (hy : (q_row y).2.2 = (nL, rt, hh, kd, ow, code)) (hi : q_ins code pc = some (.istore_n k, a, b)) (hk : (k : Nat) < nL) (h : zt_Ex X d y (pc + 1) (q_s1 lv (k : Nat) (.int v)) st M o) : zt_Ex X d y pc lv (.int v :: st) M o := zt_p1 hy hi rfl (fun lv' hc => ⟨q_s1 lv' (k : Nat) (.int v), zt_cov_s1 hc, if_pos hk⟩) h
theorem zt_lstore {k : Nat} {v : Int64} (hy : (q_row y).2.2 = (nL, rt, hh, kd, ow, code)) (hi : q_ins code pc = some (.lstore k, a, b)) (hk : k + 1 < nL) (h : zt_Ex X d y (pc + 2) (q_s2 lv k (.long v)) st M o) : zt_Ex X d y pc lv (.long v :: st) M o := zt_p1 hy hi rfl (fun lv' hc => ⟨q_s2 lv' k (.long v), zt_cov_s2 hc, if_pos hk⟩) h
theorem zt_lstore_n {k : Fin 4} {v : Int64} (hy : (q_row y).2.2 = (nL, rt, hh, kd, ow, code)) (hi : q_ins code pc = some (.lstore_n k, a, b)) (hk : (k : Nat) + 1 < nL) (h : zt_Ex X d y (pc + 1) (q_s2 lv (k : Nat) (.long v)) st M o) : zt_Ex X d y pc lv (.long v :: st) M o := zt_p1 hy hi rfl (fun lv' hc => ⟨q_s2 lv' (k : Nat) (.long v), zt_cov_s2 hc, if_pos hk⟩) h
theorem zt_fstore {k : Nat} {v : UInt32} (hy : (q_row y).2.2 = (nL, rt, hh, kd, ow, code)) (hi : q_ins code pc = some (.fstore k, a, b)) (hk : k < nL) (h : zt_Ex X d y (pc + 2) (q_s1 lv k (.float v)) st M o) : zt_Ex X d y pc lv (.float v :: st) M o := zt_p1 hy hi rfl (fun lv' hc => ⟨q_s1 lv' k (.float v), zt_cov_s1 hc, if_pos hk⟩) h
theorem zt_dstore {k : Nat} {v : UInt64} (hy : (q_row y).2.2 = (nL, rt, hh, kd, ow, code)) (hi : q_ins code pc = some (.dstore k, a, b)) (hk : k + 1 < nL) (h : zt_Ex X d y (pc + 2) (q_s2 lv k (.double v)) st M o) : zt_Ex X d y pc lv (.double v :: st) M o := zt_p1 hy hi rfl (fun lv' hc => ⟨q_s2 lv' k (.double v), zt_cov_s2 hc, if_pos hk⟩) h
theorem zt_astore {k : Nat} {v : Nat} (hy : (q_row y).2.2 = (nL, rt, hh, kd, ow, code)) (hi : q_ins code pc = some (.astore k, a, b)) (hk : k < nL) (h : zt_Ex X d y (pc + 2) (q_s1 lv k (.ref v)) st M o) : zt_Ex X d y pc lv (.ref v :: st) M o := zt_p1 hy hi rfl (fun lv' hc => ⟨q_s1 lv' k (.ref v), zt_cov_s1 hc, if_pos hk⟩) h
theorem zt_astore_n {k : Fin 4} {v : Nat} (hy : (q_row y).2.2 = (nL, rt, hh, kd, ow, code)) (hi : q_ins code pc = some (.astore_n k, a, b)) (hk : (k : Nat) < nL) (h : zt_Ex X d y (pc + 1) (q_s1 lv (k : Nat) (.ref v)) st M o) : zt_Ex X d y pc lv (.ref v :: st) M o := zt_p1 hy hi rfl (fun lv' hc => ⟨q_s1 lv' (k : Nat) (.ref v), zt_cov_s1 hc, if_pos hk⟩) h
theorem zt_iinc {k : Nat} {n v : Int} (hy : (q_row y).2.2 = (nL, rt, hh, kd, ow, code)) (hi : q_ins code pc = some (.iinc k n, a, b)) (hk : k < nL) (hl : q_ld lv k = some (.int (Int32.ofInt v))) (h : zt_Ex X d y (pc + 3) (q_s1 lv k (.int (Int32.ofInt (v + n)))) st M o) : zt_Ex X d y pc lv st M o := zt_p1 hy hi rfl (fun lv' hc => ⟨q_s1 lv' k (.int (Int32.ofInt (v + n))), zt_cov_s1 hc, by show (match q_ld lv' k with | some (Value.int x) => if k < nL then some (pc + 3, q_s1 lv' k (Value.int (x + Int32.ofInt n)), st) else none | _ => none) = _; rw [zt_cov_ld hc hl, Int32.ofInt_add]; exact if_pos hk⟩) h
theorem zt_iadd {u v : Int} (hy : (q_row y).2.2 = (nL, rt, hh, kd, ow, code)) (hi : q_ins code pc = some (.iadd, a, b))  (h : zt_Ex X d y (pc + 1) lv (.int (Int32.ofInt (u + v)) :: st) M o) : zt_Ex X d y pc lv (.int (Int32.ofInt v) :: .int (Int32.ofInt u) :: st) M o := zt_c hy hi rfl (fun _ => rfl) (by rw [← Int32.ofInt_add]; exact h)
theorem zt_isub {u v : Int} (hy : (q_row y).2.2 = (nL, rt, hh, kd, ow, code)) (hi : q_ins code pc = some (.isub, a, b))  (h : zt_Ex X d y (pc + 1) lv (.int (Int32.ofInt (u - v)) :: st) M o) : zt_Ex X d y pc lv (.int (Int32.ofInt v) :: .int (Int32.ofInt u) :: st) M o := zt_c hy hi rfl (fun _ => rfl) (by rw [← Int32.ofInt_sub]; exact h)
theorem zt_imul {u v : Int} (hy : (q_row y).2.2 = (nL, rt, hh, kd, ow, code)) (hi : q_ins code pc = some (.imul, a, b))  (h : zt_Ex X d y (pc + 1) lv (.int (Int32.ofInt (u * v)) :: st) M o) : zt_Ex X d y pc lv (.int (Int32.ofInt v) :: .int (Int32.ofInt u) :: st) M o := zt_c hy hi rfl (fun _ => rfl) (by rw [← Int32.ofInt_mul]; exact h)
set_option maxRecDepth 20000 in
theorem zt_dv {u v : Int} (hu : 0 ≤ u ∧ u < 2147483648) (hv : 0 < v ∧ v < 2147483648) : Int32.ofInt u / Int32.ofInt v = Int32.ofInt (u / v) := by
  rw [← Int.tdiv_eq_ediv_of_nonneg hu.1]
  exact (Int32.ofInt_tdiv (by have := hu.1; show (-2147483648 : Int) ≤ u; omega) (by have := hu.2; show u ≤ (2147483647 : Int); omega) (by have := hv.1; show (-2147483648 : Int) ≤ v; omega) (by have := hv.2; show v ≤ (2147483647 : Int); omega)).symm
theorem zt_nz {v : Int} (hv : 0 < v ∧ v < 2147483648) : ¬ Int32.ofInt v = 0 := by
  rw [zt_0, zt_ceq ⟨by omega, hv.2⟩ zt_in0]
  omega
theorem zt_idiv {u v : Int} (hy : (q_row y).2.2 = (nL, rt, hh, kd, ow, code)) (hi : q_ins code pc = some (.idiv, a, b)) (hu : 0 ≤ u ∧ u < 2147483648) (hv : 0 < v ∧ v < 2147483648) (h : zt_Ex X d y (pc + 1) lv (.int (Int32.ofInt (u / v)) :: st) M o) : zt_Ex X d y pc lv (.int (Int32.ofInt v) :: .int (Int32.ofInt u) :: st) M o := zt_c hy hi rfl (fun _ => (if_neg (zt_nz hv)).trans (by rw [zt_dv hu hv])) h
theorem zt_irem {u v : Int} (hy : (q_row y).2.2 = (nL, rt, hh, kd, ow, code)) (hi : q_ins code pc = some (.irem, a, b)) (hu : 0 ≤ u ∧ u < 2147483648) (hv : 0 < v ∧ v < 2147483648) (h : zt_Ex X d y (pc + 1) lv (.int (Int32.ofInt (u % v)) :: st) M o) : zt_Ex X d y pc lv (.int (Int32.ofInt v) :: .int (Int32.ofInt u) :: st) M o := zt_c hy hi rfl (fun _ => (if_neg (zt_nz hv)).trans (by rw [zt_dv hu hv, ← Int32.ofInt_mul, ← Int32.ofInt_sub, show u - u / v * v = u % v by rw [Int.mul_comm, Int.emod_def]])) h
theorem zt_iand {u v : Int} (hy : (q_row y).2.2 = (nL, rt, hh, kd, ow, code)) (hi : q_ins code pc = some (.iand, a, b))  (h : zt_Ex X d y (pc + 1) lv (.int (Int32.ofInt (zt_and u v)) :: st) M o) : zt_Ex X d y pc lv (.int (Int32.ofInt v) :: .int (Int32.ofInt u) :: st) M o := zt_c hy hi rfl (fun _ => rfl) (by unfold zt_and at h; rw [Int32.ofInt_toInt] at h; exact h)
theorem zt_ior {u v : Int} (hy : (q_row y).2.2 = (nL, rt, hh, kd, ow, code)) (hi : q_ins code pc = some (.ior, a, b))  (h : zt_Ex X d y (pc + 1) lv (.int (Int32.ofInt (zt_or u v)) :: st) M o) : zt_Ex X d y pc lv (.int (Int32.ofInt v) :: .int (Int32.ofInt u) :: st) M o := zt_c hy hi rfl (fun _ => rfl) (by unfold zt_or at h; rw [Int32.ofInt_toInt] at h; exact h)
theorem zt_ixor {u v : Int} (hy : (q_row y).2.2 = (nL, rt, hh, kd, ow, code)) (hi : q_ins code pc = some (.ixor, a, b))  (h : zt_Ex X d y (pc + 1) lv (.int (Int32.ofInt (zt_xor u v)) :: st) M o) : zt_Ex X d y pc lv (.int (Int32.ofInt v) :: .int (Int32.ofInt u) :: st) M o := zt_c hy hi rfl (fun _ => rfl) (by unfold zt_xor at h; rw [Int32.ofInt_toInt] at h; exact h)
theorem zt_ishl {u v : Int} (hy : (q_row y).2.2 = (nL, rt, hh, kd, ow, code)) (hi : q_ins code pc = some (.ishl, a, b))  (h : zt_Ex X d y (pc + 1) lv (.int (Int32.ofInt (zt_shl u v)) :: st) M o) : zt_Ex X d y pc lv (.int (Int32.ofInt v) :: .int (Int32.ofInt u) :: st) M o := zt_c hy hi rfl (fun _ => rfl) (by unfold zt_shl at h; rw [Int32.ofInt_toInt] at h; exact h)
theorem zt_ishr {u v : Int} (hy : (q_row y).2.2 = (nL, rt, hh, kd, ow, code)) (hi : q_ins code pc = some (.ishr, a, b))  (h : zt_Ex X d y (pc + 1) lv (.int (Int32.ofInt (zt_shr u v)) :: st) M o) : zt_Ex X d y pc lv (.int (Int32.ofInt v) :: .int (Int32.ofInt u) :: st) M o := zt_c hy hi rfl (fun _ => rfl) (by unfold zt_shr at h; rw [Int32.ofInt_toInt] at h; exact h)
theorem zt_ineg {v : Int} (hy : (q_row y).2.2 = (nL, rt, hh, kd, ow, code)) (hi : q_ins code pc = some (.ineg, a, b))  (h : zt_Ex X d y (pc + 1) lv (.int (Int32.ofInt (-v)) :: st) M o) : zt_Ex X d y pc lv (.int (Int32.ofInt v) :: st) M o := zt_c hy hi rfl (fun _ => rfl) (by rw [← Int32.ofInt_neg]; exact h)
theorem zt_ladd {u v : Int64} (hy : (q_row y).2.2 = (nL, rt, hh, kd, ow, code)) (hi : q_ins code pc = some (.ladd, a, b))  (h : zt_Ex X d y (pc + 1) lv (.long (u + v) :: st) M o) : zt_Ex X d y pc lv (.long v :: .long u :: st) M o := zt_c hy hi rfl (fun _ => rfl) h
theorem zt_lsub {u v : Int64} (hy : (q_row y).2.2 = (nL, rt, hh, kd, ow, code)) (hi : q_ins code pc = some (.lsub, a, b))  (h : zt_Ex X d y (pc + 1) lv (.long (u - v) :: st) M o) : zt_Ex X d y pc lv (.long v :: .long u :: st) M o := zt_c hy hi rfl (fun _ => rfl) h
theorem zt_lmul {u v : Int64} (hy : (q_row y).2.2 = (nL, rt, hh, kd, ow, code)) (hi : q_ins code pc = some (.lmul, a, b))  (h : zt_Ex X d y (pc + 1) lv (.long (u * v) :: st) M o) : zt_Ex X d y pc lv (.long v :: .long u :: st) M o := zt_c hy hi rfl (fun _ => rfl) h
theorem zt_land {u v : Int64} (hy : (q_row y).2.2 = (nL, rt, hh, kd, ow, code)) (hi : q_ins code pc = some (.land, a, b))  (h : zt_Ex X d y (pc + 1) lv (.long (u &&& v) :: st) M o) : zt_Ex X d y pc lv (.long v :: .long u :: st) M o := zt_c hy hi rfl (fun _ => rfl) h
theorem zt_lor {u v : Int64} (hy : (q_row y).2.2 = (nL, rt, hh, kd, ow, code)) (hi : q_ins code pc = some (.lor, a, b))  (h : zt_Ex X d y (pc + 1) lv (.long (u ||| v) :: st) M o) : zt_Ex X d y pc lv (.long v :: .long u :: st) M o := zt_c hy hi rfl (fun _ => rfl) h
theorem zt_lxor {u v : Int64} (hy : (q_row y).2.2 = (nL, rt, hh, kd, ow, code)) (hi : q_ins code pc = some (.lxor, a, b))  (h : zt_Ex X d y (pc + 1) lv (.long (u ^^^ v) :: st) M o) : zt_Ex X d y pc lv (.long v :: .long u :: st) M o := zt_c hy hi rfl (fun _ => rfl) h
theorem zt_lshl {u : Int64} {v : Int} (hy : (q_row y).2.2 = (nL, rt, hh, kd, ow, code)) (hi : q_ins code pc = some (.lshl, a, b))  (h : zt_Ex X d y (pc + 1) lv (.long (zt_ls u v) :: st) M o) : zt_Ex X d y pc lv (.int (Int32.ofInt v) :: .long u :: st) M o := zt_c hy hi rfl (fun _ => rfl) h
theorem zt_lshr {u : Int64} {v : Int} (hy : (q_row y).2.2 = (nL, rt, hh, kd, ow, code)) (hi : q_ins code pc = some (.lshr, a, b))  (h : zt_Ex X d y (pc + 1) lv (.long (zt_rs u v) :: st) M o) : zt_Ex X d y pc lv (.int (Int32.ofInt v) :: .long u :: st) M o := zt_c hy hi rfl (fun _ => rfl) h
theorem zt_lushr {u : Int64} {v : Int} (hy : (q_row y).2.2 = (nL, rt, hh, kd, ow, code)) (hi : q_ins code pc = some (.lushr, a, b))  (h : zt_Ex X d y (pc + 1) lv (.long (zt_us u v) :: st) M o) : zt_Ex X d y pc lv (.int (Int32.ofInt v) :: .long u :: st) M o := zt_c hy hi rfl (fun _ => rfl) h
theorem zt_i2l {v : Int} (hy : (q_row y).2.2 = (nL, rt, hh, kd, ow, code)) (hi : q_ins code pc = some (.i2l, a, b))  (h : zt_Ex X d y (pc + 1) lv (.long (zt_l v) :: st) M o) : zt_Ex X d y pc lv (.int (Int32.ofInt v) :: st) M o := zt_c hy hi rfl (fun _ => rfl) h
theorem zt_l2i {v : Int64} (hy : (q_row y).2.2 = (nL, rt, hh, kd, ow, code)) (hi : q_ins code pc = some (.l2i, a, b))  (h : zt_Ex X d y (pc + 1) lv (.int (Int32.ofInt (zt_i v)) :: st) M o) : zt_Ex X d y pc lv (.long v :: st) M o := zt_c hy hi rfl (fun _ => rfl) (by unfold zt_i at h; rw [Int32.ofInt_toInt] at h; exact h)
theorem zt_i2b {v : Int} (hy : (q_row y).2.2 = (nL, rt, hh, kd, ow, code)) (hi : q_ins code pc = some (.i2b, a, b))  (h : zt_Ex X d y (pc + 1) lv (.int (Int32.ofInt (zt_b v)) :: st) M o) : zt_Ex X d y pc lv (.int (Int32.ofInt v) :: st) M o := zt_c hy hi rfl (fun _ => rfl) (by unfold zt_b at h; rw [Int32.ofInt_toInt] at h; exact h)
theorem zt_i2f {v : Int} (hy : (q_row y).2.2 = (nL, rt, hh, kd, ow, code)) (hi : q_ins code pc = some (.i2f, a, b))  (h : zt_Ex X d y (pc + 1) lv (.float (zt_if v) :: st) M o) : zt_Ex X d y pc lv (.int (Int32.ofInt v) :: st) M o := zt_c hy hi rfl (fun _ => rfl) h
theorem zt_i2d {v : Int} (hy : (q_row y).2.2 = (nL, rt, hh, kd, ow, code)) (hi : q_ins code pc = some (.i2d, a, b))  (h : zt_Ex X d y (pc + 1) lv (.double (zt_id v) :: st) M o) : zt_Ex X d y pc lv (.int (Int32.ofInt v) :: st) M o := zt_c hy hi rfl (fun _ => rfl) h
theorem zt_f2d {v : UInt32} (hy : (q_row y).2.2 = (nL, rt, hh, kd, ow, code)) (hi : q_ins code pc = some (.f2d, a, b)) (hg : FP.f2d v &&& 0x7fffffffffffffff ≤ 0x7ff0000000000000) (h : zt_Ex X d y (pc + 1) lv (.double (FP.f2d v) :: st) M o) : zt_Ex X d y pc lv (.float v :: st) M o := zt_c hy hi rfl (fun _ => if_pos hg) h
theorem zt_fdiv {u v : UInt32} (hy : (q_row y).2.2 = (nL, rt, hh, kd, ow, code)) (hi : q_ins code pc = some (.fdiv, a, b)) (hg : FP.fdiv u v &&& 0x7fffffff ≤ 0x7f800000) (h : zt_Ex X d y (pc + 1) lv (.float (FP.fdiv u v) :: st) M o) : zt_Ex X d y pc lv (.float v :: .float u :: st) M o := zt_c hy hi rfl (fun _ => if_pos hg) h
theorem zt_ddiv {u v : UInt64} (hy : (q_row y).2.2 = (nL, rt, hh, kd, ow, code)) (hi : q_ins code pc = some (.ddiv, a, b)) (hg : FP.ddiv u v &&& 0x7fffffffffffffff ≤ 0x7ff0000000000000) (h : zt_Ex X d y (pc + 1) lv (.double (FP.ddiv u v) :: st) M o) : zt_Ex X d y pc lv (.double v :: .double u :: st) M o := zt_c hy hi rfl (fun _ => if_pos hg) h
theorem zt_lcmp {u v : Int64} (hy : (q_row y).2.2 = (nL, rt, hh, kd, ow, code)) (hi : q_ins code pc = some (.lcmp, a, b))  (h : zt_Ex X d y (pc + 1) lv (.int (Int32.ofInt (zt_lc u v)) :: st) M o) : zt_Ex X d y pc lv (.long v :: .long u :: st) M o := zt_c hy hi rfl (fun _ => rfl) (by unfold zt_lc at h; rw [Int32.ofInt_toInt] at h; exact h)
theorem zt_fcmp {u v : UInt32} {op : Jvm.ClassFile.CmpOp} (hy : (q_row y).2.2 = (nL, rt, hh, kd, ow, code)) (hi : q_ins code pc = some (.fcmp op, a, b))  (h : zt_Ex X d y (pc + 1) lv (.int (Int32.ofInt (zt_fc u v op)) :: st) M o) : zt_Ex X d y pc lv (.float v :: .float u :: st) M o := zt_c hy hi rfl (fun _ => rfl) (by unfold zt_fc at h; rw [Int32.ofInt_toInt] at h; exact h)
theorem zt_dcmp {u v : UInt64} {op : Jvm.ClassFile.CmpOp} (hy : (q_row y).2.2 = (nL, rt, hh, kd, ow, code)) (hi : q_ins code pc = some (.dcmp op, a, b))  (h : zt_Ex X d y (pc + 1) lv (.int (Int32.ofInt (zt_dc u v op)) :: st) M o) : zt_Ex X d y pc lv (.double v :: .double u :: st) M o := zt_c hy hi rfl (fun _ => rfl) (by unfold zt_dc at h; rw [Int32.ofInt_toInt] at h; exact h)
theorem zt_dup {v : Value} (hy : (q_row y).2.2 = (nL, rt, hh, kd, ow, code)) (hi : q_ins code pc = some (.dup, a, b)) (hv : v.category = 1) (h : zt_Ex X d y (pc + 1) lv (v :: v :: st) M o) : zt_Ex X d y pc lv (v :: st) M o := zt_c hy hi rfl (fun _ => if_pos hv) h
theorem zt_dup2 {v w : Value} (hy : (q_row y).2.2 = (nL, rt, hh, kd, ow, code)) (hi : q_ins code pc = some (.dup2, a, b)) (hv : v.category = 1 ∧ w.category = 1) (h : zt_Ex X d y (pc + 1) lv (v :: w :: v :: w :: st) M o) : zt_Ex X d y pc lv (v :: w :: st) M o := zt_c hy hi rfl (fun _ => if_pos hv) h
theorem zt_pop {v : Value} (hy : (q_row y).2.2 = (nL, rt, hh, kd, ow, code)) (hi : q_ins code pc = some (.pop, a, b)) (hv : v.category = 1) (h : zt_Ex X d y (pc + 1) lv st M o) : zt_Ex X d y pc lv (v :: st) M o := zt_c hy hi rfl (fun _ => if_pos hv) h
theorem zt_goto {off : Int} (hy : (q_row y).2.2 = (nL, rt, hh, kd, ow, code)) (hi : q_ins code pc = some (.goto off, a, b))  (h : zt_Ex X d y a lv st M o) : zt_Ex X d y pc lv st M o := zt_c hy hi rfl (fun _ => rfl) h
theorem zt_if1 {c : Jvm.ClassFile.Cond} {off v : Int} {P : Prop} [Decidable P] (hy : (q_row y).2.2 = (nL, rt, hh, kd, ow, code)) (hi : q_ins code pc = some (.ifCond c off, a, b)) (hq : q_c c (Int32.ofInt v) 0 = decide P) (h1 : P → zt_Ex X d y a lv st M o) (h2 : ¬ P → zt_Ex X d y (pc + 3) lv st M o) : zt_Ex X d y pc lv (.int (Int32.ofInt v) :: st) M o := by
  by_cases hP : P
  · exact zt_c (pc' := a) (st' := st) hy hi rfl (fun lv' => by show some (if q_c c (Int32.ofInt v) 0 = true then a else pc + 3, lv', st) = _; rw [hq, if_pos (decide_eq_true hP)]) (h1 hP)
  · exact zt_c (pc' := pc + 3) (st' := st) hy hi rfl (fun lv' => by show some (if q_c c (Int32.ofInt v) 0 = true then a else pc + 3, lv', st) = _; rw [hq, if_neg (by simpa using hP)]) (h2 hP)
theorem zt_ic1 {c : Jvm.ClassFile.Cond} {off u v : Int} {P : Prop} [Decidable P] (hy : (q_row y).2.2 = (nL, rt, hh, kd, ow, code)) (hi : q_ins code pc = some (.if_icmp c off, a, b)) (hq : q_c c (Int32.ofInt u) (Int32.ofInt v) = decide P) (h1 : P → zt_Ex X d y a lv st M o) (h2 : ¬ P → zt_Ex X d y (pc + 3) lv st M o) : zt_Ex X d y pc lv (.int (Int32.ofInt v) :: .int (Int32.ofInt u) :: st) M o := by
  by_cases hP : P
  · exact zt_c (pc' := a) (st' := st) hy hi rfl (fun lv' => by show some (if q_c c (Int32.ofInt u) (Int32.ofInt v) = true then a else pc + 3, lv', st) = _; rw [hq, if_pos (decide_eq_true hP)]) (h1 hP)
  · exact zt_c (pc' := pc + 3) (st' := st) hy hi rfl (fun lv' => by show some (if q_c c (Int32.ofInt u) (Int32.ofInt v) = true then a else pc + 3, lv', st) = _; rw [hq, if_neg (by simpa using hP)]) (h2 hP)
theorem zt_qeq {u v : Int} (hu : zt_in u) (hv : zt_in v) : q_c .eq (Int32.ofInt u) (Int32.ofInt v) = decide (u = v) := decide_eq_decide.mpr (zt_ceq hu hv)
theorem zt_qne {u v : Int} (hu : zt_in u) (hv : zt_in v) : q_c .ne (Int32.ofInt u) (Int32.ofInt v) = decide (¬ u = v) := decide_eq_decide.mpr (not_congr (zt_ceq hu hv))
theorem zt_qlt {u v : Int} (hu : zt_in u) (hv : zt_in v) : q_c .lt (Int32.ofInt u) (Int32.ofInt v) = decide (u < v) := decide_eq_decide.mpr (zt_clt hu hv)
theorem zt_qge {u v : Int} (hu : zt_in u) (hv : zt_in v) : q_c .ge (Int32.ofInt u) (Int32.ofInt v) = decide (¬ u < v) := decide_eq_decide.mpr ((zt_cle hv hu).trans Int.not_lt.symm)
theorem zt_qgt {u v : Int} (hu : zt_in u) (hv : zt_in v) : q_c .gt (Int32.ofInt u) (Int32.ofInt v) = decide (v < u) := decide_eq_decide.mpr (zt_clt hv hu)
theorem zt_qle {u v : Int} (hu : zt_in u) (hv : zt_in v) : q_c .le (Int32.ofInt u) (Int32.ofInt v) = decide (¬ v < u) := decide_eq_decide.mpr ((zt_cle hu hv).trans Int.not_lt.symm)
theorem zt_icmp_eq {off u v : Int} (hy : (q_row y).2.2 = (nL, rt, hh, kd, ow, code)) (hi : q_ins code pc = some (.if_icmp .eq off, a, b)) (hg : zt_in u ∧ zt_in v) (h1 : u = v → zt_Ex X d y a lv st M o) (h2 : ¬ (u = v) → zt_Ex X d y (pc + 3) lv st M o) : zt_Ex X d y pc lv (.int (Int32.ofInt v) :: .int (Int32.ofInt u) :: st) M o := zt_ic1 hy hi (zt_qeq hg.1 hg.2) (fun h => h1 h) (fun h => h2 h)
theorem zt_if_eq {off u : Int} (hy : (q_row y).2.2 = (nL, rt, hh, kd, ow, code)) (hi : q_ins code pc = some (.ifCond .eq off, a, b)) (hg : zt_in u) (h1 : u = 0 → zt_Ex X d y a lv st M o) (h2 : ¬ (u = 0) → zt_Ex X d y (pc + 3) lv st M o) : zt_Ex X d y pc lv (.int (Int32.ofInt u) :: st) M o := zt_if1 hy hi (zt_qeq hg zt_in0) (fun h => h1 h) (fun h => h2 h)
theorem zt_icmp_ne {off u v : Int} (hy : (q_row y).2.2 = (nL, rt, hh, kd, ow, code)) (hi : q_ins code pc = some (.if_icmp .ne off, a, b)) (hg : zt_in u ∧ zt_in v) (h1 : u = v → zt_Ex X d y (pc + 3) lv st M o) (h2 : ¬ (u = v) → zt_Ex X d y a lv st M o) : zt_Ex X d y pc lv (.int (Int32.ofInt v) :: .int (Int32.ofInt u) :: st) M o := zt_ic1 hy hi (zt_qne hg.1 hg.2) (fun h => h2 h) (fun h => h1 (Decidable.not_not.mp h))
theorem zt_if_ne {off u : Int} (hy : (q_row y).2.2 = (nL, rt, hh, kd, ow, code)) (hi : q_ins code pc = some (.ifCond .ne off, a, b)) (hg : zt_in u) (h1 : u = 0 → zt_Ex X d y (pc + 3) lv st M o) (h2 : ¬ (u = 0) → zt_Ex X d y a lv st M o) : zt_Ex X d y pc lv (.int (Int32.ofInt u) :: st) M o := zt_if1 hy hi (zt_qne hg zt_in0) (fun h => h2 h) (fun h => h1 (Decidable.not_not.mp h))
theorem zt_icmp_lt {off u v : Int} (hy : (q_row y).2.2 = (nL, rt, hh, kd, ow, code)) (hi : q_ins code pc = some (.if_icmp .lt off, a, b)) (hg : zt_in u ∧ zt_in v) (h1 : u < v → zt_Ex X d y a lv st M o) (h2 : ¬ (u < v) → zt_Ex X d y (pc + 3) lv st M o) : zt_Ex X d y pc lv (.int (Int32.ofInt v) :: .int (Int32.ofInt u) :: st) M o := zt_ic1 hy hi (zt_qlt hg.1 hg.2) (fun h => h1 h) (fun h => h2 h)
theorem zt_if_lt {off u : Int} (hy : (q_row y).2.2 = (nL, rt, hh, kd, ow, code)) (hi : q_ins code pc = some (.ifCond .lt off, a, b)) (hg : zt_in u) (h1 : u < 0 → zt_Ex X d y a lv st M o) (h2 : ¬ (u < 0) → zt_Ex X d y (pc + 3) lv st M o) : zt_Ex X d y pc lv (.int (Int32.ofInt u) :: st) M o := zt_if1 hy hi (zt_qlt hg zt_in0) (fun h => h1 h) (fun h => h2 h)
theorem zt_icmp_ge {off u v : Int} (hy : (q_row y).2.2 = (nL, rt, hh, kd, ow, code)) (hi : q_ins code pc = some (.if_icmp .ge off, a, b)) (hg : zt_in u ∧ zt_in v) (h1 : u < v → zt_Ex X d y (pc + 3) lv st M o) (h2 : ¬ (u < v) → zt_Ex X d y a lv st M o) : zt_Ex X d y pc lv (.int (Int32.ofInt v) :: .int (Int32.ofInt u) :: st) M o := zt_ic1 hy hi (zt_qge hg.1 hg.2) (fun h => h2 h) (fun h => h1 (Decidable.not_not.mp h))
theorem zt_if_ge {off u : Int} (hy : (q_row y).2.2 = (nL, rt, hh, kd, ow, code)) (hi : q_ins code pc = some (.ifCond .ge off, a, b)) (hg : zt_in u) (h1 : u < 0 → zt_Ex X d y (pc + 3) lv st M o) (h2 : ¬ (u < 0) → zt_Ex X d y a lv st M o) : zt_Ex X d y pc lv (.int (Int32.ofInt u) :: st) M o := zt_if1 hy hi (zt_qge hg zt_in0) (fun h => h2 h) (fun h => h1 (Decidable.not_not.mp h))
theorem zt_icmp_gt {off u v : Int} (hy : (q_row y).2.2 = (nL, rt, hh, kd, ow, code)) (hi : q_ins code pc = some (.if_icmp .gt off, a, b)) (hg : zt_in u ∧ zt_in v) (h1 : v < u → zt_Ex X d y a lv st M o) (h2 : ¬ (v < u) → zt_Ex X d y (pc + 3) lv st M o) : zt_Ex X d y pc lv (.int (Int32.ofInt v) :: .int (Int32.ofInt u) :: st) M o := zt_ic1 hy hi (zt_qgt hg.1 hg.2) (fun h => h1 h) (fun h => h2 h)
theorem zt_if_gt {off u : Int} (hy : (q_row y).2.2 = (nL, rt, hh, kd, ow, code)) (hi : q_ins code pc = some (.ifCond .gt off, a, b)) (hg : zt_in u) (h1 : 0 < u → zt_Ex X d y a lv st M o) (h2 : ¬ (0 < u) → zt_Ex X d y (pc + 3) lv st M o) : zt_Ex X d y pc lv (.int (Int32.ofInt u) :: st) M o := zt_if1 hy hi (zt_qgt hg zt_in0) (fun h => h1 h) (fun h => h2 h)
theorem zt_icmp_le {off u v : Int} (hy : (q_row y).2.2 = (nL, rt, hh, kd, ow, code)) (hi : q_ins code pc = some (.if_icmp .le off, a, b)) (hg : zt_in u ∧ zt_in v) (h1 : v < u → zt_Ex X d y (pc + 3) lv st M o) (h2 : ¬ (v < u) → zt_Ex X d y a lv st M o) : zt_Ex X d y pc lv (.int (Int32.ofInt v) :: .int (Int32.ofInt u) :: st) M o := zt_ic1 hy hi (zt_qle hg.1 hg.2) (fun h => h2 h) (fun h => h1 (Decidable.not_not.mp h))
theorem zt_if_le {off u : Int} (hy : (q_row y).2.2 = (nL, rt, hh, kd, ow, code)) (hi : q_ins code pc = some (.ifCond .le off, a, b)) (hg : zt_in u) (h1 : 0 < u → zt_Ex X d y (pc + 3) lv st M o) (h2 : ¬ (0 < u) → zt_Ex X d y a lv st M o) : zt_Ex X d y pc lv (.int (Int32.ofInt u) :: st) M o := zt_if1 hy hi (zt_qle hg zt_in0) (fun h => h2 h) (fun h => h1 (Decidable.not_not.mp h))
theorem zt_ifnull_r {off : Int} {c : Nat} (hy : (q_row y).2.2 = (nL, rt, hh, kd, ow, code)) (hi : q_ins code pc = some (.ifnull off, a, b)) (h : zt_Ex X d y (pc + 3) lv st M o) : zt_Ex X d y pc lv (.ref c :: st) M o := zt_c hy hi rfl (fun _ => rfl) h
theorem zt_ifnonnull_r {off : Int} {c : Nat} (hy : (q_row y).2.2 = (nL, rt, hh, kd, ow, code)) (hi : q_ins code pc = some (.ifnonnull off, a, b)) (h : zt_Ex X d y a lv st M o) : zt_Ex X d y pc lv (.ref c :: st) M o := zt_c hy hi rfl (fun _ => rfl) h
theorem zt_sw {dflt lo hi' x k : Int} {offs : Array Int} {t : Nat} (hy : (q_row y).2.2 = (nL, rt, hh, kd, ow, code)) (hi : q_ins code pc = some (.tableswitch dflt lo hi' offs, a, b)) (hx : x = k) (ht : q_sw pc dflt lo hi' offs (Int32.ofInt k) = some t) (h : zt_Ex X d y t lv st M o) : zt_Ex X d y pc lv (.int (Int32.ofInt x) :: st) M o :=
  zt_c (pc' := t) (st' := st) hy hi rfl (fun lv' => by show (q_sw pc dflt lo hi' offs (Int32.ofInt x)).map (fun t => (t, lv', st)) = _; rw [hx, ht]; rfl) h
theorem zt_sw0 {dflt lo hi' x : Int} {offs : Array Int} {t : Nat} (hy : (q_row y).2.2 = (nL, rt, hh, kd, ow, code)) (hi : q_ins code pc = some (.tableswitch dflt lo hi' offs, a, b)) (hg : zt_in x) (hx : x < lo ∨ hi' < x) (ht : (pc : Int) + dflt = (t : Int)) (h : zt_Ex X d y t lv st M o) : zt_Ex X d y pc lv (.int (Int32.ofInt x) :: st) M o :=
  zt_c (pc' := t) (st' := st) hy hi rfl (fun lv' => by
    show (q_sw pc dflt lo hi' offs (Int32.ofInt x)).map (fun t => (t, lv', st)) = _
    unfold q_sw
    rw [zt_ti hg, if_pos hx, ht, if_pos (Int.natCast_nonneg t)]
    rfl) h
/-! fields and rows -/
def zt_fk (c a b : Nat) : Option Nat := match zt_sh[c]? with
  | some (.inr (ci, ks)) => if ci = a ∧ b < q_N a then ks[b]? else none
  | _ => none
theorem zt_fkE {c a b k : Nat} (h : zt_fk c a b = some k) : ∃ ks, zt_sh[c]? = some (.inr (a, ks)) ∧ b < q_N a ∧ ks[b]? = some k := by
  unfold zt_fk at h
  split at h
  · rename_i ci ks hc
    split at h
    · rename_i h1
      obtain ⟨rfl, h2⟩ := h1
      exact ⟨ks, hc, h2, h⟩
    · cases h
  · cases h
theorem zt_Ma (σ : zt_S) : (zt_M T σ).1 = zt_H T σ := by dsimp only [zt_M]
theorem zt_Mb (σ σ' : zt_S) (h : σ'.2.2.2 = σ.2.2.2) : (zt_H T σ', (zt_M T σ).2) = zt_M T σ' := by
  unfold zt_M
  rw [h]
theorem zt_ceI (σ : zt_S) (c : Nat) {t n : Nat} (ht : t = 0 ∨ t = 2 ∨ t = 3) : zt_ce σ c (.inl (t, n)) = .inl (t, n, .inl (fun j => Int32.ofInt (σ.1 c (j : Int)))) := by
  dsimp only [zt_ce]
  rw [if_neg (show ¬ t = 1 by omega), if_neg (show ¬ t = 4 by omega), if_neg (show ¬ (t = 5 ∨ t = 6) by omega)]
theorem zt_ceL (σ : zt_S) (c n : Nat) : zt_ce σ c (.inl (1, n)) = .inl (1, n, .inr (.inl (fun j => σ.2.1 c (j : Int)))) := by
  dsimp only [zt_ce]
  rw [if_pos rfl]
theorem zt_ceD (σ : zt_S) (c n : Nat) : zt_ce σ c (.inl (4, n)) = .inl (4, n, .inr (.inr (.inr (.inl (fun j => σ.2.2.1 (j : Int)))))) := by
  dsimp only [zt_ce]
  rw [if_neg (show ¬ (4 : Nat) = 1 by decide), if_pos rfl]
theorem zt_ceR (σ : zt_S) (c : Nat) {t n : Nat} (ht : t = 5 ∨ t = 6) : zt_ce σ c (.inl (t, n)) = .inl (t, n, .inr (.inr (.inr (.inr (zt_g c))))) := by
  dsimp only [zt_ce]
  rw [if_neg (show ¬ t = 1 by omega), if_neg (show ¬ t = 4 by omega), if_pos ht]
theorem zt_ceF (σ : zt_S) (c ci : Nat) (ks : List Nat) : zt_ce σ c (.inr (ci, ks)) = .inr (ci, ks.mapIdx (fun j k => zt_cv σ c j k)) := rfl
section ZTQ
variable {H : List va_E} {c : Nat} {j x : Int32} {n : Nat} {f : Nat → Int32} {fl : Nat → Int64} {fd : Nat → UInt64} {fr : Nat → Option Nat} {fs : List Value} {ini : Bool}
theorem zt_qget {idx : Nat} {v : Value} (h : q_at H c = some (.inr (a, fs))) (hb : b < q_N a) (hv : fs[b]? = some v) : q_p2 X H (.getfield idx) a b pc (.ref c :: st) = some (pc + 3, v :: st) := by
  show (match q_at H c with | some (.inr (ci, fs)) => if ci = a ∧ b < q_N a then (match fs[b]? with | some v => some (pc + 3, v :: st) | none => none) else none | _ => none) = _
  rw [h]
  refine (if_pos ⟨rfl, hb⟩).trans ?_
  rw [hv]
theorem zt_qput {idx : Nat} {v : Value} (h : q_at H c = some (.inr (a, fs))) (hb : b < q_N a) (hl : b < fs.length) (h1 : narrow (q_y a b) v = v) (h2 : fits (q_y a b) v = true) (h3 : q_fin ow ini a b = true) : q_p3 ow ini H (.putfield idx) a b pc (v :: .ref c :: st) = some (pc + 3, st, H.set c (.inr (a, fs.set b v))) := by
  show (match q_at H c with | some (.inr (ci, fs)) => if ci = a ∧ b < q_N a ∧ b < fs.length ∧ narrow (q_y a b) v = v ∧ fits (q_y a b) v = true ∧ q_fin ow ini a b = true then some (pc + 3, st, H.set c (.inr (ci, fs.set b v))) else none | _ => none) = _
  rw [h]
  exact if_pos ⟨rfl, hb, hl, h1, h2, h3⟩
theorem zt_qild (h : q_at H c = some (.inl (0, n, .inl f))) (hc : ¬ c = q_big) (hj : ¬ (j < 0 ∨ n ≤ j.toNatClampNeg)) : q_p2 X H .iaload a b pc (.int j :: .ref c :: st) = some (pc + 1, .int (f j.toNatClampNeg) :: st) := by
  refine (if_neg hc).trans ?_
  rw [h]
  exact if_pos ⟨rfl, hj⟩
theorem zt_qbld {t : Nat} (h : q_at H c = some (.inl (t, n, .inl f))) (ht : t = 2) (hj : ¬ (j < 0 ∨ n ≤ j.toNatClampNeg)) : q_p2 X H .baload a b pc (.int j :: .ref c :: st) = some (pc + 1, .int (f j.toNatClampNeg) :: st) := by
  show (match q_at H c with | some (.inl (t, n, .inl f)) => if t = 2 ∧ ¬ (j < 0 ∨ n ≤ j.toNatClampNeg) then some (pc + 1, Value.int (f j.toNatClampNeg) :: st) else none | _ => none) = _
  rw [h]
  exact if_pos ⟨ht, hj⟩
theorem zt_qlld (h : q_at H c = some (.inl (1, n, .inr (.inl fl)))) (hj : ¬ (j < 0 ∨ n ≤ j.toNatClampNeg)) : q_p2 X H .laload a b pc (.int j :: .ref c :: st) = some (pc + 1, .long (fl j.toNatClampNeg) :: st) := by
  show (match q_at H c with | some (.inl (t, n, .inr (.inl f))) => if t = 1 ∧ ¬ (j < 0 ∨ n ≤ j.toNatClampNeg) then some (pc + 1, Value.long (f j.toNatClampNeg) :: st) else none | _ => none) = _
  rw [h]
  exact if_pos ⟨rfl, hj⟩
theorem zt_qrld {t : Nat} (h : q_at H c = some (.inl (t, n, .inr (.inr (.inr (.inr fr)))))) (ht : t = 5 ∨ t = 6) (hj : ¬ (j < 0 ∨ n ≤ j.toNatClampNeg)) : q_p2 X H .aaload a b pc (.int j :: .ref c :: st) = some (pc + 1, va_rf (fr j.toNatClampNeg) :: st) := by
  show (match q_at H c with | some (.inl (t, n, .inr (.inr (.inr (.inr f))))) => if (t = 5 ∨ t = 6) ∧ ¬ (j < 0 ∨ n ≤ j.toNatClampNeg) then some (pc + 1, va_rf (f j.toNatClampNeg) :: st) else none | _ => none) = _
  rw [h]
  exact if_pos ⟨ht, hj⟩
theorem zt_qist (h : q_at H c = some (.inl (0, n, .inl f))) (hj : ¬ (j < 0 ∨ n ≤ j.toNatClampNeg)) : q_p3 ow ini H .iastore a b pc (.int x :: .int j :: .ref c :: st) = some (pc + 1, st, H.set c (.inl (0, n, .inl (upd f j.toNatClampNeg x)))) := by
  show (match q_at H c with | some (.inl (t, n, .inl f)) => if t = 0 ∧ ¬ (j < 0 ∨ n ≤ j.toNatClampNeg) then some (pc + 1, st, H.set c (.inl (t, n, .inl (upd f j.toNatClampNeg x)))) else none | _ => none) = _
  rw [h]
  exact if_pos ⟨rfl, hj⟩
theorem zt_qbst (h : q_at H c = some (.inl (2, n, .inl f))) (hj : ¬ (j < 0 ∨ n ≤ j.toNatClampNeg)) : q_p3 ow ini H .bastore a b pc (.int x :: .int j :: .ref c :: st) = some (pc + 1, st, H.set c (.inl (2, n, .inl (upd f j.toNatClampNeg (vp_nar .byte x))))) := by
  show (match q_at H c with | some (.inl (t, n, .inl f)) => if ¬ (j < 0 ∨ n ≤ j.toNatClampNeg) then (if t = 2 then some (pc + 1, st, H.set c (.inl (t, n, .inl (upd f j.toNatClampNeg (vp_nar .byte x))))) else none) else none | _ => none) = _
  rw [h]
  exact (if_pos hj).trans (if_pos rfl)
theorem zt_qlst {v : Int64} (h : q_at H c = some (.inl (1, n, .inr (.inl fl)))) (hj : ¬ (j < 0 ∨ n ≤ j.toNatClampNeg)) : q_p3 ow ini H .lastore a b pc (.long v :: .int j :: .ref c :: st) = some (pc + 1, st, H.set c (.inl (1, n, .inr (.inl (vp_updL fl j.toNatClampNeg v))))) := by
  show (match q_at H c with | some (.inl (t, n, .inr (.inl f))) => if t = 1 ∧ ¬ (j < 0 ∨ n ≤ j.toNatClampNeg) then some (pc + 1, st, H.set c (.inl (t, n, .inr (.inl (vp_updL f j.toNatClampNeg v))))) else none | _ => none) = _
  rw [h]
  exact if_pos ⟨rfl, hj⟩
theorem zt_qalen {t : Nat} {w : (Nat → Int32) ⊕ (Nat → Int64) ⊕ (Nat → UInt32) ⊕ (Nat → UInt64) ⊕ (Nat → Option Nat)} (h : q_at H c = some (.inl (t, n, w))) (hc : ¬ c = q_big) (ht : t < 7) : q_p2 X H .arraylength a b pc (.ref c :: st) = some (pc + 1, .int (Int32.ofNat n) :: st) := by
  refine (if_neg hc).trans ?_
  rw [h]
  exact if_pos ht
theorem zt_qsld (hc : c = q_big) (hj : ¬ (j < 0 ∨ X.1 ≤ j.toNatClampNeg)) : q_p2 X H .iaload a b pc (.int j :: .ref c :: st) = some (pc + 1, .int (X.2 j.toNatClampNeg) :: st) := (if_pos hc).trans (if_neg hj)
theorem zt_qslen (hc : c = q_big) : q_p2 X H .arraylength a b pc (.ref c :: st) = some (pc + 1, .int (Int32.ofNat X.1) :: st) := if_pos hc
theorem zt_qacI {s dd n0 n1 : Nat} {f g : Nat → Int32} {sp dp k : Int32} (h0 : ¬ (sp < 0 ∨ dp < 0 ∨ k < 0)) (h1 : q_at H s = some (.inl (0, n0, .inl f))) (h2 : q_at H dd = some (.inl (0, n1, .inl g))) (h3 : sp.toNatClampNeg + k.toNatClampNeg ≤ n0 ∧ dp.toNatClampNeg + k.toNatClampNeg ≤ n1) : q_jdk X H 913 (.int k :: .int dp :: .ref dd :: .int sp :: .ref s :: st) = some (st, H.set dd (.inl (0, n1, .inl (va_cpy f g sp.toNatClampNeg dp.toNatClampNeg k.toNatClampNeg)))) := by
  refine (if_neg h0).trans ?_
  rw [h1, h2]
  exact if_pos h3
theorem zt_qacL {s dd n0 n1 : Nat} {f g : Nat → Int64} {sp dp k : Int32} (h0 : ¬ (sp < 0 ∨ dp < 0 ∨ k < 0)) (h1 : q_at H s = some (.inl (1, n0, .inr (.inl f)))) (h2 : q_at H dd = some (.inl (1, n1, .inr (.inl g)))) (h3 : sp.toNatClampNeg + k.toNatClampNeg ≤ n0 ∧ dp.toNatClampNeg + k.toNatClampNeg ≤ n1) : q_jdk X H 913 (.int k :: .int dp :: .ref dd :: .int sp :: .ref s :: st) = some (st, H.set dd (.inl (1, n1, .inr (.inl (va_cpy f g sp.toNatClampNeg dp.toNatClampNeg k.toNatClampNeg))))) := by
  refine (if_neg h0).trans ?_
  rw [h1, h2]
  exact if_pos h3
end ZTQ
theorem zt_gt {n : Nat} {k : Nat} (hy : (q_row y).2.2 = (nL, rt, hh, kd, ow, code)) (hi : q_ins code pc = some (.getfield n, a, b)) {c : Nat} (hk : zt_fk c a b = some k) (h : zt_Ex X d y (pc + 3) lv (zt_cv σ c b k :: st) (zt_M T σ) o) : zt_Ex X d y pc lv (.ref c :: st) (zt_M T σ) o := by
  obtain ⟨ks, h1, h2, h3⟩ := zt_fkE hk
  refine zt_p2 (pc' := pc + 3) (st' := zt_cv σ c b k :: st) hy hi rfl (fun _ => rfl) rfl ?_ h
  have h4 := zt_at (T := T) (σ := σ) h1
  rw [zt_ceF] at h4
  exact zt_qget h4 h2 (by rw [List.getElem?_mapIdx, h3]; rfl)
theorem zt_getI {n : Nat} {j : Int} (hy : (q_row y).2.2 = (nL, rt, hh, kd, ow, code)) (hi : q_ins code pc = some (.getfield n, a, b)) {c : Nat} (hk : zt_fk c a b = some 0) (hb : (b : Int) = j) (h : zt_Ex X d y (pc + 3) lv (.int (Int32.ofInt (σ.1 c j)) :: st) (zt_M T σ) o) : zt_Ex X d y pc lv (.ref c :: st) (zt_M T σ) o := zt_gt hy hi hk (by subst hb; exact h)
theorem zt_getL {n : Nat} {j : Int} (hy : (q_row y).2.2 = (nL, rt, hh, kd, ow, code)) (hi : q_ins code pc = some (.getfield n, a, b)) {c : Nat} (hk : zt_fk c a b = some 1) (hb : (b : Int) = j) (h : zt_Ex X d y (pc + 3) lv (.long (σ.2.1 c j) :: st) (zt_M T σ) o) : zt_Ex X d y pc lv (.ref c :: st) (zt_M T σ) o := zt_gt hy hi hk (by subst hb; exact h)
theorem zt_getR {n : Nat} (hy : (q_row y).2.2 = (nL, rt, hh, kd, ow, code)) (hi : q_ins code pc = some (.getfield n, a, b)) {c r : Nat} (hk : zt_fk c a b = some (r + 2)) (h : zt_Ex X d y (pc + 3) lv (.ref r :: st) (zt_M T σ) o) : zt_Ex X d y pc lv (.ref c :: st) (zt_M T σ) o := zt_gt hy hi hk h
theorem zt_pt {σ' : zt_S} {n : Nat} {v : Value} (hy : (q_row y).2.2 = (nL, rt, hh, kd, ow, code)) (hi : q_ins code pc = some (.putfield n, a, b)) {c k : Nat} (hk : zt_fk c a b = some k) (hf : q_fin ow (kd == 2) a b = true) (hn : narrow (q_y a b) v = v) (ht : fits (q_y a b) v = true) (hm : ∀ ks, zt_sh[c]? = some (.inr (a, ks)) → ks[b]? = some k → (zt_H T σ).set c (.inr (a, (ks.mapIdx (fun j k => zt_cv σ c j k)).set b v)) = zt_H T σ') (h9 : σ'.2.2.2 = σ.2.2.2) (h : zt_Ex X d y (pc + 3) lv st (zt_M T σ') o) : zt_Ex X d y pc lv (v :: .ref c :: st) (zt_M T σ) o := by
  obtain ⟨ks, h1, h2, h3⟩ := zt_fkE hk
  refine zt_p3 (pc' := pc + 3) (st' := st) (M' := zt_H T σ') hy hi rfl (fun _ => rfl) rfl rfl ?_ (by rw [zt_Mb σ σ' h9]; exact h)
  have h4 := zt_at (T := T) (σ := σ) h1
  rw [zt_ceF] at h4
  rw [zt_qput h4 h2 (by rw [List.length_mapIdx]; exact (List.getElem?_eq_some_iff.mp h3).1) hn ht hf, zt_Ma, hm ks h1 h3]
theorem zt_putI {n : Nat} {j : Int} {v : Int} (hy : (q_row y).2.2 = (nL, rt, hh, kd, ow, code)) (hi : q_ins code pc = some (.putfield n, a, b)) {c : Nat} (hk : zt_fk c a b = some 0) (hf : q_fin ow (kd == 2) a b = true) (ht : q_y a b = .int) (hb : (b : Int) = j) (h : zt_Ex X d y (pc + 3) lv st (zt_M T (zt_up σ c j v)) o) : zt_Ex X d y pc lv (.int (Int32.ofInt v) :: .ref c :: st) (zt_M T σ) o :=
  zt_pt hy hi hk hf (by rw [ht]; rfl) (by rw [ht]; rfl) (fun ks g1 g2 => zt_sF g1 g2) rfl (by subst hb; exact h)
theorem zt_putZ {n : Nat} {j : Int} {v : Int} (hy : (q_row y).2.2 = (nL, rt, hh, kd, ow, code)) (hi : q_ins code pc = some (.putfield n, a, b)) {c : Nat} (hk : zt_fk c a b = some 0) (hf : q_fin ow (kd == 2) a b = true) (ht : q_y a b = .boolean) (hv : v = 0 ∨ v = 1) (hb : (b : Int) = j) (h : zt_Ex X d y (pc + 3) lv st (zt_M T (zt_up σ c j v)) o) : zt_Ex X d y pc lv (.int (Int32.ofInt v) :: .ref c :: st) (zt_M T σ) o :=
  zt_pt hy hi hk hf (by rw [ht]; rcases hv with rfl | rfl <;> rfl) (by rw [ht]; rcases hv with rfl | rfl <;> rfl) (fun ks g1 g2 => zt_sF g1 g2) rfl (by subst hb; exact h)
theorem zt_putL {n : Nat} {j : Int} {v : Int64} (hy : (q_row y).2.2 = (nL, rt, hh, kd, ow, code)) (hi : q_ins code pc = some (.putfield n, a, b)) {c : Nat} (hk : zt_fk c a b = some 1) (hf : q_fin ow (kd == 2) a b = true) (ht : q_y a b = .long) (hb : (b : Int) = j) (h : zt_Ex X d y (pc + 3) lv st (zt_M T (zt_uL σ c j v)) o) : zt_Ex X d y pc lv (.long v :: .ref c :: st) (zt_M T σ) o :=
  zt_pt hy hi hk hf (by rw [ht]; rfl) (by rw [ht]; rfl) (fun ks g1 g2 => zt_sG g1 g2) rfl (by subst hb; exact h)
theorem zt_big {c : Nat} {k : zt_K} (h : zt_sh[c]? = some k) : ¬ c = q_big := fun h1 => absurd (zt_lt h) (by rw [h1]; exact Nat.lt_irrefl _)
theorem zt_jj {j : Int} {n : Nat} (hj : 0 ≤ j ∧ j < (n : Int)) (hn : n ≤ 1000000) : (((Int32.ofInt j).toNatClampNeg : Nat) : Int) = j := by
  rw [zt_cl hj.1 (by omega), Int.toNat_of_nonneg hj.1]
theorem zt_ald {n c : Nat} {j : Int} (hy : (q_row y).2.2 = (nL, rt, hh, kd, ow, code)) (hi : q_ins code pc = some (.iaload, a, b)) (hs : zt_sh[c]? = some (.inl (0, n))) (hn : n ≤ 1000000) (hj : 0 ≤ j ∧ j < (n : Int)) (h : zt_Ex X d y (pc + 1) lv (.int (Int32.ofInt (σ.1 c j)) :: st) (zt_M T σ) o) : zt_Ex X d y pc lv (.int (Int32.ofInt j) :: .ref c :: st) (zt_M T σ) o := by
  refine zt_p2 (pc' := pc + 1) (st' := .int (Int32.ofInt (σ.1 c j)) :: st) hy hi rfl (fun _ => rfl) rfl ?_ h
  have h4 := zt_at (T := T) (σ := σ) hs
  rw [zt_ceI σ c (Or.inl rfl)] at h4
  rw [zt_qild h4 (zt_big hs) (zt_ix hj hn), zt_jj hj hn]
theorem zt_no3 {c t n : Nat} (h : zt_sh[c]? = some (.inl (t, n))) : ¬ t = 3 := by
  have h1 := zt_lt3 h
  have h2 : ∀ c : Nat, c < 163 → (match (zt_sh[c]? : Option zt_K) with | some (Sum.inl (t, _)) => decide (¬ t = 3) | _ => true) = true := by decide +kernel
  have h3 := h2 c h1
  rw [h] at h3
  exact of_decide_eq_true h3
theorem zt_bld {t n c : Nat} {j : Int} (hy : (q_row y).2.2 = (nL, rt, hh, kd, ow, code)) (hi : q_ins code pc = some (.baload, a, b)) (hs : zt_sh[c]? = some (.inl (t, n))) (ht : t = 2 ∨ t = 3) (hn : n ≤ 1000000) (hj : 0 ≤ j ∧ j < (n : Int)) (h : zt_Ex X d y (pc + 1) lv (.int (Int32.ofInt (σ.1 c j)) :: st) (zt_M T σ) o) : zt_Ex X d y pc lv (.int (Int32.ofInt j) :: .ref c :: st) (zt_M T σ) o := by
  refine zt_p2 (pc' := pc + 1) (st' := .int (Int32.ofInt (σ.1 c j)) :: st) hy hi rfl (fun _ => rfl) rfl ?_ h
  have h4 := zt_at (T := T) (σ := σ) hs
  rw [zt_ceI σ c (Or.inr ht)] at h4
  rcases ht with rfl | ht
  · rw [zt_qbld h4 rfl (zt_ix hj hn), zt_jj hj hn]
  · exact absurd ht (zt_no3 hs)
theorem zt_lld {n c : Nat} {j : Int} (hy : (q_row y).2.2 = (nL, rt, hh, kd, ow, code)) (hi : q_ins code pc = some (.laload, a, b)) (hs : zt_sh[c]? = some (.inl (1, n))) (hn : n ≤ 1000000) (hj : 0 ≤ j ∧ j < (n : Int)) (h : zt_Ex X d y (pc + 1) lv (.long (σ.2.1 c j) :: st) (zt_M T σ) o) : zt_Ex X d y pc lv (.int (Int32.ofInt j) :: .ref c :: st) (zt_M T σ) o := by
  refine zt_p2 (pc' := pc + 1) (st' := .long (σ.2.1 c j) :: st) hy hi rfl (fun _ => rfl) rfl ?_ h
  have h4 := zt_at (T := T) (σ := σ) hs
  rw [zt_ceL] at h4
  rw [zt_qlld h4 (zt_ix hj hn), zt_jj hj hn]
theorem zt_rld {t n c r : Nat} {j : Int} (hy : (q_row y).2.2 = (nL, rt, hh, kd, ow, code)) (hi : q_ins code pc = some (.aaload, a, b)) (hs : zt_sh[c]? = some (.inl (t, n))) (ht : t = 5 ∨ t = 6) (hn : n ≤ 1000000) (hj : 0 ≤ j ∧ j < (n : Int)) (hr : zt_g c j.toNat = some r) (h : zt_Ex X d y (pc + 1) lv (.ref r :: st) (zt_M T σ) o) : zt_Ex X d y pc lv (.int (Int32.ofInt j) :: .ref c :: st) (zt_M T σ) o := by
  refine zt_p2 (pc' := pc + 1) (st' := .ref r :: st) hy hi rfl (fun _ => rfl) rfl ?_ h
  have h4 := zt_at (T := T) (σ := σ) hs
  rw [zt_ceR σ c ht] at h4
  rw [zt_qrld h4 ht (zt_ix hj hn), zt_cl hj.1 (by omega), hr]
  rfl
theorem zt_ast {n c : Nat} {j v : Int} (hy : (q_row y).2.2 = (nL, rt, hh, kd, ow, code)) (hi : q_ins code pc = some (.iastore, a, b)) (hs : zt_sh[c]? = some (.inl (0, n))) (hn : n ≤ 1000000) (hj : 0 ≤ j ∧ j < (n : Int)) (h : zt_Ex X d y (pc + 1) lv st (zt_M T (zt_up σ c j v)) o) : zt_Ex X d y pc lv (.int (Int32.ofInt v) :: .int (Int32.ofInt j) :: .ref c :: st) (zt_M T σ) o := by
  refine zt_p3 (pc' := pc + 1) (st' := st) (M' := zt_H T (zt_up σ c j v)) hy hi rfl (fun _ => rfl) rfl rfl ?_ (by rw [zt_Mb σ (zt_up σ c j v) rfl]; exact h)
  have h4 := zt_at (T := T) (σ := σ) hs
  rw [zt_ceI σ c (Or.inl rfl)] at h4
  rw [zt_qist h4 (zt_ix hj hn), zt_cl hj.1 (by omega), zt_Ma, zt_sI hs (Or.inl rfl) hj.1]
theorem zt_bst {n c : Nat} {j v : Int} (hy : (q_row y).2.2 = (nL, rt, hh, kd, ow, code)) (hi : q_ins code pc = some (.bastore, a, b)) (hs : zt_sh[c]? = some (.inl (2, n))) (hn : n ≤ 1000000) (hj : 0 ≤ j ∧ j < (n : Int)) (h : zt_Ex X d y (pc + 1) lv st (zt_M T (zt_up σ c j (zt_b v))) o) : zt_Ex X d y pc lv (.int (Int32.ofInt v) :: .int (Int32.ofInt j) :: .ref c :: st) (zt_M T σ) o := by
  refine zt_p3 (pc' := pc + 1) (st' := st) (M' := zt_H T (zt_up σ c j (zt_b v))) hy hi rfl (fun _ => rfl) rfl rfl ?_ (by rw [zt_Mb σ (zt_up σ c j (zt_b v)) rfl]; exact h)
  have h4 := zt_at (T := T) (σ := σ) hs
  rw [zt_ceI σ c (Or.inr (Or.inl rfl))] at h4
  have e : vp_nar .byte (Int32.ofInt v) = Int32.ofInt (zt_b v) := by
    show (Int32.ofInt v).toInt8.toInt32 = _
    unfold zt_b
    rw [Int32.ofInt_toInt]
  rw [zt_qbst h4 (zt_ix hj hn), zt_cl hj.1 (by omega), zt_Ma, e, zt_sI hs (Or.inr (Or.inl rfl)) hj.1]
theorem zt_lst {n c : Nat} {j : Int} {v : Int64} (hy : (q_row y).2.2 = (nL, rt, hh, kd, ow, code)) (hi : q_ins code pc = some (.lastore, a, b)) (hs : zt_sh[c]? = some (.inl (1, n))) (hn : n ≤ 1000000) (hj : 0 ≤ j ∧ j < (n : Int)) (h : zt_Ex X d y (pc + 1) lv st (zt_M T (zt_uL σ c j v)) o) : zt_Ex X d y pc lv (.long v :: .int (Int32.ofInt j) :: .ref c :: st) (zt_M T σ) o := by
  refine zt_p3 (pc' := pc + 1) (st' := st) (M' := zt_H T (zt_uL σ c j v)) hy hi rfl (fun _ => rfl) rfl rfl ?_ (by rw [zt_Mb σ (zt_uL σ c j v) rfl]; exact h)
  have h4 := zt_at (T := T) (σ := σ) hs
  rw [zt_ceL] at h4
  rw [zt_qlst h4 (zt_ix hj hn), zt_cl hj.1 (by omega), zt_Ma, zt_sL hs hj.1]
theorem zt_sld {j : Int} (hy : (q_row y).2.2 = (nL, rt, hh, kd, ow, code)) (hi : q_ins code pc = some (.iaload, a, b)) (hj : 0 ≤ j ∧ j < (X.1 : Int)) (hn : X.1 ≤ 1000000) (h : zt_Ex X d y (pc + 1) lv (.int (Int32.ofInt (zt_x X j)) :: st) M o) : zt_Ex X d y pc lv (.int (Int32.ofInt j) :: .ref q_big :: st) M o := by
  refine zt_p2 (pc' := pc + 1) (st' := .int (Int32.ofInt (zt_x X j)) :: st) hy hi rfl (fun _ => rfl) rfl ?_ h
  rw [zt_qsld rfl (zt_ix hj hn), zt_cl hj.1 (by omega)]
  unfold zt_x
  rw [Int32.ofInt_toInt]
theorem zt_slen (hy : (q_row y).2.2 = (nL, rt, hh, kd, ow, code)) (hi : q_ins code pc = some (.arraylength, a, b)) (h : zt_Ex X d y (pc + 1) lv (.int (Int32.ofInt (X.1 : Int)) :: st) M o) : zt_Ex X d y pc lv (.ref q_big :: st) M o := by
  refine zt_p2 (pc' := pc + 1) (st' := .int (Int32.ofInt (X.1 : Int)) :: st) hy hi rfl (fun _ => rfl) rfl ?_ h
  rw [zt_qslen rfl, Int32.ofInt_eq_ofNat]
theorem zt_alen {t n c : Nat} (hy : (q_row y).2.2 = (nL, rt, hh, kd, ow, code)) (hi : q_ins code pc = some (.arraylength, a, b)) (hs : zt_sh[c]? = some (.inl (t, n))) (ht : t < 7) (h : zt_Ex X d y (pc + 1) lv (.int (Int32.ofInt (n : Int)) :: st) (zt_M T σ) o) : zt_Ex X d y pc lv (.ref c :: st) (zt_M T σ) o := by
  refine zt_p2 (pc' := pc + 1) (st' := .int (Int32.ofInt (n : Int)) :: st) hy hi rfl (fun _ => rfl) rfl ?_ h
  have h4 := zt_at (T := T) (σ := σ) hs
  have e : ∃ w, zt_ce σ c (.inl (t, n)) = .inl (t, n, w) := by
    dsimp only [zt_ce]
    split
    · rename_i h1; subst h1; exact ⟨_, rfl⟩
    · split
      · rename_i h1; subst h1; exact ⟨_, rfl⟩
      · split
        · exact ⟨_, rfl⟩
        · exact ⟨_, rfl⟩
  obtain ⟨w, e⟩ := e
  rw [e] at h4
  rw [zt_qalen h4 (zt_big hs) ht, Int32.ofInt_eq_ofNat]
/-! calls -/
theorem zt_callG {i : Instr} {idx : Nat} {nL' : Nat} {rt' : Option FieldType} {hh' : List (Nat × Nat × Nat × Nat)} {kd' ow' : Nat} {code' : List (Nat × Instr × Nat × Nat)} {as rest : List Value} {v : Option Value} {M' : q_M} (hy : (q_row y).2.2 = (nL, rt, hh, kd, ow, code)) (hi : q_ins code pc = some (i, a, b)) (he : q_end rt i st = none) (hs : ∀ lv', q_stp X ow (kd == 2) nL i a b pc lv' st M = none) (hn : q_isnew i = none) (hv : q_inv i = some idx) (hz : (q_row a).2.2 = (nL', rt', hh', kd', ow', code')) (ha : ¬ 900 ≤ a) (hal : a < q_mt.length ∧ a ≠ q_law) (hargs : q_args kd' b st = some (as, rest)) (hsum : (rest.map fun v => v.category).sum ≤ 8) (hlen : (lg_sl as).length ≤ nL') (hrcv : q_rcv kd' ow' as M.1 = true) (hc : zt_Ex X d a 0 (lv_args 0 as) [] M (.inl v, M')) (h : zt_Ex X (d + 1) y (pc + 3) lv (v.toList ++ rest) M' o) : zt_Ex X (d + 1) y pc lv st M o := by
  obtain ⟨f1, hf1⟩ := hc
  obtain ⟨f2, hf2⟩ := h
  refine ⟨f1 + f2 + 1, fun f' d' lv' h1 h2 h3 => ?_⟩
  obtain ⟨g, rfl⟩ : ∃ g, f' = g + 1 := ⟨f' - 1, by omega⟩
  obtain ⟨e, rfl⟩ : ∃ e, d' = e + 1 := ⟨d' - 1, by omega⟩
  rw [q_ex]
  simp only [hy, hz, hi, he, hs, hn, hv, if_neg ha, hargs]
  rw [if_pos ⟨hsum, hal.1, hal.2, hlen, hrcv⟩, hf1 g e _ (by omega) (by omega) (fun q hq => zt_lva hq)]
  exact hf2 g (e + 1) lv' (by omega) h2 h3
theorem zt_callX {i : Instr} {idx : Nat} {nL' : Nat} {rt' : Option FieldType} {hh' : List (Nat × Nat × Nat × Nat)} {kd' ow' : Nat} {code' : List (Nat × Instr × Nat × Nat)} {as rest : List Value} {E : String} {M' : q_M} (hy : (q_row y).2.2 = (nL, rt, [], kd, ow, code)) (hi : q_ins code pc = some (i, a, b)) (he : q_end rt i st = none) (hs : ∀ lv', q_stp X ow (kd == 2) nL i a b pc lv' st M = none) (hn : q_isnew i = none) (hv : q_inv i = some idx) (hz : (q_row a).2.2 = (nL', rt', hh', kd', ow', code')) (ha : ¬ 900 ≤ a) (hal : a < q_mt.length ∧ a ≠ q_law) (hargs : q_args kd' b st = some (as, rest)) (hsum : (rest.map fun v => v.category).sum ≤ 8) (hlen : (lg_sl as).length ≤ nL') (hrcv : q_rcv kd' ow' as M.1 = true) (hc : zt_Ex X d a 0 (lv_args 0 as) [] M (.inr E, M')) : zt_Ex X (d + 1) y pc lv st M (.inr E, M') := by
  obtain ⟨f1, hf1⟩ := hc
  refine ⟨f1 + 1, fun f' d' lv' h1 h2 h3 => ?_⟩
  obtain ⟨g, rfl⟩ : ∃ g, f' = g + 1 := ⟨f' - 1, by omega⟩
  obtain ⟨e, rfl⟩ : ∃ e, d' = e + 1 := ⟨d' - 1, by omega⟩
  rw [q_ex]
  simp only [hy, hz, hi, he, hs, hn, hv, if_neg ha, hargs]
  rw [if_pos ⟨hsum, hal.1, hal.2, hlen, hrcv⟩, hf1 g e _ (by omega) (by omega) (fun q hq => zt_lva hq)]
  simp [q_hd]
theorem zt_callH {i : Instr} {idx hp k n : Nat} {nL' : Nat} {rt' : Option FieldType} {hh' : List (Nat × Nat × Nat × Nat)} {kd' ow' : Nat} {code' : List (Nat × Instr × Nat × Nat)} {as rest : List Value} {E : String} {M' : q_M} (hy : (q_row y).2.2 = (nL, rt, hh, kd, ow, code)) (hi : q_ins code pc = some (i, a, b)) (he : q_end rt i st = none) (hs : ∀ lv', q_stp X ow (kd == 2) nL i a b pc lv' st M = none) (hn : q_isnew i = none) (hv : q_inv i = some idx) (hz : (q_row a).2.2 = (nL', rt', hh', kd', ow', code')) (ha : ¬ 900 ≤ a) (hal : a < q_mt.length ∧ a ≠ q_law) (hargs : q_args kd' b st = some (as, rest)) (hsum : (rest.map fun v => v.category).sum ≤ 8) (hlen : (lg_sl as).length ≤ nL') (hrcv : q_rcv kd' ow' as M.1 = true) (hc : zt_Ex X d a 0 (lv_args 0 as) [] M (.inr E, M')) (hhd : q_hd hh pc E = some hp) (hst : q_hst (q_ins code hp) = some (k, n)) (hk : k < nL) (h : zt_Ex X (d + 1) y (hp + n) ((q_s1 lv k .null).drop 1) [] M' o) : zt_Ex X (d + 1) y pc lv st M o := by
  obtain ⟨f1, hf1⟩ := hc
  obtain ⟨f2, hf2⟩ := h
  refine ⟨f1 + f2 + 1, fun f' d' lv' h1 h2 h3 => ?_⟩
  obtain ⟨g, rfl⟩ : ∃ g, f' = g + 1 := ⟨f' - 1, by omega⟩
  obtain ⟨e, rfl⟩ : ∃ e, d' = e + 1 := ⟨d' - 1, by omega⟩
  rw [q_ex]
  simp only [hy, hz, hi, he, hs, hn, hv, if_neg ha, hargs]
  rw [if_pos ⟨hsum, hal.1, hal.2, hlen, hrcv⟩, hf1 g e _ (by omega) (by omega) (fun q hq => zt_lva hq)]
  simp only [hhd, hst]
  rw [if_pos hk]
  exact hf2 g (e + 1) _ (by omega) h2 (zt_cov_dr h3)
theorem zt_jdk {i : Instr} {idx : Nat} {st' : List Value} {M' : List va_E} (hy : (q_row y).2.2 = (nL, rt, hh, kd, ow, code)) (hi : q_ins code pc = some (i, a, b)) (he : q_end rt i st = none) (hs : ∀ lv', q_stp X ow (kd == 2) nL i a b pc lv' st M = none) (hn : q_isnew i = none) (hv : q_inv i = some idx) (ha : 900 ≤ a) (ha9 : a ≠ 999) (hj : q_jdk X M.1 a st = some (st', M')) (hsum : (st.map fun v => v.category).sum ≤ 16) (h : zt_Ex X d y (pc + 3) lv st' (M', M.2) o) : zt_Ex X d y pc lv st M o := by
  obtain ⟨f, hf⟩ := h
  refine ⟨f + 1, fun f' d' lv' h1 h2 h3 => ?_⟩
  obtain ⟨g, rfl⟩ : ∃ g, f' = g + 1 := ⟨f' - 1, by omega⟩
  rw [q_ex]
  simp only [hy, hi, he, hs, hn, hv, if_pos ha, hj]
  rw [if_pos ⟨hsum, ha9⟩]
  exact hf g d' lv' (by omega) h2 h3
theorem zt_nxM (σ : zt_S) : ((zt_M T σ).1, (zt_M T σ).2.1 + 1, (zt_M T σ).2.2 + 6) = zt_M T (zt_nx σ) := by
  have h : zt_H T (zt_nx σ) = zt_H T σ := congrArg (fun f => zt_sh.mapIdx f ++ zt_Tl T) (funext fun c => funext fun k => zt_ce_congr (fun _ => rfl) (fun _ => rfl) rfl)
  unfold zt_M
  rw [h]
  dsimp only [zt_nx]
  have e1 : zt_c0 + σ.2.2.2 + T.1 + 1 = zt_c0 + (σ.2.2.2 + 1) + T.1 := by omega
  have e2 : zt_s0 + 6 * σ.2.2.2 + zt_sm T.2.1 T.1 + 6 = zt_s0 + 6 * (σ.2.2.2 + 1) + zt_sm T.2.1 T.1 := by omega
  rw [e1, e2]
set_option maxRecDepth 20000 in
theorem zt_new {n E : Nat} (hy : (q_row y).2.2 = (nL, rt, [], kd, ow, code)) (hi : q_ins code pc = some (.new n, a, b)) (hE : q_exn a = some (zt_exn E)) (ha : ¬ a < 12) (hsum : (st.map fun v => v.category).sum ≤ 8) : zt_Ex X d y pc lv st (zt_M T σ) (.inr (zt_exn E), zt_M T (zt_nx σ)) := by
  refine ⟨1, fun f' d' lv' h1 h2 h3 => ?_⟩
  obtain ⟨g, rfl⟩ : ∃ g, f' = g + 1 := ⟨f' - 1, by omega⟩
  have hs : q_stp X ow (kd == 2) nL (.new n) a b pc lv' st (zt_M T σ) = none := by
    unfold q_stp
    have h9 : q_p4 (.new n) a pc st = none := if_neg ha
    rw [show q_p1 (.new n) a pc nL lv' st = none from rfl, show q_pk (.new n) a b pc st = none from rfl, show q_p2 X (zt_M T σ).1 (.new n) a b pc st = none from rfl, show q_p3 ow (kd == 2) (zt_M T σ).1 (.new n) a b pc st = none from rfl, h9]
  rw [q_ex]
  simp only [hy, hi, show q_end rt (.new n) st = none from rfl, hs, show q_isnew (.new n) = some n from rfl, hE]
  rw [if_pos ⟨trivial, hsum⟩, Option.map_some, zt_nxM]
theorem zt_ret (hy : (q_row y).2.2 = (nL, none, hh, kd, ow, code)) (hi : q_ins code pc = some (.return_, a, b)) : zt_Ex X d y pc lv [] M (.inl none, M) := by
  refine ⟨1, fun f' d' lv' h1 h2 h3 => ?_⟩
  obtain ⟨g, rfl⟩ : ∃ g, f' = g + 1 := ⟨f' - 1, by omega⟩
  rw [q_ex]
  simp only [hy, hi, show q_end none .return_ [] = some none from rfl]
theorem zt_rv {i : Instr} {v : Value} (hy : (q_row y).2.2 = (nL, rt, hh, kd, ow, code)) (hi : q_ins code pc = some (i, a, b)) (he : q_end rt i st = some (some v)) : zt_Ex X d y pc lv st M (.inl (some v), M) := by
  refine ⟨1, fun f' d' lv' h1 h2 h3 => ?_⟩
  obtain ⟨g, rfl⟩ : ∃ g, f' = g + 1 := ⟨f' - 1, by omega⟩
  rw [q_ex]
  simp only [hy, hi, he]
theorem zt_iret {v : Int} (hy : (q_row y).2.2 = (nL, some .int, hh, kd, ow, code)) (hi : q_ins code pc = some (.ireturn, a, b)) : zt_Ex X d y pc lv [.int (Int32.ofInt v)] M (.inl (some (.int (Int32.ofInt v))), M) := zt_rv hy hi (if_pos rfl)
theorem zt_zret {v : Int} (hy : (q_row y).2.2 = (nL, some .boolean, hh, kd, ow, code)) (hi : q_ins code pc = some (.ireturn, a, b)) (hv : v = 0 ∨ v = 1) : zt_Ex X d y pc lv [.int (Int32.ofInt v)] M (.inl (some (.int (Int32.ofInt v))), M) := zt_rv hy hi (if_pos (by rcases hv with rfl | rfl <;> rfl))
theorem zt_lret {v : Int64} (hy : (q_row y).2.2 = (nL, some .long, hh, kd, ow, code)) (hi : q_ins code pc = some (.lreturn, a, b)) : zt_Ex X d y pc lv [.long v] M (.inl (some (.long v)), M) := zt_rv hy hi rfl
theorem zt_fret {v : UInt32} (hy : (q_row y).2.2 = (nL, some .float, hh, kd, ow, code)) (hi : q_ins code pc = some (.freturn, a, b)) : zt_Ex X d y pc lv [.float v] M (.inl (some (.float v)), M) := zt_rv hy hi rfl
theorem zt_dret {v : UInt64} (hy : (q_row y).2.2 = (nL, some .double, hh, kd, ow, code)) (hi : q_ins code pc = some (.dreturn, a, b)) : zt_Ex X d y pc lv [.double v] M (.inl (some (.double v)), M) := zt_rv hy hi rfl
theorem zt_aret {v : Nat} {C : String} (hy : (q_row y).2.2 = (nL, some (.object C), hh, kd, ow, code)) (hi : q_ins code pc = some (.areturn, a, b)) : zt_Ex X d y pc lv [.ref v] M (.inl (some (.ref v)), M) := zt_rv hy hi rfl
/-! members of the JDK -/
set_option maxRecDepth 20000 in
theorem zt_max {idx : Nat} {u v : Int} (hy : (q_row y).2.2 = (nL, rt, hh, kd, ow, code)) (hi : q_ins code pc = some (.invokestatic idx, a, b)) (ha : a = 910) (hg : zt_in u ∧ zt_in v) (hsum : ((.int (Int32.ofInt v) :: .int (Int32.ofInt u) :: st : List Value).map fun v => v.category).sum ≤ 16) (h : zt_Ex X d y (pc + 3) lv (.int (Int32.ofInt (if u < v then v else u)) :: st) M o) : zt_Ex X d y pc lv (.int (Int32.ofInt v) :: .int (Int32.ofInt u) :: st) M o := by
  subst ha
  refine zt_jdk (idx := idx) hy hi rfl (fun _ => rfl) rfl rfl (by decide) (by decide) (st' := .int (Int32.ofInt (if u < v then v else u)) :: st) (M' := M.1) ?_ hsum h
  show some (.int (if Int32.ofInt u < Int32.ofInt v then Int32.ofInt v else Int32.ofInt u) :: st, M.1) = _
  by_cases huv : u < v
  · rw [if_pos ((zt_clt hg.1 hg.2).mpr huv), if_pos huv]
  · rw [if_neg (fun z => huv ((zt_clt hg.1 hg.2).mp z)), if_neg huv]
set_option maxRecDepth 20000 in
theorem zt_min {idx : Nat} {u v : Int} (hy : (q_row y).2.2 = (nL, rt, hh, kd, ow, code)) (hi : q_ins code pc = some (.invokestatic idx, a, b)) (ha : a = 911) (hg : zt_in u ∧ zt_in v) (hsum : ((.int (Int32.ofInt v) :: .int (Int32.ofInt u) :: st : List Value).map fun v => v.category).sum ≤ 16) (h : zt_Ex X d y (pc + 3) lv (.int (Int32.ofInt (if u < v then u else v)) :: st) M o) : zt_Ex X d y pc lv (.int (Int32.ofInt v) :: .int (Int32.ofInt u) :: st) M o := by
  subst ha
  refine zt_jdk (idx := idx) hy hi rfl (fun _ => rfl) rfl rfl (by decide) (by decide) (st' := .int (Int32.ofInt (if u < v then u else v)) :: st) (M' := M.1) ?_ hsum h
  show some (.int (if Int32.ofInt u < Int32.ofInt v then Int32.ofInt u else Int32.ofInt v) :: st, M.1) = _
  by_cases huv : u < v
  · rw [if_pos ((zt_clt hg.1 hg.2).mpr huv), if_pos huv]
  · rw [if_neg (fun z => huv ((zt_clt hg.1 hg.2).mp z)), if_neg huv]
set_option maxRecDepth 20000 in
theorem zt_abs {idx : Nat} {u : Int} (hy : (q_row y).2.2 = (nL, rt, hh, kd, ow, code)) (hi : q_ins code pc = some (.invokestatic idx, a, b)) (ha : a = 912) (hg : zt_in u) (hsum : ((.int (Int32.ofInt u) :: st : List Value).map fun v => v.category).sum ≤ 16) (h : zt_Ex X d y (pc + 3) lv (.int (Int32.ofInt (if u < 0 then 0 - u else u)) :: st) M o) : zt_Ex X d y pc lv (.int (Int32.ofInt u) :: st) M o := by
  subst ha
  refine zt_jdk (idx := idx) hy hi rfl (fun _ => rfl) rfl rfl (by decide) (by decide) (st' := .int (Int32.ofInt (if u < 0 then 0 - u else u)) :: st) (M' := M.1) ?_ hsum h
  show some (.int (if (0 : Int32) ≤ Int32.ofInt u then Int32.ofInt u else 0 - Int32.ofInt u) :: st, M.1) = _
  by_cases huv : u < 0
  · rw [if_neg (fun z => by rw [zt_0, zt_cle zt_in0 hg] at z; omega), if_pos huv, Int32.ofInt_sub]
    rfl
  · rw [if_pos (by rw [zt_0, zt_cle zt_in0 hg]; omega), if_neg huv]
set_option maxRecDepth 20000 in
theorem zt_nn {u : Int} (h : 0 ≤ u ∧ u < 2147483648) : ¬ Int32.ofInt u < 0 := by
  rw [zt_0, zt_clt ⟨by omega, h.2⟩ zt_in0]
  omega
set_option maxRecDepth 20000 in
theorem zt_acI {idx s dd n0 n1 : Nat} {sp dp k : Int} (hy : (q_row y).2.2 = (nL, rt, hh, kd, ow, code)) (hi : q_ins code pc = some (.invokestatic idx, a, b)) (ha : a = 913) (hs : zt_sh[s]? = some (.inl (0, n0))) (hd : zt_sh[dd]? = some (.inl (0, n1))) (hn : n0 ≤ 1000000 ∧ n1 ≤ 1000000) (hg : 0 ≤ sp ∧ 0 ≤ dp ∧ 0 ≤ k ∧ sp + k ≤ (n0 : Int) ∧ dp + k ≤ (n1 : Int)) (hsum : ((.int (Int32.ofInt k) :: .int (Int32.ofInt dp) :: .ref dd :: .int (Int32.ofInt sp) :: .ref s :: st : List Value).map fun v => v.category).sum ≤ 16) (h : zt_Ex X d y (pc + 3) lv st (zt_M T (zt_cI σ s dd sp dp k)) o) : zt_Ex X d y pc lv (.int (Int32.ofInt k) :: .int (Int32.ofInt dp) :: .ref dd :: .int (Int32.ofInt sp) :: .ref s :: st) (zt_M T σ) o := by
  subst ha
  refine zt_jdk (idx := idx) hy hi rfl (fun _ => rfl) rfl rfl (by decide) (by decide) (st' := st) (M' := zt_H T (zt_cI σ s dd sp dp k)) ?_ hsum (by rw [zt_Mb σ (zt_cI σ s dd sp dp k) rfl]; exact h)
  have h4 := zt_at (T := T) (σ := σ) hs
  have h5 := zt_at (T := T) (σ := σ) hd
  rw [zt_ceI σ s (Or.inl rfl)] at h4
  rw [zt_ceI σ dd (Or.inl rfl)] at h5
  rw [zt_qacI (by rintro (z | z | z); exact zt_nn ⟨hg.1, by omega⟩ z; exact zt_nn ⟨hg.2.1, by omega⟩ z; exact zt_nn ⟨hg.2.2.1, by omega⟩ z) h4 h5 (by rw [zt_cl hg.1 (by omega), zt_cl hg.2.1 (by omega), zt_cl hg.2.2.1 (by omega)]; exact ⟨by omega, by omega⟩), zt_cl hg.1 (by omega), zt_cl hg.2.1 (by omega), zt_cl hg.2.2.1 (by omega), zt_Ma, zt_sC hd hg.1 hg.2.1 hg.2.2.1]
set_option maxRecDepth 20000 in
theorem zt_acL {idx s dd n0 n1 : Nat} {sp dp k : Int} (hy : (q_row y).2.2 = (nL, rt, hh, kd, ow, code)) (hi : q_ins code pc = some (.invokestatic idx, a, b)) (ha : a = 913) (hs : zt_sh[s]? = some (.inl (1, n0))) (hd : zt_sh[dd]? = some (.inl (1, n1))) (hn : n0 ≤ 1000000 ∧ n1 ≤ 1000000) (hg : 0 ≤ sp ∧ 0 ≤ dp ∧ 0 ≤ k ∧ sp + k ≤ (n0 : Int) ∧ dp + k ≤ (n1 : Int)) (hsum : ((.int (Int32.ofInt k) :: .int (Int32.ofInt dp) :: .ref dd :: .int (Int32.ofInt sp) :: .ref s :: st : List Value).map fun v => v.category).sum ≤ 16) (h : zt_Ex X d y (pc + 3) lv st (zt_M T (zt_cL σ s dd sp dp k)) o) : zt_Ex X d y pc lv (.int (Int32.ofInt k) :: .int (Int32.ofInt dp) :: .ref dd :: .int (Int32.ofInt sp) :: .ref s :: st) (zt_M T σ) o := by
  subst ha
  refine zt_jdk (idx := idx) hy hi rfl (fun _ => rfl) rfl rfl (by decide) (by decide) (st' := st) (M' := zt_H T (zt_cL σ s dd sp dp k)) ?_ hsum (by rw [zt_Mb σ (zt_cL σ s dd sp dp k) rfl]; exact h)
  have h4 := zt_at (T := T) (σ := σ) hs
  have h5 := zt_at (T := T) (σ := σ) hd
  rw [zt_ceL] at h4
  rw [zt_ceL] at h5
  rw [zt_qacL (by rintro (z | z | z); exact zt_nn ⟨hg.1, by omega⟩ z; exact zt_nn ⟨hg.2.1, by omega⟩ z; exact zt_nn ⟨hg.2.2.1, by omega⟩ z) h4 h5 (by rw [zt_cl hg.1 (by omega), zt_cl hg.2.1 (by omega), zt_cl hg.2.2.1 (by omega)]; exact ⟨by omega, by omega⟩), zt_cl hg.1 (by omega), zt_cl hg.2.1 (by omega), zt_cl hg.2.2.1 (by omega), zt_Ma, zt_sCL hd hg.1 hg.2.1 hg.2.2.1]
/-- the String constants: their lengths and signs -/
def zt_sl (w : Nat) : Int := ((q_sc.getD (w - q_big - 1) default).2.2.2.length : Int)
def zt_sc (w : Nat) (j : Int) : Int := ((q_sc.getD (w - q_big - 1) default).2.2.2.getD j.toNat 0).toInt
abbrev zt_isS (w : Nat) : Prop := q_big < w ∧ w - q_big - 1 < q_sc.length
set_option maxRecDepth 20000 in
theorem zt_sln {idx w : Nat} (hy : (q_row y).2.2 = (nL, rt, hh, kd, ow, code)) (hi : q_ins code pc = some (.invokevirtual idx, a, b)) (ha : a = 900) (hw : zt_isS w) (hsum : ((.ref w :: st : List Value).map fun v => v.category).sum ≤ 16) (h : zt_Ex X d y (pc + 3) lv (.int (Int32.ofInt (zt_sl w)) :: st) M o) : zt_Ex X d y pc lv (.ref w :: st) M o := by
  subst ha
  refine zt_jdk (idx := idx) hy hi rfl (fun _ => rfl) rfl rfl (by decide) (by decide) (st' := .int (Int32.ofInt (zt_sl w)) :: st) (M' := M.1) ?_ hsum h
  refine (if_pos hw).trans ?_
  unfold zt_sl
  rw [Int32.ofInt_eq_ofNat]
set_option maxRecDepth 20000 in
theorem zt_sch {idx w : Nat} {j : Int} (hy : (q_row y).2.2 = (nL, rt, hh, kd, ow, code)) (hi : q_ins code pc = some (.invokevirtual idx, a, b)) (ha : a = 901) (hw : zt_isS w) (hj : 0 ≤ j ∧ j < zt_sl w) (hl : zt_sl w ≤ 1000) (hsum : ((.int (Int32.ofInt j) :: .ref w :: st : List Value).map fun v => v.category).sum ≤ 16) (h : zt_Ex X d y (pc + 3) lv (.int (Int32.ofInt (zt_sc w j)) :: st) M o) : zt_Ex X d y pc lv (.int (Int32.ofInt j) :: .ref w :: st) M o := by
  subst ha
  refine zt_jdk (idx := idx) hy hi rfl (fun _ => rfl) rfl rfl (by decide) (by decide) (st' := .int (Int32.ofInt (zt_sc w j)) :: st) (M' := M.1) ?_ hsum h
  have hl2 : (q_sc.getD (w - q_big - 1) default).2.2.2.length ≤ 1000000 := by unfold zt_sl at hl; omega
  have hj2 : j < ((q_sc.getD (w - q_big - 1) default).2.2.2.length : Int) := by unfold zt_sl at hj; exact hj.2
  have hj3 : j < 2147483648 := by omega
  have hj4 := zt_ix ⟨hj.1, hj2⟩ hl2
  have hc : q_big < w ∧ w - q_big - 1 < q_sc.length ∧ ¬ (Int32.ofInt j < 0 ∨ (q_sc.getD (w - q_big - 1) default).2.2.2.length ≤ (Int32.ofInt j).toNatClampNeg) := ⟨hw.1, hw.2, hj4⟩
  unfold q_jdk
  dsimp only
  split <;> first
    | (rw [if_pos hc, zt_cl hj.1 hj3]; unfold zt_sc; rw [Int32.ofInt_toInt]; done)
    | (rename_i h7; exact absurd h7 (by decide))
    | (rename_i h1 h2 h3 h4 h5 h6 h7; exact absurd rfl h2)
set_option maxRecDepth 20000 in
theorem zt_sl_le {w : Nat} (hw : zt_isS w) : zt_sl w ≤ 1000 := by
  have h : ∀ k < q_sc.length, (q_sc.getD k default).2.2.2.length ≤ 1000 := by decide +kernel
  have := h _ hw.2
  unfold zt_sl
  omega
/-- three roads to a method -/
theorem zt_callS {idx : Nat} {nL' : Nat} {rt' : Option FieldType} {hh' : List (Nat × Nat × Nat × Nat)} {kd' ow' : Nat} {code' : List (Nat × Instr × Nat × Nat)} {as rest : List Value} {v : Option Value} {M' : q_M} (hy : (q_row y).2.2 = (nL, rt, hh, kd, ow, code)) (hi : q_ins code pc = some (.invokestatic idx, a, b)) (hz : (q_row a).2.2 = (nL', rt', hh', kd', ow', code')) (ha : ¬ 900 ≤ a) (hal : a < q_mt.length ∧ a ≠ q_law) (hargs : q_args kd' b st = some (as, rest)) (hsum : (rest.map fun v => v.category).sum ≤ 8) (hlen : (lg_sl as).length ≤ nL') (hrcv : q_rcv kd' ow' as M.1 = true) (hc : zt_Ex X d a 0 (lv_args 0 as) [] M (.inl v, M')) (h : zt_Ex X (d + 1) y (pc + 3) lv (v.toList ++ rest) M' o) : zt_Ex X (d + 1) y pc lv st M o := zt_callG hy hi rfl (fun _ => rfl) rfl rfl hz ha hal hargs hsum hlen hrcv hc h
theorem zt_callV {idx : Nat} {nL' : Nat} {rt' : Option FieldType} {hh' : List (Nat × Nat × Nat × Nat)} {kd' ow' : Nat} {code' : List (Nat × Instr × Nat × Nat)} {as rest : List Value} {v : Option Value} {M' : q_M} (hy : (q_row y).2.2 = (nL, rt, hh, kd, ow, code)) (hi : q_ins code pc = some (.invokevirtual idx, a, b)) (hz : (q_row a).2.2 = (nL', rt', hh', kd', ow', code')) (ha : ¬ 900 ≤ a) (hal : a < q_mt.length ∧ a ≠ q_law) (hargs : q_args kd' b st = some (as, rest)) (hsum : (rest.map fun v => v.category).sum ≤ 8) (hlen : (lg_sl as).length ≤ nL') (hrcv : q_rcv kd' ow' as M.1 = true) (hc : zt_Ex X d a 0 (lv_args 0 as) [] M (.inl v, M')) (h : zt_Ex X (d + 1) y (pc + 3) lv (v.toList ++ rest) M' o) : zt_Ex X (d + 1) y pc lv st M o := zt_callG hy hi rfl (fun _ => rfl) rfl rfl hz ha hal hargs hsum hlen hrcv hc h
theorem zt_callVX {idx : Nat} {nL' : Nat} {rt' : Option FieldType} {hh' : List (Nat × Nat × Nat × Nat)} {kd' ow' : Nat} {code' : List (Nat × Instr × Nat × Nat)} {as rest : List Value} {E : String} {M' : q_M} (hy : (q_row y).2.2 = (nL, rt, [], kd, ow, code)) (hi : q_ins code pc = some (.invokevirtual idx, a, b)) (hz : (q_row a).2.2 = (nL', rt', hh', kd', ow', code')) (ha : ¬ 900 ≤ a) (hal : a < q_mt.length ∧ a ≠ q_law) (hargs : q_args kd' b st = some (as, rest)) (hsum : (rest.map fun v => v.category).sum ≤ 8) (hlen : (lg_sl as).length ≤ nL') (hrcv : q_rcv kd' ow' as M.1 = true) (hc : zt_Ex X d a 0 (lv_args 0 as) [] M (.inr E, M')) : zt_Ex X (d + 1) y pc lv st M (.inr E, M') := zt_callX hy hi rfl (fun _ => rfl) rfl rfl hz ha hal hargs hsum hlen hrcv hc
theorem zt_callVH {idx hp k n : Nat} {nL' : Nat} {rt' : Option FieldType} {hh' : List (Nat × Nat × Nat × Nat)} {kd' ow' : Nat} {code' : List (Nat × Instr × Nat × Nat)} {as rest : List Value} {E : String} {M' : q_M} (hy : (q_row y).2.2 = (nL, rt, hh, kd, ow, code)) (hi : q_ins code pc = some (.invokevirtual idx, a, b)) (hz : (q_row a).2.2 = (nL', rt', hh', kd', ow', code')) (ha : ¬ 900 ≤ a) (hal : a < q_mt.length ∧ a ≠ q_law) (hargs : q_args kd' b st = some (as, rest)) (hsum : (rest.map fun v => v.category).sum ≤ 8) (hlen : (lg_sl as).length ≤ nL') (hrcv : q_rcv kd' ow' as M.1 = true) (hc : zt_Ex X d a 0 (lv_args 0 as) [] M (.inr E, M')) (hhd : q_hd hh pc E = some hp) (hst : q_hst (q_ins code hp) = some (k, n)) (hk : k < nL) (h : zt_Ex X (d + 1) y (hp + n) ((q_s1 lv k .null).drop 1) [] M' o) : zt_Ex X (d + 1) y pc lv st M o := zt_callH hy hi rfl (fun _ => rfl) rfl rfl hz ha hal hargs hsum hlen hrcv hc hhd hst hk h
end ZT
def zt_cn (c : Nat) : Option Nat := match zt_sh[c]? with
  | some (.inr (ci, _)) => some ci
  | _ => none
theorem zt_qrcv {H : List va_E} {c ci : Nat} {fs as : List Value} (h : q_at H c = some (.inr (ci, fs))) : q_rcv 1 ci (.ref c :: as) H = true := by
  show (match q_at H c with | some (.inr (cj, _)) => decide (cj = ci) | _ => false) = true
  rw [h]
  exact decide_eq_true rfl
theorem zt_rcv {c ow : Nat} {as : List Value} {σ : zt_S} (h : zt_cn c = some ow) : q_rcv 1 ow (.ref c :: as) (zt_M T σ).1 = true := by
  unfold zt_cn at h
  split at h
  · rename_i ci ks hc
    cases h
    have h4 := zt_at (T := T) (σ := σ) hc
    rw [zt_ceF] at h4
    exact zt_qrcv h4
  · cases h
/-- the huge number of turns that a loop is given -/
def zt_N : Nat := 10 ^ 60
end TT
