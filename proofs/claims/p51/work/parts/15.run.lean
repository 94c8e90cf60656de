/-! a run of the mini-machine: f instructions at most on any road, d calls deep -/
def q_inv (i : Instr) : Option Nat := match i with
  | .invokestatic k | .invokevirtual k | .invokespecial k => some k
  | _ => none
def q_isnew (i : Instr) : Option Nat := match i with
  | .new k => some k
  | _ => none
/-- where a handler's store stands, and behind it -/
def q_hst (i : Option (Instr × Nat × Nat)) : Option (Nat × Nat) := match i with
  | some (.astore k, _) => some (k, 2)
  | some (.astore_n k, _) => some ((k : Nat), 1)
  | _ => none
def q_IA : String := "java/lang/IllegalArgumentException"
/-- the row of a table that takes what was thrown here -/
def q_hd : List (Nat × Nat × Nat × Nat) → Nat → String → Option Nat
  | [], _, _ => none
  | x :: r, pc, E => if x.1 ≤ pc ∧ pc < x.2.1 then (if q_cty E x.2.2.2 = true then some x.2.2.1 else if E = q_IA ∧ x.2.2.2 = 18 then q_hd r pc E else none) else q_hd r pc E
/-- the receiver is an object of the method's class -/
def q_rcv (k o : Nat) (as : List Value) (M : List va_E) : Bool := match k with
  | 0 => true
  | 1 => (match as with | .ref id :: _ => (match q_at M id with | some (.inr (ci, _)) => decide (ci = o) | _ => false) | _ => false)
  | _ => (match as with | .ref _ :: _ => true | _ => false)
def q_ex (X : q_X) : Nat → Nat → Nat → Nat → q_L → List Value → q_M → Option (q_O × q_M)
  | 0, _, _, _, _, _, _ => none
  | f + 1, d, y, pc, lv, st, M =>
    match q_ins (q_row y).2.2.2.2.2.2.2 pc with
    | none => none
    | some (i, a, b) =>
      match q_end (q_row y).2.2.2.1 i st with
      | some v => some (.inl v, M)
      | none =>
        match q_stp X (q_row y).2.2.2.2.2.2.1 ((q_row y).2.2.2.2.2.1 == 2) (q_row y).2.2.1 i a b pc lv st M with
        | some (pc', lv', st', M') => q_ex X f d y pc' lv' st' M'
        | none =>
          match q_isnew i with
          | some _ => if (q_row y).2.2.2.2.1 = [] ∧ (st.map fun v => v.category).sum ≤ 8 then (q_exn a).map (fun E => (.inr E, (M.1, M.2.1 + 1, M.2.2 + 6))) else none
          | none =>
            match q_inv i with
            | none => none
            | some _ =>
              if 900 ≤ a then
                (match q_jdk X M.1 a st with
                 | some (st', M') => if (st.map fun v => v.category).sum ≤ 16 ∧ a ≠ 999 then q_ex X f d y (pc + 3) lv st' (M', M.2) else none
                 | none => none)
              else
                (match d, q_args (q_row a).2.2.2.2.2.1 b st with
                 | d' + 1, some (as, rest) =>
                   if (rest.map fun v => v.category).sum ≤ 8 ∧ a < q_mt.length ∧ a ≠ q_law ∧ (lg_sl as).length ≤ (q_row a).2.2.1 ∧ q_rcv (q_row a).2.2.2.2.2.1 (q_row a).2.2.2.2.2.2.1 as M.1 = true then
                     (match q_ex X f d' a 0 (lv_args 0 as) [] M with
                      | some (.inl v, M') => q_ex X f d y (pc + 3) lv (v.toList ++ rest) M'
                      | some (.inr E, M') =>
                        (match q_hd (q_row y).2.2.2.2.1 pc E with
                         | some h => (match q_hst (q_ins (q_row y).2.2.2.2.2.2.2 h) with
                           | some (k, n) => if k < (q_row y).2.2.1 then q_ex X f d y (h + n) ((q_s1 lv k .null).drop 1) [] M' else none
                           | none => none)
                         | none => if (q_row y).2.2.2.2.1 = [] then some (.inr E, M') else none)
                      | none => none)
                   else none
                 | _, _ => none)
theorem q_args_v {n k j : Nat} {st as rest : List Value} (h : q_args k j st = some (as, rest)) (hs : q_vs n st) : q_vs n as ∧ q_vs n rest := by
  unfold q_args at h
  (repeat' split at h) <;> first
    | (cases h; done)
    | (cases h; exact ⟨fun v hv => hs v (List.mem_of_mem_take (List.mem_reverse.mp hv)), fun v hv => hs v (List.mem_of_mem_drop hv)⟩)
theorem q_lva_v {n : Nat} : ∀ (as : List Value) (k : Nat), q_vs n as → q_vl n (lv_args k as)
  | [], _, _ => fun q hq => absurd hq List.not_mem_nil
  | v :: as, k, hs => by
    intro q hq
    rcases List.mem_cons.mp hq with rfl | hq
    · exact hs v List.mem_cons_self
    · exact q_lva_v as _ (fun w hw => hs w (List.mem_cons_of_mem _ hw)) q hq
theorem q_end_v {n : Nat} {rt : Option FieldType} {i : Instr} {st : List Value} {v : Value} (h : q_end rt i st = some (some v)) (hs : q_vs n st) : q_vv n v := by
  unfold q_end at h
  (repeat' split at h) <;> first
    | (cases h; done)
    | (cases h; exact hs _ List.mem_cons_self)
theorem q_vl_drop {n k : Nat} {lv : q_L} (hl : q_vl n lv) : q_vl n ((q_s1 lv k .null).drop 1) := fun q hq => by
  show q_vv n q.2
  exact hl q (List.mem_filter.mp hq).1
theorem q_vs_app {n : Nat} {a b : List Value} (ha : q_vs n a) (hb : q_vs n b) : q_vs n (a ++ b) := fun v hv => (List.mem_append.mp hv).elim (ha v) (hb v)
set_option maxHeartbeats 1000000 in
theorem q_ex_v (X : q_X) : ∀ (f d y pc : Nat) (lv : q_L) (st : List Value) (M : q_M) (r : q_O) (Me : q_M), q_ex X f d y pc lv st M = some (r, Me) → q_V lv st M → q_vM Me.1 ∧ q_le M Me ∧ ∀ v, r = .inl (some v) → q_vv Me.1.length v := by
  intro f
  induction f with
  | zero => intro d y pc lv st M r Me h; simp [q_ex] at h
  | succ f ih =>
    intro d y pc lv st M r Me h hV
    rw [q_ex] at h
    split at h
    · cases h
    · rename_i i a b hins
      split at h
      · rename_i v hend
        cases h
        exact ⟨hV.2.2, q_le.rf, fun v hv => by cases hv; exact q_end_v hend hV.2.1⟩
      · split at h
        · rename_i pc' lv' st' M' hstp
          obtain ⟨h1, h2⟩ := q_stp_v hstp hV
          obtain ⟨g1, g2, g3⟩ := ih _ _ _ _ _ _ _ _ h h1
          exact ⟨g1, h2.tr g2, g3⟩
        · split at h
          · split at h
            · obtain ⟨E, -, hz⟩ := Option.map_eq_some_iff.mp h
              cases hz
              exact ⟨hV.2.2, ⟨Nat.le_refl _, Nat.le_succ _, Nat.le_add_right _ _⟩, fun v hv => by cases hv⟩
            · cases h
          · split at h
            · cases h
            · split at h
              · split at h
                · rename_i st' M' hj
                  split at h
                  · obtain ⟨h1, h2, h3⟩ := q_jdk_v hj hV.2.2 hV.2.1
                    obtain ⟨g1, g2, g3⟩ := ih _ _ _ _ _ _ _ _ h ⟨fun q hq => by dsimp only; rw [h2]; exact hV.1 q hq, fun v hv => by dsimp only; rw [h2]; exact h3 v hv, h1⟩
                    exact ⟨g1, ⟨by have := g2.1; dsimp only at this; rw [h2] at this; exact this, g2.2⟩, g3⟩
                  · cases h
                · cases h
              · split at h
                · rename_i d' as rest hargs
                  split at h
                  · obtain ⟨v1, v2⟩ := q_args_v hargs hV.2.1
                    split at h
                    · rename_i v M' hcall
                      obtain ⟨g1, g2, g3⟩ := ih _ _ _ _ _ _ _ _ hcall ⟨q_lva_v as 0 v1, q_vs_nil, hV.2.2⟩
                      have hvv : q_vs M'.1.length v.toList := by
                        cases v with
                        | none => exact q_vs_nil
                        | some v => exact q_vs_c.mpr ⟨g3 v rfl, q_vs_nil⟩
                      obtain ⟨k1, k2, k3⟩ := ih _ _ _ _ _ _ _ _ h ⟨hV.1.mono g2.1, q_vs_app hvv (v2.mono g2.1), g1⟩
                      exact ⟨k1, g2.tr k2, k3⟩
                    · rename_i E M' hcall
                      obtain ⟨g1, g2, g3⟩ := ih _ _ _ _ _ _ _ _ hcall ⟨q_lva_v as 0 v1, q_vs_nil, hV.2.2⟩
                      split at h
                      · split at h
                        · split at h
                          · obtain ⟨k1, k2, k3⟩ := ih _ _ _ _ _ _ _ _ h ⟨q_vl_drop (hV.1.mono g2.1), q_vs_nil, g1⟩
                            exact ⟨k1, g2.tr k2, k3⟩
                          · cases h
                        · cases h
                      · split at h
                        · cases h
                          exact ⟨g1, g2, fun v hv => by cases hv⟩
                        · cases h
                    · cases h
                  · cases h
                · cases h
