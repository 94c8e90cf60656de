/-! A MACHINE over the last cells of a heap: it answers what the mini-machine answers, whatever stands ahead of them and whatever the script -/
def oq_at (k : Nat) (N : List va_E) (id : Nat) : Option va_E := if k ≤ id ∧ id < q_big then N[id - k]? else none
def oq_p2 (k : Nat) (N : List va_E) (i : Instr) (a b pc : Nat) (st : List Value) : Option (Nat × List Value) := match i with
  | .getfield _ => (match st with | .ref id :: r => (match oq_at k N id with | some (.inr (ci, fs)) => if ci = a ∧ b < q_N a then (match fs[b]? with | some v => some (pc + 3, v :: r) | none => none) else none | _ => none) | _ => none)
  | .iaload => (match st with
    | .int j :: .ref id :: r =>       (match oq_at k N id with | some (.inl (t, n, .inl f)) => if t = 0 ∧ ¬ (j < 0 ∨ n ≤ j.toNatClampNeg) then some (pc + 1, .int (f j.toNatClampNeg) :: r) else none | _ => none)
    | _ => none)
  | .baload => (match st with
    | .int j :: .ref id :: r => (match oq_at k N id with | some (.inl (t, n, .inl f)) => if t = 2 ∧ ¬ (j < 0 ∨ n ≤ j.toNatClampNeg) then some (pc + 1, .int (f j.toNatClampNeg) :: r) else none | _ => none)
    | _ => none)
  | .laload => (match st with
    | .int j :: .ref id :: r => (match oq_at k N id with | some (.inl (t, n, .inr (.inl f))) => if t = 1 ∧ ¬ (j < 0 ∨ n ≤ j.toNatClampNeg) then some (pc + 1, .long (f j.toNatClampNeg) :: r) else none | _ => none)
    | _ => none)
  | .aaload => (match st with
    | .int j :: .ref id :: r => (match oq_at k N id with | some (.inl (t, n, .inr (.inr (.inr (.inr f))))) => if (t = 5 ∨ t = 6) ∧ ¬ (j < 0 ∨ n ≤ j.toNatClampNeg) then some (pc + 1, va_rf (f j.toNatClampNeg) :: r) else none | _ => none)
    | _ => none)
  | .arraylength => (match st with
    | .ref id :: r => (match oq_at k N id with | some (.inl (t, n, _)) => if t < 7 then some (pc + 1, .int (Int32.ofNat n) :: r) else none | _ => none)
    | _ => none)
  | _ => none
def oq_p3 (k o : Nat) (init : Bool) (N : List va_E) (i : Instr) (a b pc : Nat) (st : List Value) : Option (Nat × List Value × List va_E) := match i with
  | .putfield _ => (match st with | v :: .ref id :: r => (match oq_at k N id with | some (.inr (ci, fs)) => if ci = a ∧ b < q_N a ∧ b < fs.length ∧ narrow (q_y a b) v = v ∧ fits (q_y a b) v = true ∧ q_fin o init a b = true then some (pc + 3, r, N.set (id - k) (.inr (ci, fs.set b v))) else none | _ => none) | _ => none)
  | .iastore => (match st with
    | .int x :: .int j :: .ref id :: r => (match oq_at k N id with | some (.inl (t, n, .inl f)) => if t = 0 ∧ ¬ (j < 0 ∨ n ≤ j.toNatClampNeg) then some (pc + 1, r, N.set (id - k) (.inl (t, n, .inl (upd f j.toNatClampNeg x)))) else none | _ => none)
    | _ => none)
  | .bastore => (match st with
    | .int x :: .int j :: .ref id :: r => (match oq_at k N id with | some (.inl (t, n, .inl f)) => if ¬ (j < 0 ∨ n ≤ j.toNatClampNeg) then (if t = 2 then some (pc + 1, r, N.set (id - k) (.inl (t, n, .inl (upd f j.toNatClampNeg (vp_nar .byte x))))) else none) else none | _ => none)
    | _ => none)
  | .lastore => (match st with
    | .long x :: .int j :: .ref id :: r => (match oq_at k N id with | some (.inl (t, n, .inr (.inl f))) => if t = 1 ∧ ¬ (j < 0 ∨ n ≤ j.toNatClampNeg) then some (pc + 1, r, N.set (id - k) (.inl (t, n, .inr (.inl (vp_updL f j.toNatClampNeg x))))) else none | _ => none)
    | _ => none)
  | .aastore => (match st with
    | .ref v :: .int j :: .ref id :: r => (match oq_at k N id, oq_at k N v with | some (.inl (t, n, .inr (.inr (.inr (.inr f))))), some (.inr (ci, _)) => if (t = 5 ∧ ci = 6 ∨ t = 6 ∧ ci = 9) ∧ ¬ (j < 0 ∨ n ≤ j.toNatClampNeg) then some (pc + 1, r, N.set (id - k) (.inl (t, n, .inr (.inr (.inr (.inr (va_up f j.toNatClampNeg (some v)))))))) else none | _, _ => none)
    | _ => none)
  | _ => none
def oq_stp (k o : Nat) (init : Bool) (nL : Nat) (i : Instr) (a b pc : Nat) (lv : q_L) (st : List Value) (M : q_M) : Option (Nat × q_L × List Value × q_M) :=
  match q_p1 i a pc nL lv st with
  | some (pc', lv', st') => some (pc', lv', st', M)
  | none => match q_pk i a b pc st with
    | some (pc', st') => some (pc', lv, st', M)
    | none => match oq_p2 k M.1 i a b pc st with
      | some (pc', st') => some (pc', lv, st', M)
      | none => match oq_p3 k o init M.1 i a b pc st with
        | some (pc', st', M') => some (pc', lv, st', (M', M.2))
        | none => match q_p4 i a pc st with
          | some (pc', st', e, n) => if k + M.1.length < q_big then some (pc', lv, .ref (k + M.1.length) :: st', (M.1 ++ [e], M.2.1 + 1, M.2.2 + n)) else none
          | none => none
def oq_rcv (k z o : Nat) (as : List Value) (N : List va_E) : Bool := match z with
  | 0 => true
  | 1 => (match as with | .ref id :: _ => (match oq_at k N id with | some (.inr (ci, _)) => decide (ci = o) | _ => false) | _ => false)
  | _ => (match as with | .ref _ :: _ => true | _ => false)
def oq_pop (st : List Value) : Option (List Value) := match st with
  | .ref _ :: r => some r
  | _ => none
def oq_ex (k : Nat) : Nat → Nat → Nat → Nat → q_L → List Value → q_M → Option (Option Value × q_M)
  | 0, _, _, _, _, _, _ => none
  | f + 1, d, y, pc, lv, st, M =>
    match q_ins (q_row y).2.2.2.2.2.2.2 pc with
    | none => none
    | some (i, a, b) =>
      match q_end (q_row y).2.2.2.1 i st with
      | some v => some (v, M)
      | none =>
        match oq_stp k (q_row y).2.2.2.2.2.2.1 ((q_row y).2.2.2.2.2.1 == 2) (q_row y).2.2.1 i a b pc lv st M with
        | some (pc', lv', st', M') => oq_ex k f d y pc' lv' st' M'
        | none =>
          match q_inv i with
          | none => none
          | some _ =>
            if a = 914 then
              (match oq_pop st with
               | some r => if (st.map fun v => v.category).sum ≤ 16 then oq_ex k f d y (pc + 3) lv r M else none
               | none => none)
            else if 900 ≤ a then none
            else
              (match d, q_args (q_row a).2.2.2.2.2.1 b st with
               | d' + 1, some (as, rest) =>
                 if (rest.map fun v => v.category).sum ≤ 8 ∧ a < q_mt.length ∧ a ≠ q_law ∧ (lg_sl as).length ≤ (q_row a).2.2.1 ∧ oq_rcv k (q_row a).2.2.2.2.2.1 (q_row a).2.2.2.2.2.2.1 as M.1 = true then
                   (match oq_ex k f d' a 0 (lv_args 0 as) [] M with
                    | some (v, M') => oq_ex k f d y (pc + 3) lv (v.toList ++ rest) M'
                    | none => none)
                 else none
               | _, _ => none)
section OQ
variable {k : Nat} {A N : List va_E} {X : q_X}
theorem oq_at_ok {id : Nat} {e : va_E} (hA : A.length = k) (h : oq_at k N id = some e) : q_at (A ++ N) id = some e ∧ k ≤ id ∧ ¬ id = q_big := by
  unfold oq_at at h
  split at h
  · rename_i hc
    refine ⟨?_, hc.1, Nat.ne_of_lt hc.2⟩
    unfold q_at
    rw [if_pos hc.2, List.getElem?_append_right (by omega), hA]
    exact h
  · cases h
theorem oq_set {id : Nat} {e : va_E} (hA : A.length = k) (h : k ≤ id) : (A ++ N).set id e = A ++ N.set (id - k) e := by
  rw [List.set_append, if_neg (by omega), hA]
theorem oq_p2_ok {i : Instr} {a b pc : Nat} {st : List Value} {w : Nat × List Value} (hA : A.length = k) (h : oq_p2 k N i a b pc st = some w) : q_p2 X (A ++ N) i a b pc st = some w := by
  unfold oq_p2 at h
  split at h
  · split at h
    · split at h
      · rename_i hat
        obtain ⟨g1, g2, g3⟩ := oq_at_ok hA hat
        unfold q_p2
        dsimp only
        rw [g1]
        exact h
      · cases h
    · cases h
  · split at h
    · split at h
      · rename_i hat
        obtain ⟨g1, g2, g3⟩ := oq_at_ok hA hat
        unfold q_p2
        dsimp only
        rw [if_neg g3, g1]
        exact h
      · cases h
    · cases h
  · split at h
    · split at h
      · rename_i hat
        obtain ⟨g1, g2, g3⟩ := oq_at_ok hA hat
        unfold q_p2
        dsimp only
        rw [g1]
        exact h
      · cases h
    · cases h
  · split at h
    · split at h
      · rename_i hat
        obtain ⟨g1, g2, g3⟩ := oq_at_ok hA hat
        unfold q_p2
        dsimp only
        rw [g1]
        exact h
      · cases h
    · cases h
  · split at h
    · split at h
      · rename_i hat
        obtain ⟨g1, g2, g3⟩ := oq_at_ok hA hat
        unfold q_p2
        dsimp only
        rw [g1]
        exact h
      · cases h
    · cases h
  · split at h
    · split at h
      · rename_i hat
        obtain ⟨g1, g2, g3⟩ := oq_at_ok hA hat
        unfold q_p2
        dsimp only
        rw [if_neg g3, g1]
        exact h
      · cases h
    · cases h
  · cases h
theorem oq_p3_ok {o : Nat} {init : Bool} {i : Instr} {a b pc pc' : Nat} {st st' : List Value} {N' : List va_E} (hA : A.length = k) (h : oq_p3 k o init N i a b pc st = some (pc', st', N')) : q_p3 o init (A ++ N) i a b pc st = some (pc', st', A ++ N') ∧ q_p2 X (A ++ N) i a b pc st = none := by
  unfold oq_p3 at h
  split at h
  · refine ⟨?_, rfl⟩
    split at h
    · split at h
      · rename_i hat
        obtain ⟨g1, g2, g3⟩ := oq_at_ok hA hat
        split at h
        · rename_i hc
          cases h
          unfold q_p3
          dsimp only
          rw [g1]
          dsimp only
          rw [if_pos hc, oq_set hA g2]
        · cases h
      · cases h
    · cases h
  · refine ⟨?_, rfl⟩
    split at h
    · split at h
      · rename_i hat
        obtain ⟨g1, g2, g3⟩ := oq_at_ok hA hat
        split at h
        · rename_i hc
          cases h
          unfold q_p3
          dsimp only
          rw [g1]
          dsimp only
          rw [if_pos hc, oq_set hA g2]
        · cases h
      · cases h
    · cases h
  · refine ⟨?_, rfl⟩
    split at h
    · split at h
      · rename_i hat
        obtain ⟨g1, g2, g3⟩ := oq_at_ok hA hat
        split at h
        · rename_i hc
          split at h
          · rename_i ht
            cases h
            unfold q_p3
            dsimp only
            rw [g1]
            dsimp only
            rw [if_pos hc, if_pos ht, oq_set hA g2]
          · cases h
        · cases h
      · cases h
    · cases h
  · refine ⟨?_, rfl⟩
    split at h
    · split at h
      · rename_i hat
        obtain ⟨g1, g2, g3⟩ := oq_at_ok hA hat
        split at h
        · rename_i hc
          cases h
          unfold q_p3
          dsimp only
          rw [g1]
          dsimp only
          rw [if_pos hc, oq_set hA g2]
        · cases h
      · cases h
    · cases h
  · refine ⟨?_, rfl⟩
    split at h
    · split at h
      · rename_i hat hatv
        obtain ⟨g1, g2, g3⟩ := oq_at_ok hA hat
        obtain ⟨g4, g5, g6⟩ := oq_at_ok hA hatv
        split at h
        · rename_i hc
          cases h
          unfold q_p3
          dsimp only
          rw [g1, g4]
          dsimp only
          rw [if_pos hc, oq_set hA g2]
        · cases h
      · cases h
    · cases h
  · cases h
theorem oq_p4_n {o : Nat} {init : Bool} {M : List va_E} {i : Instr} {a b pc : Nat} {st st0 : List Value} {w : Nat × List Value × va_E × Nat} (h : q_p4 i a pc st0 = some w) : q_p2 X M i a b pc st = none ∧ q_p3 o init M i a b pc st = none := by
  unfold q_p4 at h
  split at h
  · exact ⟨rfl, rfl⟩
  · exact ⟨rfl, rfl⟩
  · exact ⟨rfl, rfl⟩
  · cases h
theorem oq_stp_ok {o nL : Nat} {init : Bool} {i : Instr} {a b pc pc' : Nat} {lv lv' : q_L} {st st' : List Value} {N' : List va_E} {n n' : Nat × Nat} (hA : A.length = k) (h : oq_stp k o init nL i a b pc lv st (N, n) = some (pc', lv', st', (N', n'))) : q_stp X o init nL i a b pc lv st (A ++ N, n) = some (pc', lv', st', (A ++ N', n')) := by
  unfold oq_stp at h
  unfold q_stp
  split at h
  · rename_i hq
    try rw [hq]
    cases h
    rfl
  · rename_i hq1
    try rw [hq1]
    try dsimp only
    split at h
    · rename_i hq
      try rw [hq]
      cases h
      rfl
    · rename_i hq2
      try rw [hq2]
      try dsimp only
      split at h
      · rename_i hq
        rw [oq_p2_ok hA hq]
        cases h
        rfl
      · split at h
        · rename_i hq
          obtain ⟨g1, g2⟩ := oq_p3_ok (X := X) hA hq
          rw [g2]
          dsimp only
          rw [g1]
          cases h
          rfl
        · split at h
          · rename_i e m hq
            obtain ⟨g1, g2⟩ := oq_p4_n (X := X) (o := o) (init := init) (M := A ++ N) (b := b) (st := st) hq
            rw [g1]
            dsimp only
            rw [g2]
            try rw [hq]
            dsimp only at h ⊢
            split at h
            · rename_i hM
              cases h
              rw [List.length_append, hA, if_pos hM, List.append_assoc]
            · cases h
          · cases h
theorem oq_rcv_ok {z o : Nat} {as : List Value} (hA : A.length = k) (h : oq_rcv k z o as N = true) : q_rcv z o as (A ++ N) = true := by
  match z, h with
  | 0, _ => rfl
  | 1, h =>
    cases as with
    | nil => cases h
    | cons v as =>
      cases v with
      | ref id =>
        have h : (match oq_at k N id with | some (.inr (ci, _)) => decide (ci = o) | _ => false) = true := h
        show (match q_at (A ++ N) id with | some (.inr (ci, _)) => decide (ci = o) | _ => false) = true
        split at h
        · rename_i hat
          rw [(oq_at_ok hA hat).1]
          exact h
        · cases h
      | _ => cases h
  | z + 2, h => exact h
theorem oq_pop_ok {M : List va_E} {st r : List Value} (h : oq_pop st = some r) : q_jdk X M 914 st = some (r, M) := by
  unfold oq_pop at h
  split at h
  · cases h; rfl
  · cases h
theorem oq_inv {o nL : Nat} {init : Bool} {i : Instr} {a b pc x : Nat} {lv : q_L} {st : List Value} {M : q_M} (h : q_inv i = some x) : q_stp X o init nL i a b pc lv st M = none ∧ q_isnew i = none := by
  unfold q_inv at h
  split at h
  · exact ⟨rfl, rfl⟩
  · exact ⟨rfl, rfl⟩
  · exact ⟨rfl, rfl⟩
  · cases h
set_option maxHeartbeats 2000000 in
theorem oq_ok (hA : A.length = k) : ∀ (f d y pc : Nat) (lv : q_L) (st : List Value) (N : List va_E) (n : Nat × Nat) (v : Option Value) (N2 : List va_E) (n2 : Nat × Nat), oq_ex k f d y pc lv st (N, n) = some (v, (N2, n2)) → q_ex X f d y pc lv st (A ++ N, n) = some (.inl v, (A ++ N2, n2)) := by
  intro f
  induction f with
  | zero => intro d y pc lv st N n v N2 n2 h; simp [oq_ex] at h
  | succ f ih =>
    intro d y pc lv st N n v N2 n2 h
    rw [oq_ex] at h
    rw [q_ex]
    split at h
    · cases h
    · rename_i i a b hins
      try rw [hins]
      try dsimp only
      split at h
      · rename_i v hend
        try rw [hend]
        cases h
        rfl
      · rename_i hend
        try rw [hend]
        try dsimp only
        split at h
        · rename_i pc' lv' st' M' hstp
          obtain ⟨N', n'⟩ := M'
          rw [oq_stp_ok (X := X) hA hstp]
          exact ih _ _ _ _ _ _ _ _ _ _ h
        · split at h
          · cases h
          · rename_i x hinv
            obtain ⟨e1, e2⟩ := oq_inv (X := X) (o := (q_row y).2.2.2.2.2.2.1) (nL := (q_row y).2.2.1) (init := ((q_row y).2.2.2.2.2.1 == 2)) (a := a) (b := b) (pc := pc) (lv := lv) (st := st) (M := (A ++ N, n)) hinv
            rw [e1]
            dsimp only
            rw [e2]
            dsimp only
            try rw [hinv]
            try dsimp only
            split at h
            · rename_i h914
              subst h914
              split at h
              · rename_i r hpop
                split at h
                · rename_i hc
                  rw [if_pos (by decide), oq_pop_ok hpop]
                  dsimp only
                  rw [if_pos ⟨hc, by decide⟩]
                  exact ih _ _ _ _ _ _ _ _ _ _ h
                · cases h
              · cases h
            · split at h
              · cases h
              · rename_i h9
                rw [if_neg h9]
                split at h
                · rename_i d' as rest hargs
                  try rw [hargs]
                  try dsimp only
                  split at h
                  · rename_i hc
                    rw [if_pos ⟨hc.1, hc.2.1, hc.2.2.1, hc.2.2.2.1, oq_rcv_ok hA hc.2.2.2.2⟩]
                    split at h
                    · rename_i v1 M' hcall
                      obtain ⟨N', n'⟩ := M'
                      rw [ih _ _ _ _ _ _ _ _ _ _ hcall]
                      exact ih _ _ _ _ _ _ _ _ _ _ h
                    · cases h
                  · cases h
                · cases h
end OQ
