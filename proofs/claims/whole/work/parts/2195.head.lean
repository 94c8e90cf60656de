/-! THE LAW'S HEAD: the constructors, computed; the invariant behind them -/
set_option maxHeartbeats 2000000 in
theorem lo_mono (X : q_X) : ∀ (f d y pc : Nat) (lv : q_L) (st : List Value) (M : q_M) (o : q_O × q_M), q_ex X f d y pc lv st M = some o → ∀ g e, f ≤ g → d ≤ e → q_ex X g e y pc lv st M = some o := by
  intro f
  induction f with
  | zero => intro d y pc lv st M o h; simp [q_ex] at h
  | succ f ih =>
    intro d y pc lv st M o h g e hg he
    obtain ⟨g, rfl⟩ : ∃ g', g = g' + 1 := ⟨g - 1, by omega⟩
    rw [q_ex] at h ⊢
    split at h
    · cases h
    · rename_i i a b hins
      try rw [hins]
      try dsimp only
      split at h
      · rename_i v hend
        try rw [hend]
        exact h
      · rename_i hend
        try rw [hend]
        try dsimp only
        split at h
        · rename_i hstp
          try rw [hstp]
          exact ih _ _ _ _ _ _ _ h g e (by omega) he
        · rename_i hstp
          try rw [hstp]
          try dsimp only
          split at h
          · rename_i hnew
            try rw [hnew]
            exact h
          · rename_i hnew
            try rw [hnew]
            try dsimp only
            split at h
            · cases h
            · rename_i hinv
              try rw [hinv]
              try dsimp only
              split at h
              · rename_i h9
                try rw [if_pos h9]
                split at h
                · rename_i hj
                  try rw [hj]
                  try dsimp only
                  split at h
                  · rename_i hc
                    try rw [if_pos hc]
                    exact ih _ _ _ _ _ _ _ h g e (by omega) he
                  · cases h
                · cases h
              · rename_i h9
                try rw [if_neg h9]
                split at h
                · rename_i d' as rest hargs
                  obtain ⟨e, rfl⟩ : ∃ e', e = e' + 1 := ⟨e - 1, by omega⟩
                  try rw [hargs]
                  try dsimp only
                  split at h
                  · rename_i hc
                    try rw [if_pos hc]
                    split at h
                    · rename_i hcall
                      rw [ih _ _ _ _ _ _ _ hcall g e (by omega) (by omega)]
                      exact ih _ _ _ _ _ _ _ h g (e + 1) (by omega) he
                    · rename_i hcall
                      rw [ih _ _ _ _ _ _ _ hcall g e (by omega) (by omega)]
                      try dsimp only
                      split at h
                      · rename_i hhd
                        try rw [hhd]
                        try dsimp only
                        split at h
                        · rename_i hst
                          try rw [hst]
                          try dsimp only
                          split at h
                          · rename_i hk
                            try rw [if_pos hk]
                            exact ih _ _ _ _ _ _ _ h g (e + 1) (by omega) he
                          · cases h
                        · cases h
                      · rename_i hhd
                        try rw [hhd]
                        exact h
                    · cases h
                  · cases h
                · cases h
section BT
variable {X : q_X} {d y pc : Nat} {lv : q_L} {st : List Value} {M : q_M} {o : q_O × q_M} {nL : Nat} {rt : Option FieldType} {hh : List (Nat × Nat × Nat × Nat)} {kd ow : Nat} {code : List (Nat × Instr × Nat × Nat)} {a b : Nat}
theorem bt_call {i : Instr} {idx : Nat} {nL' : Nat} {rt' : Option FieldType} {hh' : List (Nat × Nat × Nat × Nat)} {kd' ow' fc dc : Nat} {code' : List (Nat × Instr × Nat × Nat)} {as rest : List Value} {v : Option Value} {M' : q_M} (hy : (q_row y).2.2 = (nL, rt, hh, kd, ow, code)) (hi : q_ins code pc = some (i, a, b)) (he : q_end rt i st = none) (hs : ∀ lv', q_stp X ow (kd == 2) nL i a b pc lv' st M = none) (hn : q_isnew i = none) (hv : q_inv i = some idx) (hz : (q_row a).2.2 = (nL', rt', hh', kd', ow', code')) (ha : ¬ 900 ≤ a) (hal : a < q_mt.length ∧ a ≠ q_law) (hargs : q_args kd' b st = some (as, rest)) (hsum : (rest.map fun v => v.category).sum ≤ 8) (hlen : (lg_sl as).length ≤ nL') (hrcv : q_rcv kd' ow' as M.1 = true) (hc : q_ex X fc dc a 0 (lv_args 0 as) [] M = some (.inl v, M')) (hd : dc + 1 ≤ d) (h : zt_Ex X d y (pc + 3) lv (v.toList ++ rest) M' o) : zt_Ex X d y pc lv st M o := by
  obtain ⟨f2, hf2⟩ := h
  refine ⟨fc + f2 + 1, fun f' d' lv' h1 h2 h3 => ?_⟩
  obtain ⟨g, rfl⟩ : ∃ g, f' = g + 1 := ⟨f' - 1, by omega⟩
  obtain ⟨e, rfl⟩ : ∃ e, d' = e + 1 := ⟨d' - 1, by omega⟩
  rw [q_ex]
  simp only [hy, hz, hi, he, hs, hn, hv, if_neg ha, hargs]
  rw [if_pos ⟨hsum, hal.1, hal.2, hlen, hrcv⟩, lo_mono X _ _ _ _ _ _ _ _ hc g e (by omega) (by omega)]
  exact hf2 g (e + 1) lv' (by omega) h2 h3
theorem bt_new {idx r : Nat} {M' : q_M} (hy : (q_row y).2.2 = (nL, rt, hh, kd, ow, code)) (hi : q_ins code pc = some (.new idx, a, b)) (ha : a < 12) (hM : M.1.length < q_big) (hr : r = M.1.length) (hM' : M' = (M.1 ++ [zt_ob a], M.2.1 + 1, M.2.2 + q_N a)) (h : zt_Ex X d y (pc + 3) lv (.ref r :: st) M' o) : zt_Ex X d y pc lv st M o := by
  subst hr; subst hM'
  refine zt_st hy hi rfl (fun lv' hc => ⟨lv', hc, ?_⟩) h
  show (match (if a < 12 then some (pc + 3, st, zt_ob a, q_N a) else none) with | some (pc', st', e, n) => if M.1.length < q_big then some (pc', lv', Value.ref M.1.length :: st', (M.1 ++ [e], M.2.1 + 1, M.2.2 + n)) else none | none => none) = _
  rw [if_pos ha]
  dsimp only
  rw [if_pos hM]
theorem bt_na {r : Nat} {t : Jvm.ClassFile.ArrayType} {e : va_E} {M' : q_M} (hy : (q_row y).2.2 = (nL, rt, hh, kd, ow, code)) (hi : q_ins code pc = some (.newarray t, a, b)) (ht : q_na t 1 = some e) (hM : M.1.length < q_big) (hr : r = M.1.length) (hM' : M' = (M.1 ++ [e], M.2.1 + 1, M.2.2 + 1)) (h : zt_Ex X d y (pc + 2) lv (.ref r :: st) M' o) : zt_Ex X d y pc lv (.int (Int32.ofInt 1) :: st) M o := by
  subst hr; subst hM'
  refine zt_st hy hi rfl (fun lv' hc => ⟨lv', hc, ?_⟩) h
  show (match (if (Int32.ofInt 1) < 0 ∨ 20000 < (Int32.ofInt 1).toNatClampNeg then none else (q_na t (Int32.ofInt 1).toNatClampNeg).map (fun e => (pc + 2, st, e, (Int32.ofInt 1).toNatClampNeg))) with | some (pc', st', e, n) => if M.1.length < q_big then some (pc', lv', Value.ref M.1.length :: st', (M.1 ++ [e], M.2.1 + 1, M.2.2 + n)) else none | none => none) = _
  rw [if_neg (by decide), show (Int32.ofInt 1).toNatClampNeg = 1 from by decide, ht]
  dsimp only [Option.map]
  rw [if_pos hM]
theorem bt_vlen : ∀ (vs : List Value) (ks : List Nat), bt_vs vs ks = true → vs.length = ks.length
  | [], [], _ => rfl
  | [], _ :: _, h => by simp [bt_vs] at h
  | _ :: _, [], h => by simp [bt_vs] at h
  | e :: es, k :: ks, h => by
    rw [bt_vs, Bool.and_eq_true] at h
    rw [List.length_cons, List.length_cons, bt_vlen es ks h.2]
theorem bt_vat : ∀ (vs : List Value) (ks : List Nat), bt_vs vs ks = true → ∀ (c : Nat) (v : Value) (k : Nat), vs[c]? = some v → ks[c]? = some k → bt_v v k = true
  | [], _, _, c, e, k, h1, _ => by simp at h1
  | _ :: _, [], h, _, _, _, _, _ => by simp [bt_vs] at h
  | e0 :: es, k0 :: ks, h, c, e, k, h1, h2 => by
    rw [bt_vs, Bool.and_eq_true] at h
    cases c with
    | zero =>
      rw [List.getElem?_cons_zero] at h1 h2
      cases h1; cases h2
      exact h.1
    | succ c =>
      rw [List.getElem?_cons_succ] at h1 h2
      exact bt_vat es ks h.2 c e k h1 h2
/-- the typed state that a heap of the shape stands for -/
def bt_S (M : List va_E) : zt_S := (fun c j => bt_i M c j.toNat, fun c j => bt_l M c j.toNat, fun _ => 0, 0)
theorem bt_ce {M : List va_E} {c : Nat} {e : va_E} {k : zt_K} (hg : ∀ (t n : Nat) (f : Nat → Option Nat), M[c]? = some (.inl (t, n, .inr (.inr (.inr (.inr f))))) → zt_g c = f) (he : M[c]? = some e) (h : bt_c e k = true) : e = zt_ce (bt_S M) c k := by
  unfold bt_c at h
  split at h
  · rename_i t n f t' n'
    obtain ⟨h0, h2, h1, h4, h5, h6⟩ := of_decide_eq_true h
    subst h0; subst h2
    unfold zt_ce
    dsimp only
    rw [if_neg h1, if_neg h4, if_neg (fun (z : t = 5 ∨ t = 6) => z.elim h5 h6)]
    refine congrArg (fun z => Sum.inl (t, n, Sum.inl z)) (funext fun j => ?_)
    show f j = Int32.ofInt (bt_i M c ((j : Int).toNat))
    unfold bt_i
    rw [he, Int.toNat_natCast]
    exact (Int32.ofInt_toInt _).symm
  · rename_i t n f t' n'
    obtain ⟨h0, h1, h2⟩ := of_decide_eq_true h
    subst h0; subst h1; subst h2
    unfold zt_ce
    dsimp only
    rw [if_pos rfl]
    refine congrArg (fun z => Sum.inl (1, n, Sum.inr (Sum.inl z))) (funext fun j => ?_)
    show f j = bt_l M c ((j : Int).toNat)
    unfold bt_l
    rw [he, Int.toNat_natCast]
  · rename_i t n f t' n'
    obtain ⟨h0, h1, h2⟩ := of_decide_eq_true h
    subst h1; subst h2
    unfold zt_ce
    dsimp only
    rw [if_neg (fun (z : t = 1) => by rcases h0 with y | y <;> (rw [y] at z; exact absurd z (by decide))), if_neg (fun (z : t = 4) => by rcases h0 with y | y <;> (rw [y] at z; exact absurd z (by decide))), if_pos h0, hg _ _ _ he]
  · rename_i ci fs ci' ks
    rw [Bool.and_eq_true] at h
    obtain ⟨h0, h1⟩ := h
    have h0 := of_decide_eq_true h0
    subst h0
    unfold zt_ce
    dsimp only
    refine congrArg (fun z => Sum.inr (ci, z)) (List.ext_getElem? fun j => ?_)
    rw [List.getElem?_mapIdx]
    have hl := bt_vlen _ _ h1
    cases hf : fs[j]? with
    | none =>
      have : ks[j]? = none := List.getElem?_eq_none (by rw [← hl]; exact List.getElem?_eq_none_iff.mp hf)
      rw [this]
      rfl
    | some v =>
      obtain ⟨k, hk⟩ : ∃ k, ks[j]? = some k := ⟨_, List.getElem?_eq_getElem (by rw [← hl]; exact (List.getElem?_eq_some_iff.mp hf).1)⟩
      have hv := bt_vat _ _ h1 j v k hf hk
      rw [hk]
      refine congrArg some ?_
      unfold bt_v at hv
      split at hv
      · show _ = Value.int (Int32.ofInt (bt_i M c ((j : Int).toNat)))
        unfold bt_i
        rw [he, Int.toNat_natCast]
        dsimp only
        rw [hf]
        dsimp only
        rw [Int32.ofInt_toInt]
      · show _ = Value.long (bt_l M c ((j : Int).toNat))
        unfold bt_l
        rw [he, Int.toNat_natCast]
        dsimp only
        rw [hf]
      · have := of_decide_eq_true hv
        subst this
        rfl
      · cases hv
  · cases h
theorem bt_H {M : List va_E} (hl : M.length = 184) (h1 : ∀ (c : Nat) (e : va_E) (k : zt_K), c < 184 → M[c]? = some e → zt_sh[c]? = some k → bt_c e k = true) (hg : ∀ (c t n : Nat) (f : Nat → Option Nat), M[c]? = some (.inl (t, n, .inr (.inr (.inr (.inr f))))) → zt_g c = f) : zt_H (bt_S M) = (M ++ [.inl (1, 1, .inr (.inl (fun _ => 0)))]) ++ [.inl (4, 1, .inr (.inr (.inr (.inl (fun _ => 0)))))] := by
  apply List.ext_getElem?
  intro c
  rw [zt_get]
  by_cases hc : c < 184
  · rw [List.getElem?_append_left (by rw [List.length_append, hl]; exact Nat.lt_of_lt_of_le hc (Nat.le_add_right _ _)), List.getElem?_append_left (by omega)]
    obtain ⟨e, he⟩ : ∃ e, M[c]? = some e := ⟨_, List.getElem?_eq_getElem (by omega)⟩
    obtain ⟨k, hk⟩ : ∃ k, zt_sh[c]? = some k := ⟨_, List.getElem?_eq_getElem (by rw [zt_sh_len]; exact Nat.lt_trans hc (by decide))⟩
    have h2 := h1 c e k hc he hk
    rw [he, hk]
    exact congrArg some (bt_ce (hg c) he h2).symm
  · by_cases hc4 : c = 184
    · subst hc4
      rw [List.getElem?_append_left (by rw [List.length_append, hl]; decide), List.getElem?_append_right (by omega), hl, show zt_sh[184]? = some (.inl (1, 1)) from by decide +kernel]
      show some (Sum.inl (1, 1, Sum.inr (Sum.inl fun (j : Nat) => bt_l M 184 ((j : Int).toNat)))) = _
      refine congrArg (fun z => some (Sum.inl (1, 1, Sum.inr (Sum.inl z)))) (funext fun j => ?_)
      unfold bt_l
      rw [List.getElem?_eq_none (by omega)]
    · by_cases hc5 : c = 185
      · subst hc5
        rw [List.getElem?_append_right (by rw [List.length_append, hl]; decide), List.length_append, hl, show zt_sh[185]? = some (.inl (4, 1)) from by decide +kernel]
        rfl
      · rw [List.getElem?_eq_none (l := zt_sh) (by rw [zt_sh_len]; show 186 ≤ c; omega), List.getElem?_eq_none (by rw [List.length_append, List.length_append, hl]; show 184 + 1 + 1 ≤ c; omega)]
        rfl
end BT
