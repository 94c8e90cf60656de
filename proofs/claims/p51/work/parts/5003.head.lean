/-! the law's first instructions -/
theorem en_170 (X : q_X) : q_ex X 20 9 170 0 [(0, .ref 0)] [] ([zt_ob 11], 1, 2) = some (.inl none, (zt_A2, 2, 602)) := by
  rfl
section EH
variable {l : Launch} {D : va_G} {tc : Nat → ClassId} {A : Nat → Prop} {X : q_X}
variable {p : Program} {e : Env} {R : Room} {s : State} {m : MethodId} {args : Array Value} {below : List Frame} {meth : Method} {c : Code} {Q : State → Prop} {ad0 : Nat → Nat}
theorem en_V0 : q_V [(0, .ref q_big)] [] ([], 0, 0) := ⟨fun q hq => by rw [List.mem_singleton.mp hq]; intro i hi; cases hi; exact Or.inr (Nat.le_refl _), q_vs_nil, fun e he => absurd he List.not_mem_nil⟩
theorem en_s0 : q_stp X (q_row 351).2.2.2.2.2.2.1 ((q_row 351).2.2.2.2.2.1 == 2) (q_row 351).2.2.1 (.new 8) 11 0 0 [(0, .ref q_big)] [] ([], 0, 0) = some (3, [(0, .ref q_big)], [.ref 0], ([zt_ob 11], 1, 2)) := by rfl
theorem en_s3 : q_stp X (q_row 351).2.2.2.2.2.2.1 ((q_row 351).2.2.2.2.2.1 == 2) (q_row 351).2.2.1 .dup 0 0 3 [(0, .ref q_big)] [.ref 0] ([zt_ob 11], 1, 2) = some (4, [(0, .ref q_big)], [.ref 0, .ref 0], ([zt_ob 11], 1, 2)) := by rfl
theorem en_s7 : q_stp X (q_row 351).2.2.2.2.2.2.1 ((q_row 351).2.2.2.2.2.1 == 2) (q_row 351).2.2.1 (.astore_n 1) 0 0 7 [(0, .ref q_big)] [.ref 0] (zt_A2, 2, 602) = some (8, [(1, .ref 0), (0, .ref q_big)], [], (zt_A2, 2, 602)) := by rfl
theorem en_s8 : q_stp X (q_row 351).2.2.2.2.2.2.1 ((q_row 351).2.2.2.2.2.1 == 2) (q_row 351).2.2.1 (.new 35) 10 0 8 [(1, .ref 0), (0, .ref q_big)] [] (zt_A2, 2, 602) = some (11, [(1, .ref 0), (0, .ref q_big)], [.ref 2], (zt_A2 ++ [zt_ob 10], 3, 615)) := by rfl
theorem en_s11 : q_stp X (q_row 351).2.2.2.2.2.2.1 ((q_row 351).2.2.2.2.2.1 == 2) (q_row 351).2.2.1 .dup 0 0 11 [(1, .ref 0), (0, .ref q_big)] [.ref 2] (zt_A2 ++ [zt_ob 10], 3, 615) = some (12, [(1, .ref 0), (0, .ref q_big)], [.ref 2, .ref 2], (zt_A2 ++ [zt_ob 10], 3, 615)) := by rfl
theorem en_s15 {M : q_M} : q_stp X (q_row 351).2.2.2.2.2.2.1 ((q_row 351).2.2.2.2.2.1 == 2) (q_row 351).2.2.1 (.astore_n 2) 0 0 15 [(1, .ref 0), (0, .ref q_big)] [.ref 2] M = some (16, [(2, .ref 2), (1, .ref 0), (0, .ref q_big)], [], M) := by rfl
theorem en_chain (IH : ∀ f, q_Sim l D tc A X f) (hF : q_Fr p s m args meth c 351) (hC0 : q_Cx D tc A ad0 X s) (r1 : 14 ≤ R.frames) (r2 : 490 ≤ R.locals) (r3 : 165 ≤ R.cells) (r4 : 21386 ≤ R.slots) (k : q_V [(2, .ref 2), (1, .ref 0), (0, .ref q_big)] [] zt_M1 → WK D tc A p l e R s m args below meth c Q ad0 351 16 [(2, .ref 2), (1, .ref 0), (0, .ref q_big)] [] zt_M1) : WK D tc A p l e R s m args below meth c Q ad0 351 0 [(0, .ref q_big)] [] ([], 0, 0) := by
  have m2 : zt_M1.2 = (165, 21386) := by
    obtain ⟨N2, h, -⟩ := bt_A.2.1
    rw [h]
  have v1 := (q_stp_v (en_s0 (X := X)) en_V0).1
  have v2 := (q_stp_v (en_s3 (X := X)) v1).1
  have a1 : q_args (q_row 170).2.2.2.2.2.1 0 [.ref 0, .ref 0] = some ([.ref 0], [.ref 0]) := rfl
  have v3 := v_call a1 (en_170 X) v2
  have v4 := (q_stp_v (en_s7 (X := X)) v3).1
  have v5 := (q_stp_v (en_s8 (X := X)) v4).1
  have v6 := (q_stp_v (en_s11 (X := X)) v5).1
  have a2 : q_args (q_row 116).2.2.2.2.2.1 0 [.ref 2, .ref 2] = some ([.ref 2], [.ref 2]) := rfl
  have v7 := v_call a2 (bt_B X) v6
  have v8 := (q_stp_v (en_s15 (X := X) (M := zt_M1)) v7).1
  refine w_stp hF hC0 (show q_ins (q_row 351).2.2.2.2.2.2.2 0 = some (.new 8, 11, 0) from rfl) en_s0 en_V0 ⟨Nat.le_trans (by decide) r3, Nat.le_trans (by decide) r4⟩ ?_
  refine w_stp hF hC0 (show q_ins (q_row 351).2.2.2.2.2.2.2 3 = some (.dup, 0, 0) from rfl) en_s3 v1 ⟨Nat.le_trans (by decide) r3, Nat.le_trans (by decide) r4⟩ ?_
  refine w_call (d' := 9) (IH 20) hF hC0 (show q_ins (q_row 351).2.2.2.2.2.2.2 4 = some (.invokespecial 127, 170, 0) from rfl) rfl (by decide) a1 ⟨by decide, by rw [q_mt_len]; decide, by decide, by decide, rfl⟩ (en_170 X) v2 (Nat.le_trans (by decide) r1) (Nat.le_trans (by decide) r2) ⟨Nat.le_trans (by decide) r3, Nat.le_trans (by decide) r4⟩ ?_
  refine w_stp hF hC0 (show q_ins (q_row 351).2.2.2.2.2.2.2 7 = some (.astore_n 1, 0, 0) from rfl) en_s7 v3 ⟨Nat.le_trans (by decide) r3, Nat.le_trans (by decide) r4⟩ ?_
  refine w_stp hF hC0 (show q_ins (q_row 351).2.2.2.2.2.2.2 8 = some (.new 35, 10, 0) from rfl) en_s8 v4 ⟨Nat.le_trans (by decide) r3, Nat.le_trans (by decide) r4⟩ ?_
  refine w_stp hF hC0 (show q_ins (q_row 351).2.2.2.2.2.2.2 11 = some (.dup, 0, 0) from rfl) en_s11 v5 ⟨Nat.le_trans (by decide) r3, Nat.le_trans (by decide) r4⟩ ?_
  refine w_call (d' := 9) (IH zt_fu) hF hC0 (show q_ins (q_row 351).2.2.2.2.2.2.2 12 = some (.invokespecial 128, 116, 0) from rfl) rfl (by decide) a2 ⟨by decide, by rw [q_mt_len]; decide, by decide, by decide, rfl⟩ (bt_B X) v6 (Nat.le_trans (by decide) r1) (Nat.le_trans (by decide) r2) ⟨by rw [m2]; exact r3, by rw [m2]; exact r4⟩ ?_
  refine w_stp hF hC0 (show q_ins (q_row 351).2.2.2.2.2.2.2 15 = some (.astore_n 2, 0, 0) from rfl) en_s15 v7 ⟨by rw [m2]; exact r3, by rw [m2]; exact r4⟩ ?_
  exact k v8
/-- the same world, told in the order of the typed state -/
theorem en_place {ad : Nat → Nat} {H : Heap} {locs : List Loc} {ls : Array Slot} {nL : Nat} (hWd : q_Wd D tc A ad0 0 s ad H locs zt_M1.1) (hl : lv_has ls nL (q_tl ad [(2, .ref 2), (1, .ref 0), (0, .ref q_big)])) (hV : q_V [(2, .ref 2), (1, .ref 0), (0, .ref q_big)] [] zt_M1) : q_Wd D tc A ad0 0 s (fun j => ad (zt_iv j)) H locs (zt_M en_T en_S).1 ∧ lv_has ls nL (q_tl (fun j => ad (zt_iv j)) [(2, .ref 0), (1, .ref 163), (0, .ref q_big)]) ∧ q_V [(2, .ref 0), (1, .ref 163), (0, .ref q_big)] [] (zt_M en_T en_S) := by
  obtain ⟨N2, h1, h2, h3⟩ := bt_A.2.1
  obtain ⟨e1, e2, e3⟩ := en_M h3 h2
  rw [h1] at hWd hV
  have lA : (zt_A2 ++ N2).length = 165 := by rw [List.length_append, h2]; rfl
  obtain ⟨w1, w2, hP, hD, hS⟩ := hWd
  have bg : 165 ≤ q_big := Nat.le_of_ble_eq_true rfl
  have at' : ∀ (k : Nat) (q : Nat × va_E), (q_rz (fun j => ad (zt_iv j)) tc (zt_M en_T en_S).1)[k]? = some q → k < 165 ∧ (q_rz ad tc (zt_A2 ++ N2))[zt_iv k]? = some q := fun k q hq => by
    rw [q_rz_get, e3] at hq
    by_cases hk : k < 165
    · rw [if_pos hk] at hq
      refine ⟨hk, ?_⟩
      rw [q_rz_get]
      cases he : (zt_A2 ++ N2)[zt_iv k]? with
      | none => rw [he] at hq; cases hq
      | some e0 =>
        rw [he] at hq
        rw [← hq]
        show some (ad (zt_iv k), q_te ad tc e0) = some (ad (zt_iv k), q_te (fun j => ad (zt_iv j)) tc (zt_une e0))
        rw [te_rp]
    · rw [if_neg hk] at hq
      cases hq
  refine ⟨⟨fun i hi => ?_, Nat.zero_le _, fun k q hq => hP _ q (at' k q hq).2, ⟨fun i j p q hp hq hpq => ?_, fun k q hq => hD.2 _ q (at' k q hq).2⟩, hS⟩, ?_, ?_, q_vs_nil, fun e he => ?_⟩
  · have hi : q_big ≤ i := hi.resolve_left (Nat.not_lt_zero _)
    show ad (zt_iv i) = ad0 i
    rw [iv_bg hi]
    exact w1 i (Or.inr hi)
  · have a := at' i p hp
    have b := at' j q hq
    exact iv_in a.1 b.1 (hD.1 _ _ p q a.2 b.2 hpq)
  · have e4 : q_tl (fun j => ad (zt_iv j)) [(2, .ref 0), (1, .ref 163), (0, .ref q_big)] = q_tl ad [(2, .ref 2), (1, .ref 0), (0, .ref q_big)] := by
      show [(2, Value.ref (ad (zt_iv 0))), (1, Value.ref (ad (zt_iv 163))), (0, Value.ref (ad (zt_iv q_big)))] = [(2, Value.ref (ad 2)), (1, Value.ref (ad 0)), (0, Value.ref (ad q_big))]
      rw [iv_bg (Nat.le_refl q_big)]
      rfl
    rw [e4]
    exact hl
  · intro q hq
    rw [e1]
    simp only [List.mem_cons, List.not_mem_nil, or_false] at hq
    rcases hq with rfl | rfl | rfl
    · intro i hi; cases hi; exact Or.inl (by decide)
    · intro i hi; cases hi; exact Or.inl (by decide)
    · intro i hi; cases hi; exact Or.inr (Nat.le_refl _)
  · rw [e1]
    obtain ⟨k, hk⟩ := List.getElem?_of_mem he
    rw [e3] at hk
    split at hk
    · cases he0 : (zt_A2 ++ N2)[zt_iv k]? with
      | none => rw [he0] at hk; cases hk
      | some e0 =>
        rw [he0] at hk
        have : zt_une e0 = e := Option.some.inj hk
        rw [← this]
        have g := hV.2.2 e0 (List.mem_of_getElem? he0)
        dsimp only at g
        rw [lA] at g
        exact ve_un g
    · cases hk
end EH
