/-! makings, constants of the pool, one instruction whole -/
theorem q_kn_lt {a : Nat} (h : a < 12) : q_kn a = q_cn a := by
  match a, h with
  | 0, _ => rfl
  | 1, _ => rfl
  | 2, _ => rfl
  | 3, _ => rfl
  | 4, _ => rfl
  | 5, _ => rfl
  | 6, _ => rfl
  | 7, _ => rfl
  | 8, _ => rfl
  | 9, _ => rfl
  | 10, _ => rfl
  | 11, _ => rfl
  | n + 12, h => omega
theorem q_tv_df (ad : Nat → Nat) (ty : FieldType) : q_tv ad (defaultValue ty) = defaultValue ty := by cases ty <;> rfl
theorem q_df_V (a j : Nat) (h : j < q_N a) : defaultValue (q_y a j) = vp_V ((List.range (q_N a)).map (fun j => defaultValue (q_y a j))) j := by
  unfold vp_V
  rw [List.getD_eq_getElem?_getD, List.getElem?_map, List.getElem?_range h]
  rfl
theorem q_df_map (ad : Nat → Nat) (a : Nat) : ((List.range (q_N a)).map (fun j => defaultValue (q_y a j))).map (q_tv ad) = (List.range (q_N a)).map (fun j => defaultValue (q_y a j)) := by
  rw [List.map_map]
  exact List.map_congr_left (fun j _ => q_tv_df ad _)
theorem q_cA {D : va_G} {cl : List vw_C} {tc : Nat → ClassId} {s : State} {cA : ClassId} {t : Nat} (ht : t < 7) (hK : va_K D cl (q_tys tc) s) (hK' : va_K D cl (q_tys tc ++ [(cA, q_aty t)]) s) : cA = tc t := by
  have h1 := (hK.2 t _ (q_tys_get ht)).2
  have hlen : (q_tys tc).length = 7 := by simp [q_tys]
  have h2 := (hK'.2 7 (cA, q_aty t) (by rw [List.getElem?_append_right (by rw [hlen]; exact Nat.le_refl _), hlen]; rfl)).2
  dsimp only at h1 h2
  match t, ht, h1, h2 with
  | 0, _, h1, h2 => exact Option.some.inj (h2.symm.trans h1)
  | 1, _, h1, h2 => exact Option.some.inj (h2.symm.trans h1)
  | 2, _, h1, h2 => exact Option.some.inj (h2.symm.trans h1)
  | 3, _, h1, h2 => exact Option.some.inj (h2.symm.trans h1)
  | 4, _, h1, h2 => exact Option.some.inj (h2.symm.trans h1)
  | 5, _, h1, h2 =>
    obtain ⟨_, _, _, _, _, g1⟩ := h1
    obtain ⟨_, _, _, _, _, g2⟩ := h2
    exact Option.some.inj (g2.symm.trans g1)
  | 6, _, h1, h2 =>
    obtain ⟨_, _, _, _, _, g1⟩ := h1
    obtain ⟨_, _, _, _, _, g2⟩ := h2
    exact Option.some.inj (g2.symm.trans g1)
  | n + 7, h, _, _ => omega
section QMk
variable {p : Program} {l : Launch} {e : Env} {R : Room} {s : State} {m : MethodId} {args : Array Value} {below : List Frame} {meth : Method} {c : Code} {H : Heap} {locs : List Loc} {cells slots : Nat} {Q : State → Prop}
variable {cc : ByteArray} {D : va_G} {tc : Nat → ClassId} {A : Nat → Prop} {ad : Nat → Nat} {M : List va_E} {o a b pc pc' : Nat} {i : Instr} {st st' : List Value} {ls : Array Slot}
set_option maxHeartbeats 4000000 in
theorem q_p4_ok (hx : p.tables.exec = Jvm.exec) (hb : c.code = cc) {en : va_E} {n : Nat} (h : q_p4 i a pc st = some (pc', st', en, n)) (hdg : decode cc pc = .ok (i, q_len i b)) (hts : ∀ w ∈ q_Tw, w.before args s = true) (hlk : q_eok o (pc, i, a, b) = true) (hown : s.vm.findClass (q_cn o) = some m.cls)
    (hK : va_K D q_cl (q_tys tc) s) (hP : va_P D q_cl (q_rz ad tc M) H) (hD : va_D A (q_rz ad tc M)) (hS : va_S A s.heap H locs) (hA : ∀ q, s.heap.size ≤ q → A q) (hAO : va_AO "FadingTrumps$Table" s ∧ va_AO "FadingTrumps$Trick" s) (hv : q_vM M) (hM : M.length < q_big) (hcells : cells + 1 ≤ R.cells) (hslots : slots + n ≤ R.slots)
    (k : ∀ (q : Nat) (H1 : Heap), q_ve M.length en → va_P D q_cl (q_rz (q_ext ad M.length q) tc (M ++ [en])) H1 → va_D A (q_rz (q_ext ad M.length q) tc (M ++ [en])) → va_S A s.heap H1 locs → W p l e R s m args below meth c H1 locs (cells + 1) (slots + n) Q (F0 m pc' ls (.ref q :: q_ts ad st'))) : W p l e R s m args below meth c H locs cells slots Q (F0 m pc ls (q_ts ad st)) := by
  unfold q_p4 at h
  split at h
  · split at h
    · rename_i ha
      cases h
      have hkl := q_kl_mem hlk
      dsimp only at hkl
      rw [q_kn_lt ha] at hkl
      have hve : q_ve M.length (.inr (a, (List.range (q_N a)).map (fun j => defaultValue (q_y a j)))) := by
        intro v hv0 i hi
        obtain ⟨j, -, hj⟩ := List.mem_map.mp hv0
        rw [← hj] at hi
        cases hq : q_y a j <;> rw [hq] at hi <;> cases hi
      refine va_new (ci := a) (fs := (List.range (q_N a)).map (fun j => defaultValue (q_y a j))) hx hb hts (q_in_ok _ ha) (q_y a) (q_ty_ok _ ha) hown (hts _ hkl) (hts _ (q_ins_ok a ha).1) (hts _ (q_ins_ok a ha).2) hK hP hD hS hA (q_cl_get ha) (fun j hj => q_df_V a j hj) hcells hslots hdg (fun q H1 h1 h2 h3 => ?_)
      have e1 : (q, (.inr (a, (List.range (q_N a)).map (fun j => defaultValue (q_y a j))) : va_E)) = (q, q_te ad tc (.inr (a, (List.range (q_N a)).map (fun j => defaultValue (q_y a j))))) := by
        show _ = (q, (.inr (a, _) : va_E))
        rw [q_df_map]
      rw [e1, q_rz_push hv hve hM] at h1 h2
      exact k q H1 hve h1 h2 h3
    · cases h
  · rename_i t
    split at h
    · rename_i n0 r
      split at h
      · cases h
      · rename_i hn
        obtain ⟨e0, he0, hz⟩ := Option.map_eq_some_iff.mp h
        cases hz
        have hn0 : ¬ n0 < 0 := fun z => hn (Or.inl z)
        have hn1 : n0.toNatClampNeg ≤ 20000 := Nat.not_lt.mp (fun z => hn (Or.inr z))
        have key : ∀ (t0 : Nat) (a0 : vp_A), t0 < 7 → q_ve M.length (.inl (t0, a0)) → (∀ cA : ClassId, q_te ad tc (.inl (t0, a0)) = .inl (tc t0, a0)) → ∀ (q : Nat) (cA : ClassId) (H1 : Heap), va_K D q_cl (q_tys tc ++ [(cA, q_aty t0)]) s → va_P D q_cl (q_rz ad tc M ++ [(q, .inl (cA, a0))]) H1 → va_D A (q_rz ad tc M ++ [(q, .inl (cA, a0))]) → va_P D q_cl (q_rz (q_ext ad M.length q) tc (M ++ [.inl (t0, a0)])) H1 ∧ va_D A (q_rz (q_ext ad M.length q) tc (M ++ [.inl (t0, a0)])) := by
          intro t0 a0 ht0 hve hte q cA H1 hK1 hP1 hD1
          rw [q_cA ht0 hK hK1, ← hte 0, q_rz_push hv hve hM] at hP1 hD1
          exact ⟨hP1, hD1⟩
        cases t with
        | int =>
          cases he0
          refine va_newa (atype := .int) (ty := .int) (a0 := (n0.toNatClampNeg, .inl (fun _ => 0))) hx hb (hts _ (q_arr_ok 0 (by decide))) rfl hK hP hD hS hA (fun cA => rfl) hn0 rfl (by show _ * 4 ≤ _; omega) hcells hslots hdg (fun q cA H1 g1 g2 g3 g4 => ?_)
          obtain ⟨z1, z2⟩ := key 0 (n0.toNatClampNeg, .inl (fun _ => 0)) (by decide) trivial (fun _ => rfl) q cA H1 g1 g2 g3
          exact k q H1 trivial z1 z2 g4
        | long =>
          cases he0
          refine va_newa (atype := .long) (ty := .long) (a0 := (n0.toNatClampNeg, .inr (.inl (fun _ => 0)))) hx hb (hts _ (q_arr_ok 1 (by decide))) rfl hK hP hD hS hA (fun cA => rfl) hn0 rfl (by show _ * 8 ≤ _; omega) hcells hslots hdg (fun q cA H1 g1 g2 g3 g4 => ?_)
          obtain ⟨z1, z2⟩ := key 1 (n0.toNatClampNeg, .inr (.inl (fun _ => 0))) (by decide) trivial (fun _ => rfl) q cA H1 g1 g2 g3
          exact k q H1 trivial z1 z2 g4
        | byte =>
          cases he0
          refine va_newa (atype := .byte) (ty := .byte) (a0 := (n0.toNatClampNeg, .inl (fun _ => 0))) hx hb (hts _ (q_arr_ok 2 (by decide))) rfl hK hP hD hS hA (fun cA => rfl) hn0 rfl (by show _ * 1 ≤ _; omega) hcells hslots hdg (fun q cA H1 g1 g2 g3 g4 => ?_)
          obtain ⟨z1, z2⟩ := key 2 (n0.toNatClampNeg, .inl (fun _ => 0)) (by decide) trivial (fun _ => rfl) q cA H1 g1 g2 g3
          exact k q H1 trivial z1 z2 g4
        | _ => cases he0
    · cases h
  · split at h
    · rename_i idx n0 r
      split at h
      · cases h
      · rename_i hn
        have hn0 : ¬ n0 < 0 := fun z => hn (Or.inl z)
        have hn1 : n0.toNatClampNeg ≤ 20000 := Nat.not_lt.mp (fun z => hn (Or.inr z))
        split at h
        · rename_i ha
          cases h
          have hve : ∀ t : Nat, q_ve M.length (.inl (t, n0.toNatClampNeg, .inr (.inr (.inr (.inr (fun _ => none)))))) := fun t j i hi => by cases hi
          have hkl := q_kl_mem hlk
          dsimp only at hkl
          rcases ha with rfl | rfl
          · refine va_newq (C := "FadingTrumps$Table") hx hb hown (hts _ hkl) hAO.1 hK hP hD hS hA hn0 rfl (by omega) hcells hslots hdg (fun q cA H1 g1 g2 g3 g4 => ?_)
            rw [q_cA (t := 5) (by decide) hK g1] at g2 g3
            have e1 : (q, (.inl (tc 5, n0.toNatClampNeg, .inr (.inr (.inr (.inr (fun _ => none))))) : va_E)) = (q, q_te ad tc (.inl (5, n0.toNatClampNeg, .inr (.inr (.inr (.inr (fun _ => none))))))) := rfl
            rw [e1, q_rz_push hv (hve 5) hM] at g2 g3
            exact k q H1 (hve 5) g2 g3 g4
          · refine va_newq (C := "FadingTrumps$Trick") hx hb hown (hts _ hkl) hAO.2 hK hP hD hS hA hn0 rfl (by omega) hcells hslots hdg (fun q cA H1 g1 g2 g3 g4 => ?_)
            rw [q_cA (t := 6) (by decide) hK g1] at g2 g3
            have e1 : (q, (.inl (tc 6, n0.toNatClampNeg, .inr (.inr (.inr (.inr (fun _ => none))))) : va_E)) = (q, q_te ad tc (.inl (6, n0.toNatClampNeg, .inr (.inr (.inr (.inr (fun _ => none))))))) := rfl
            rw [e1, q_rz_push hv (hve 6) hM] at g2 g3
            exact k q H1 (hve 6) g2 g3 g4
        · cases h
    · cases h
  · cases h
/-- the String constants of the class files lie where ad says -/
def q_St (ad : Nat → Nat) (s : State) : Prop := ∀ b : Nat, b < q_sc.length → vk_R (q_sc.getD b default).1 (q_sc.getD b default).2.1 (q_sc.getD b default).2.2.1 (ad (q_big + 1 + b)) s
theorem q_pk_ok (hx : p.tables.exec = Jvm.exec) (hb : c.code = cc) (h : q_pk i a b pc st = some (pc', st')) (hdg : decode cc pc = .ok (i, q_len i b)) (hts : ∀ w ∈ q_Tw, w.before args s = true) (hlk : q_eok o (pc, i, a, b) = true) (hown : s.vm.findClass (q_cn o) = some m.cls) (hZ : q_St ad s)
    (k : W p l e R s m args below meth c H locs cells slots Q (F0 m pc' ls (q_ts ad st'))) : W p l e R s m args below meth c H locs cells slots Q (F0 m pc ls (q_ts ad st)) := by
  unfold q_pk at h
  split at h
  · split at h
    · rename_i idx ha
      subst ha
      cases h
      exact lv_ldc hx hb hown (hts _ (q_ci_mem hlk)) hdg k
    · rename_i idx ha
      cases h
      have hlk2 : decide (b < q_sc.length ∧ (q_sc.getD b default).1 = q_cn o ∧ (q_sc.getD b default).2.1 = idx) = true := by
        have h9 : (if a = 0 then q_cip.any (fun x => decide (x.2 = (o, idx, b))) else decide (b < q_sc.length ∧ (q_sc.getD b default).1 = q_cn o ∧ (q_sc.getD b default).2.1 = idx)) = true := hlk
        rw [if_neg ha] at h9
        exact h9
      obtain ⟨h1, h2, h3⟩ := of_decide_eq_true hlk2
      have hz := hZ b h1
      rw [h2, h3] at hz
      exact va_ldcS hx hb hown hz hdg k
  · split at h
    · rename_i idx ha
      subst ha
      cases h
      exact lv_ldcw hx hb hown (hts _ (q_ci_mem hlk)) hdg k
    · cases h
  · cases h
    exact lv_ldc2 hx hb hown (hts _ (q_cl_mem hlk)) hdg k
  · cases h
set_option maxHeartbeats 4000000 in
/-- one instruction -/
theorem q_stp_ok (hx : p.tables.exec = Jvm.exec) (hb : c.code = cc) {X : q_X} {init : Bool} {nL : Nat} {lv lv' : q_L} {Mw Mw' : q_M} (h : q_stp X o init nL i a b pc lv st Mw = some (pc', lv', st', Mw')) (hdg : decode cc pc = .ok (i, q_len i b)) (hts : ∀ w ∈ q_Tw, w.before args s = true) (hlk : q_eok o (pc, i, a, b) = true) (hbr : q_br i a pc = true) (hown : s.vm.findClass (q_cn o) = some m.cls) (hinit : init = true → meth.name = "<init>") (hZ : q_St ad s)
    (hK : va_K D q_cl (q_tys tc) s) (hP : va_P D q_cl (q_rz ad tc Mw.1) H) (hD : va_D A (q_rz ad tc Mw.1)) (hS : va_S A s.heap H locs) (hA : ∀ q, s.heap.size ≤ q → A q) (hX : va_X (ad q_big) X.1 X.2 s s.heap) (hbl : ad q_big < s.heap.size) (hbA : ¬ A (ad q_big)) (hAO : va_AO "FadingTrumps$Table" s ∧ va_AO "FadingTrumps$Trick" s)
    (hv : q_vM Mw.1) (hvs : q_vs Mw.1.length st) (hvl : q_vl Mw.1.length lv) (hl : lv_has ls nL (q_tl ad lv)) (hR1 : Mw'.2.1 + cells ≤ R.cells + Mw.2.1) (hR2 : Mw'.2.2 + slots ≤ R.slots + Mw.2.2)
    (k : ∀ (ad' : Nat → Nat) (H1 : Heap) (locs1 : List Loc) (ls' : Array Slot) (cells' slots' : Nat), q_ag Mw.1.length ad ad' → cells' + Mw.2.1 = cells + Mw'.2.1 → slots' + Mw.2.2 = slots + Mw'.2.2 → lv_has ls' nL (q_tl ad' lv') → va_P D q_cl (q_rz ad' tc Mw'.1) H1 → va_D A (q_rz ad' tc Mw'.1) → va_S A s.heap H1 locs1 →
      W p l e R s m args below meth c H1 locs1 cells' slots' Q (F0 m pc' ls' (q_ts ad' st'))) : W p l e R s m args below meth c H locs cells slots Q (F0 m pc ls (q_ts ad st)) := by
  unfold q_stp at h
  split at h
  · rename_i hq
    cases h
    exact q_p1_ok hx hb hq hdg hbr hl (fun ls' hl' => k ad H locs ls' cells slots q_ag.rf rfl rfl hl' hP hD hS)
  · split at h
    · rename_i hq
      cases h
      exact q_pk_ok hx hb hq hdg hts hlk hown hZ (k ad H locs ls cells slots q_ag.rf rfl rfl hl hP hD hS)
    · split at h
      · rename_i hq
        cases h
        exact q_p2_ok hx hb hq hdg hts hlk hown hK hP hS hX hbl hbA (k ad H locs ls cells slots q_ag.rf rfl rfl hl hP hD hS)
      · split at h
        · rename_i hq
          cases h
          exact q_p3_ok hx hb hq hdg hts hlk hown hinit hK hP hD hS (fun H1 locs1 g1 g2 g3 => k ad H1 locs1 ls cells slots q_ag.rf rfl rfl hl g1 g2 g3)
        · split at h
          · rename_i pc9 st9 en n hq
            split at h
            · rename_i hM
              cases h
              dsimp only at hR1 hR2
              refine q_p4_ok hx hb hq hdg hts hlk hown hK hP hD hS hA hAO hv hM (by omega) (by omega) (fun q H1 hve g1 g2 g3 => ?_)
              have hag := q_ext_ag (ad := ad) (q := q) hM
              have hst : q_vs Mw.1.length st9 := q_p4_v hq hvs
              have kk := k (q_ext ad Mw.1.length q) H1 locs ls (cells + 1) (slots + n) hag (by dsimp only; omega) (by dsimp only; omega) (by rw [q_tl_ag hag hvl]; exact hl) g1 g2 g3
              have e1 : q_ts (q_ext ad Mw.1.length q) (.ref Mw.1.length :: st9) = .ref q :: q_ts ad st9 := by
                show Value.ref (q_ext ad Mw.1.length q Mw.1.length) :: q_ts _ _ = _
                rw [q_ts_ag hag hst]
                unfold q_ext
                rw [if_pos rfl]
              rw [e1] at kk
              exact kk
            · cases h
          · cases h
end QMk
