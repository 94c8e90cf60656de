/-! the mini-machine's reads, writes and makings, and the machine's -/
def q_aty (t : Nat) : FieldType := match t with
  | 0 => .int
  | 1 => .long
  | 2 => .byte
  | 3 => .byte
  | 4 => .byte
  | 5 => .object "FadingTrumps$Table"
  | _ => .object "FadingTrumps$Trick"
def q_tys (tc : Nat → ClassId) : List (ClassId × FieldType) := (List.range 7).map (fun t => (tc t, q_aty t))
theorem q_tys_get {tc : Nat → ClassId} {t : Nat} (h : t < 7) : (q_tys tc)[t]? = some (tc t, q_aty t) := by
  unfold q_tys
  rw [List.getElem?_map, List.getElem?_range h]
  rfl
theorem q_N_lt {a b : Nat} (h : b < q_N a) : a < 12 := by
  rcases Nat.lt_or_ge a 12 with z | z
  · exact z
  · obtain ⟨n, rfl⟩ : ∃ n, a = n + 12 := ⟨a - 12, by omega⟩
    exact absurd h (Nat.not_lt_zero b)
theorem q_cl_get {a : Nat} (h : a < 12) : q_cl[a]? = some (q_cn a, q_T a, q_N a) := by
  have : ∀ a, a < 12 → q_cl[a]? = some (q_cn a, q_T a, q_N a) := by
    intro a ha
    match a, ha with
    | 0, _ => rfl
    | 1, _ => rfl
    | 2, _ => rfl
    | 3, _ => rfl
    | 4, _ => rfl
    | 5, _ => rfl
    | 6, _ => rfl
    | 7, _ => rfl
    | 8, _ => rfl
    | 9, _ => rfl
    | 10, _ => rfl
    | 11, _ => rfl
    | n + 12, h => omega
  exact this a h
theorem q_ty_ok : ∀ a, a < 12 → ∀ k, k < q_N a → parseFieldDescriptor (q_T a k).2.2.1 = some (q_y a k) := by decide +kernel
theorem q_nm_ok : ∀ a, a < 12 → ∀ k, k < q_N a → ∀ j, j < q_N a → k ≠ j → (q_T a k).2.1 ≠ (q_T a j).2.1 := by decide +kernel
set_option maxRecDepth 100000 in
theorem q_in_ok : ∀ a, a < 12 → ∀ w ∈ u_ws (q_cn a) (q_T a) (q_N a), w ∈ q_Tw := by decide +kernel
set_option maxRecDepth 100000 in
theorem q_ins_ok : ∀ a, a < 12 → Cond.instantiable (q_cn a) (q_N a) ∈ q_Tw ∧ Cond.initialized (q_cn a) ∈ q_Tw := by decide +kernel
set_option maxRecDepth 100000 in
theorem q_arr_ok : ∀ t, t < 5 → Cond.arrayClass (q_aty t) ∈ q_Tw := by decide +kernel
theorem q_fl_mem {o i a b : Nat} (h : q_flp.any (fun x => decide (x.2 = (o, i, a, b))) = true) : q_fw o i a b ∈ q_Tw := by
  obtain ⟨x, hx, hd⟩ := List.any_eq_true.mp h
  have hd := of_decide_eq_true hd
  have := q_walk_Tw q_flp_ok (List.mem_map.mpr ⟨x, hx, rfl⟩)
  dsimp only at this
  rw [hd] at this
  exact this
theorem q_ml_mem {o i a : Nat} (h : q_mlp.any (fun x => decide (x.2 = (o, i, a))) = true) : Cond.methodLink (q_cn o) i (q_mn a) ∈ q_Tw := by
  obtain ⟨x, hx, hd⟩ := List.any_eq_true.mp h
  have hd := of_decide_eq_true hd
  have := q_walk_Tw q_mlp_ok (List.mem_map.mpr ⟨x, hx, rfl⟩)
  dsimp only at this
  rw [hd] at this
  exact this
theorem q_kl_mem {o i a : Nat} (h : q_klp.any (fun x => decide (x.2 = (o, i, a))) = true) : Cond.classLink (q_cn o) i (q_kn a) ∈ q_Tw := by
  obtain ⟨x, hx, hd⟩ := List.any_eq_true.mp h
  have hd := of_decide_eq_true hd
  have := q_walk_Tw q_klp_ok (List.mem_map.mpr ⟨x, hx, rfl⟩)
  dsimp only at this
  rw [hd] at this
  exact this
theorem q_ci_mem {o i b : Nat} (h : q_cip.any (fun x => decide (x.2 = (o, i, b))) = true) : Cond.constant (q_cn o) i (Int32.ofNat b) ∈ q_Tw := by
  obtain ⟨x, hx, hd⟩ := List.any_eq_true.mp h
  have hd := of_decide_eq_true hd
  have := q_walk_Tw q_cip_ok (List.mem_map.mpr ⟨x, hx, rfl⟩)
  dsimp only at this
  rw [hd] at this
  exact this
theorem q_cl_mem {o i b : Nat} (h : q_clp.any (fun x => decide (x.2 = (o, i, b))) = true) : Cond.constantLong (q_cn o) i (Int64.ofNat b) ∈ q_Tw := by
  obtain ⟨x, hx, hd⟩ := List.any_eq_true.mp h
  have hd := of_decide_eq_true hd
  have := q_walk_Tw q_clp_ok (List.mem_map.mpr ⟨x, hx, rfl⟩)
  dsimp only at this
  rw [hd] at this
  exact this
theorem q_tv_rf (ad : Nat → Nat) (r : Option Nat) : q_tv ad (va_rf r) = va_rf (r.map ad) := by cases r <;> rfl
theorem q_te_i (ad : Nat → Nat) (tc : Nat → ClassId) (t n : Nat) (x : (Nat → Int32) ⊕ (Nat → Int64) ⊕ (Nat → UInt32) ⊕ (Nat → UInt64) ⊕ (Nat → Option Nat)) : ∃ x', q_te ad tc (.inl (t, n, x)) = .inl (tc t, n, x') := by
  rcases x with f | f | f | f | g
  · exact ⟨_, rfl⟩
  · exact ⟨_, rfl⟩
  · exact ⟨_, rfl⟩
  · exact ⟨_, rfl⟩
  · exact ⟨_, rfl⟩
section QH
variable {p : Program} {l : Launch} {e : Env} {R : Room} {s : State} {m : MethodId} {args : Array Value} {below : List Frame} {meth : Method} {c : Code} {H : Heap} {locs : List Loc} {cells slots : Nat} {Q : State → Prop}
variable {cc : ByteArray} {D : va_G} {tc : Nat → ClassId} {A : Nat → Prop} {ad : Nat → Nat} {M : List va_E} {o a b pc pc' : Nat} {i : Instr} {st st' : List Value} {ls : Array Slot}
set_option maxHeartbeats 4000000 in
theorem q_p2_ok (hx : p.tables.exec = Jvm.exec) (hb : c.code = cc) {X : q_X} (h : q_p2 X M i a b pc st = some (pc', st')) (hdg : decode cc pc = .ok (i, q_len i b)) (hts : ∀ w ∈ q_Tw, w.before args s = true) (hlk : q_eok o (pc, i, a, b) = true) (hown : s.vm.findClass (q_cn o) = some m.cls)
    (hK : va_K D q_cl (q_tys tc) s) (hP : va_P D q_cl (q_rz ad tc M) H) (hS : va_S A s.heap H locs) (hX : va_X (ad q_big) X.1 X.2 s s.heap) (hbl : ad q_big < s.heap.size) (hbA : ¬ A (ad q_big))
    (k : W p l e R s m args below meth c H locs cells slots Q (F0 m pc' ls (q_ts ad st'))) : W p l e R s m args below meth c H locs cells slots Q (F0 m pc ls (q_ts ad st)) := by
  unfold q_p2 at h
  split at h
  · split at h
    · rename_i id r
      split at h
      · rename_i ci fs hat
        split at h
        · rename_i hc
          obtain ⟨rfl, hbN⟩ := hc
          split at h
          · rename_i v hv
            cases h
            have ha := q_N_lt hbN
            exact va_get hx hb hts (q_in_ok _ ha) hown hK hP id (q_rz_at hat) (q_cl_get ha) b hbN (hts _ (q_fl_mem hlk)) (fun _ z => z) (v := q_tv ad v) (by rw [List.getElem?_map, hv]; rfl) hdg k
          · cases h
        · cases h
      · cases h
    · cases h
  · split at h
    · rename_i j id r
      split at h
      · rename_i hid
        subst hid
        split at h
        · cases h
        · rename_i hin
          cases h
          exact va_sld hx hb hX hbl hbA hS hin hdg k
      · split at h
        · rename_i t n f hat
          split at h
          · rename_i hc
            obtain ⟨rfl, hin⟩ := hc
            cases h
            exact va_iald hx hb hK hP id 0 (q_rz_at hat) (q_tys_get (by decide)) hin hdg k
          · cases h
        · cases h
    · cases h
  · split at h
    · rename_i j id r
      split at h
      · rename_i t n f hat
        split at h
        · rename_i hc
          obtain ⟨ht, hin⟩ := hc
          cases h
          subst ht
          exact va_bald hx hb hK hP id 2 (q_rz_at hat) (q_tys_get (by decide)) hin hdg k
        · cases h
      · cases h
    · cases h
  · split at h
    · rename_i j id r
      split at h
      · rename_i t n f hat
        split at h
        · rename_i hc
          obtain ⟨rfl, hin⟩ := hc
          cases h
          exact va_lald hx hb hK hP id 1 (q_rz_at hat) (q_tys_get (by decide)) hin hdg k
        · cases h
      · cases h
    · cases h
  · split at h
    · rename_i j id r
      split at h
      · rename_i t n f hat
        split at h
        · rename_i hc
          obtain ⟨ht, hin⟩ := hc
          cases h
          have k : W p l e R s m args below meth c H locs cells slots Q (F0 m (pc + 1) ls (va_rf ((f j.toNatClampNeg).map ad) :: q_ts ad r)) := by
            rw [← q_tv_rf]; exact k
          rcases ht with rfl | rfl
          · exact va_aldq (C := "FadingTrumps$Table") hx hb hK hP id 5 (q_rz_at hat) (q_tys_get (by decide)) hin hdg k
          · exact va_aldq (C := "FadingTrumps$Trick") hx hb hK hP id 6 (q_rz_at hat) (q_tys_get (by decide)) hin hdg k
        · cases h
      · cases h
    · cases h
  · split at h
    · rename_i id r
      split at h
      · rename_i hid
        subst hid
        cases h
        exact va_slen hx hb hX hbl hbA hS hdg k
      · split at h
        · rename_i t n x hat
          split at h
          · rename_i ht
            cases h
            obtain ⟨x', hx'⟩ := q_te_i ad tc t n x
            have hw := q_rz_at (ad := ad) (tc := tc) hat
            rw [hx'] at hw
            exact va_alen hx hb hK hP id t hw (q_tys_get ht) rfl hdg k
          · cases h
        · cases h
    · cases h
  · cases h
set_option maxHeartbeats 4000000 in
theorem q_p3_ok (hx : p.tables.exec = Jvm.exec) (hb : c.code = cc) {init : Bool} {M' : List va_E} (h : q_p3 o init M i a b pc st = some (pc', st', M')) (hdg : decode cc pc = .ok (i, q_len i b)) (hts : ∀ w ∈ q_Tw, w.before args s = true) (hlk : q_eok o (pc, i, a, b) = true) (hown : s.vm.findClass (q_cn o) = some m.cls) (hinit : init = true → meth.name = "<init>")
    (hK : va_K D q_cl (q_tys tc) s) (hP : va_P D q_cl (q_rz ad tc M) H) (hD : va_D A (q_rz ad tc M)) (hS : va_S A s.heap H locs)
    (k : ∀ (H1 : Heap) (locs1 : List Loc), va_P D q_cl (q_rz ad tc M') H1 → va_D A (q_rz ad tc M') → va_S A s.heap H1 locs1 → W p l e R s m args below meth c H1 locs1 cells slots Q (F0 m pc' ls (q_ts ad st'))) : W p l e R s m args below meth c H locs cells slots Q (F0 m pc ls (q_ts ad st)) := by
  unfold q_p3 at h
  split at h
  · split at h
    · rename_i v id r
      split at h
      · rename_i ci fs hat
        split at h
        · rename_i hc
          obtain ⟨rfl, hbN, hbl, hn, hf, hfin⟩ := hc
          cases h
          have ha := q_N_lt hbN
          have hrs : (q_rz ad tc M).set id (ad id, .inr (ci, (fs.map (q_tv ad)).set b (q_tv ad v))) = q_rz ad tc (M.set id (.inr (ci, fs.set b v))) := by
            rw [← q_rz_set]
            show _ = (q_rz ad tc M).set id (ad id, .inr (ci, (fs.set b v).map (q_tv ad)))
            rw [List.map_set]
          unfold q_fin at hfin
          rw [Bool.or_eq_true] at hfin
          have hfin' : (q_T ci b).2.2.2 = false ∨ ((q_T ci b).2.2.2 = true ∧ init = true ∧ (q_T ci b).1 = q_cn o) := by
            cases hz : (q_T ci b).2.2.2 with
            | false => exact Or.inl rfl
            | true =>
              rw [hz] at hfin
              simp only [Bool.not_true, Bool.false_eq_true, false_or, Bool.and_eq_true, decide_eq_true_eq] at hfin
              exact Or.inr ⟨rfl, hfin⟩
          rcases hfin' with hz | ⟨hz, hi, hd⟩
          · exact va_put hx hb hts (q_in_ok _ ha) (q_y ci) (q_ty_ok _ ha) (q_nm_ok _ ha) hown hK hP hD hS id (q_rz_at hat) (q_cl_get ha) b hbN (hts _ (q_fl_mem hlk)) (fun _ z => z) hz (q_ty_ok _ ha _ hbN) (q_tv_narrow hn) (q_tv_fits hf) (by simpa using hbl) hdg (fun H1 locs1 h1 h2 h3 => k H1 locs1 (by rw [← hrs]; exact h1) (by rw [← hrs]; exact h2) h3)
          · exact va_putF hx hb hts (q_in_ok _ ha) (q_y ci) (q_ty_ok _ ha) (q_nm_ok _ ha) hown hK hP hD hS id (q_rz_at hat) (q_cl_get ha) b hbN (hts _ (q_fl_mem hlk)) (fun _ z => z) hz (hinit hi) hd (q_ty_ok _ ha _ hbN) (q_tv_narrow hn) (q_tv_fits hf) (by simpa using hbl) hdg (fun H1 locs1 h1 h2 h3 => k H1 locs1 (by rw [← hrs]; exact h1) (by rw [← hrs]; exact h2) h3)
        · cases h
      · cases h
    · cases h
  · split at h
    · rename_i x j id r
      split at h
      · rename_i t n f hat
        split at h
        · rename_i hc
          obtain ⟨rfl, hin⟩ := hc
          cases h
          exact va_iast hx hb hK hP hD hS id 0 (q_rz_at hat) (q_tys_get (by decide)) hin hdg (fun H1 locs1 h1 h2 h3 => k H1 locs1 (by rw [← q_rz_set]; exact h1) (by rw [← q_rz_set]; exact h2) h3)
        · cases h
      · cases h
    · cases h
  · split at h
    · rename_i x j id r
      split at h
      · rename_i t n f hat
        split at h
        · rename_i hin
          split at h
          · rename_i ht
            subst ht
            cases h
            exact va_bast hx hb hK hP hD hS id 2 (q_rz_at hat) (q_tys_get (by decide)) hin hdg (fun H1 locs1 h1 h2 h3 => k H1 locs1 (by rw [← q_rz_set]; exact h1) (by rw [← q_rz_set]; exact h2) h3)
          · cases h
        · cases h
      · cases h
    · cases h
  · split at h
    · rename_i x j id r
      split at h
      · rename_i t n f hat
        split at h
        · rename_i hc
          obtain ⟨rfl, hin⟩ := hc
          cases h
          exact va_last hx hb hK hP hD hS id 1 (q_rz_at hat) (q_tys_get (by decide)) hin hdg (fun H1 locs1 h1 h2 h3 => k H1 locs1 (by rw [← q_rz_set]; exact h1) (by rw [← q_rz_set]; exact h2) h3)
        · cases h
      · cases h
    · cases h
  · split at h
    · rename_i v j id r
      split at h
      · rename_i t n f ci fs hat hatv
        split at h
        · rename_i hc
          obtain ⟨ht, hin⟩ := hc
          cases h
          have hrs : ∀ (t : Nat), (q_rz ad tc M).set id (ad id, .inl (tc t, n, .inr (.inr (.inr (.inr (va_up (fun j => (f j).map ad) j.toNatClampNeg (some (ad v)))))))) = q_rz ad tc (M.set id (.inl (t, n, .inr (.inr (.inr (.inr (va_up f j.toNatClampNeg (some v)))))))) := by
            intro t
            rw [← q_rz_set]
            show _ = (q_rz ad tc M).set id (ad id, .inl (tc t, n, .inr (.inr (.inr (.inr (fun z => (va_up f j.toNatClampNeg (some v) z).map ad))))))
            have e9 : va_up (fun j => (f j).map ad) j.toNatClampNeg (some (ad v)) = (fun z => (va_up f j.toNatClampNeg (some v) z).map ad) := by
              funext z
              unfold va_up
              split <;> rfl
            rw [e9]
          rcases ht with ⟨rfl, rfl⟩ | ⟨rfl, rfl⟩
          · exact va_astq (r := (q_cn 6, q_T 6, q_N 6)) hx hb hK hP hD hS id 5 v 6 (q_rz_at hat) (q_tys_get (by decide)) (q_rz_at hatv) (q_cl_get (by decide)) hin hdg (fun H1 locs1 h1 h2 h3 => k H1 locs1 (by rw [← hrs]; exact h1) (by rw [← hrs]; exact h2) h3)
          · exact va_astq (r := (q_cn 9, q_T 9, q_N 9)) hx hb hK hP hD hS id 6 v 9 (q_rz_at hat) (q_tys_get (by decide)) (q_rz_at hatv) (q_cl_get (by decide)) hin hdg (fun H1 locs1 h1 h2 h3 => k H1 locs1 (by rw [← hrs]; exact h1) (by rw [← hrs]; exact h2) h3)
        · cases h
      · cases h
    · cases h
  · cases h
end QH
