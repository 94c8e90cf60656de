/-! THE TYPED STATE: ints, longs, doubles by cell and place, exceptions made; the shape of the heap behind the constructors (by program) -/
abbrev zt_S : Type := (Nat → Int → Int) × (Nat → Int → Int64) × (Int → UInt64) × Nat
abbrev zt_K : Type := (Nat × Nat) ⊕ (Nat × List Nat)
def zt_sh : List zt_K := [.inr (10, [3, 0, 4, 5, 6, 8, 18, 120, 0, 130, 142, 146, 163]),
  .inl (2, 500),
  .inr (8, [3, 0, 0, 0, 0, 0, 0, 0]),
  .inr (4, [0, 0, 0, 0]),
  .inr (2, [7]),
  .inl (0, 52),
  .inr (6, [5, 9, 10, 11, 12, 13, 14, 15, 16, 17, 1, 0, 0, 0, 0, 0, 0, 0, 0]),
  .inr (9, [0, 0, 0, 0, 0, 0, 0, 0, 0]),
  .inl (1, 4),
  .inl (0, 4),
  .inl (0, 4),
  .inl (0, 4),
  .inl (0, 4),
  .inl (0, 52),
  .inl (0, 52),
  .inl (0, 78),
  .inr (1, [19, 0, 0]),
  .inl (5, 10),
  .inr (6, [5, 21, 22, 23, 24, 25, 26, 27, 28, 29, 1, 0, 0, 0, 0, 0, 0, 0, 0]),
  .inr (9, [0, 0, 0, 0, 0, 0, 0, 0, 0]),
  .inl (1, 4),
  .inl (0, 4),
  .inl (0, 4),
  .inl (0, 4),
  .inl (0, 4),
  .inl (0, 52),
  .inl (0, 52),
  .inl (0, 78),
  .inr (6, [5, 31, 32, 33, 34, 35, 36, 37, 38, 39, 1, 0, 0, 0, 0, 0, 0, 0, 0]),
  .inr (9, [0, 0, 0, 0, 0, 0, 0, 0, 0]),
  .inl (1, 4),
  .inl (0, 4),
  .inl (0, 4),
  .inl (0, 4),
  .inl (0, 4),
  .inl (0, 52),
  .inl (0, 52),
  .inl (0, 78),
  .inr (6, [5, 41, 42, 43, 44, 45, 46, 47, 48, 49, 1, 0, 0, 0, 0, 0, 0, 0, 0]),
  .inr (9, [0, 0, 0, 0, 0, 0, 0, 0, 0]),
  .inl (1, 4),
  .inl (0, 4),
  .inl (0, 4),
  .inl (0, 4),
  .inl (0, 4),
  .inl (0, 52),
  .inl (0, 52),
  .inl (0, 78),
  .inr (6, [5, 51, 52, 53, 54, 55, 56, 57, 58, 59, 1, 0, 0, 0, 0, 0, 0, 0, 0]),
  .inr (9, [0, 0, 0, 0, 0, 0, 0, 0, 0]),
  .inl (1, 4),
  .inl (0, 4),
  .inl (0, 4),
  .inl (0, 4),
  .inl (0, 4),
  .inl (0, 52),
  .inl (0, 52),
  .inl (0, 78),
  .inr (6, [5, 61, 62, 63, 64, 65, 66, 67, 68, 69, 1, 0, 0, 0, 0, 0, 0, 0, 0]),
  .inr (9, [0, 0, 0, 0, 0, 0, 0, 0, 0]),
  .inl (1, 4),
  .inl (0, 4),
  .inl (0, 4),
  .inl (0, 4),
  .inl (0, 4),
  .inl (0, 52),
  .inl (0, 52),
  .inl (0, 78),
  .inr (6, [5, 71, 72, 73, 74, 75, 76, 77, 78, 79, 1, 0, 0, 0, 0, 0, 0, 0, 0]),
  .inr (9, [0, 0, 0, 0, 0, 0, 0, 0, 0]),
  .inl (1, 4),
  .inl (0, 4),
  .inl (0, 4),
  .inl (0, 4),
  .inl (0, 4),
  .inl (0, 52),
  .inl (0, 52),
  .inl (0, 78),
  .inr (6, [5, 81, 82, 83, 84, 85, 86, 87, 88, 89, 1, 0, 0, 0, 0, 0, 0, 0, 0]),
  .inr (9, [0, 0, 0, 0, 0, 0, 0, 0, 0]),
  .inl (1, 4),
  .inl (0, 4),
  .inl (0, 4),
  .inl (0, 4),
  .inl (0, 4),
  .inl (0, 52),
  .inl (0, 52),
  .inl (0, 78),
  .inr (6, [5, 91, 92, 93, 94, 95, 96, 97, 98, 99, 1, 0, 0, 0, 0, 0, 0, 0, 0]),
  .inr (9, [0, 0, 0, 0, 0, 0, 0, 0, 0]),
  .inl (1, 4),
  .inl (0, 4),
  .inl (0, 4),
  .inl (0, 4),
  .inl (0, 4),
  .inl (0, 52),
  .inl (0, 52),
  .inl (0, 78),
  .inr (6, [5, 101, 102, 103, 104, 105, 106, 107, 108, 109, 1, 0, 0, 0, 0, 0, 0, 0, 0]),
  .inr (9, [0, 0, 0, 0, 0, 0, 0, 0, 0]),
  .inl (1, 4),
  .inl (0, 4),
  .inl (0, 4),
  .inl (0, 4),
  .inl (0, 4),
  .inl (0, 52),
  .inl (0, 52),
  .inl (0, 78),
  .inr (6, [5, 111, 112, 113, 114, 115, 116, 117, 118, 119, 1, 0, 0, 0, 0, 0, 0, 0, 0]),
  .inr (9, [0, 0, 0, 0, 0, 0, 0, 0, 0]),
  .inl (1, 4),
  .inl (0, 4),
  .inl (0, 4),
  .inl (0, 4),
  .inl (0, 4),
  .inl (0, 52),
  .inl (0, 52),
  .inl (0, 78),
  .inr (6, [5, 121, 122, 123, 124, 125, 126, 127, 128, 129, 1, 0, 0, 0, 0, 0, 0, 0, 0]),
  .inr (9, [0, 0, 0, 0, 0, 0, 0, 0, 0]),
  .inl (1, 4),
  .inl (0, 4),
  .inl (0, 4),
  .inl (0, 4),
  .inl (0, 4),
  .inl (0, 52),
  .inl (0, 52),
  .inl (0, 78),
  .inr (7, [131, 132, 4, 6, 0]),
  .inr (4, [0, 0, 0, 0]),
  .inr (6, [131, 133, 134, 135, 136, 137, 138, 139, 140, 141, 1, 0, 0, 0, 0, 0, 0, 0, 0]),
  .inr (9, [0, 0, 0, 0, 0, 0, 0, 0, 0]),
  .inl (1, 4),
  .inl (0, 4),
  .inl (0, 4),
  .inl (0, 4),
  .inl (0, 4),
  .inl (0, 52),
  .inl (0, 52),
  .inl (0, 78),
  .inr (3, [4, 143, 144, 145, 0, 0]),
  .inl (0, 200),
  .inl (0, 200),
  .inl (0, 200),
  .inr (5, [8, 5, 147, 148, 149, 1, 0, 0, 0]),
  .inl (6, 13),
  .inl (0, 12),
  .inl (1, 16384),
  .inr (9, [0, 0, 0, 0, 0, 0, 0, 0, 0]),
  .inr (9, [0, 0, 0, 0, 0, 0, 0, 0, 0]),
  .inr (9, [0, 0, 0, 0, 0, 0, 0, 0, 0]),
  .inr (9, [0, 0, 0, 0, 0, 0, 0, 0, 0]),
  .inr (9, [0, 0, 0, 0, 0, 0, 0, 0, 0]),
  .inr (9, [0, 0, 0, 0, 0, 0, 0, 0, 0]),
  .inr (9, [0, 0, 0, 0, 0, 0, 0, 0, 0]),
  .inr (9, [0, 0, 0, 0, 0, 0, 0, 0, 0]),
  .inr (9, [0, 0, 0, 0, 0, 0, 0, 0, 0]),
  .inr (9, [0, 0, 0, 0, 0, 0, 0, 0, 0]),
  .inr (9, [0, 0, 0, 0, 0, 0, 0, 0, 0]),
  .inr (9, [0, 0, 0, 0, 0, 0, 0, 0, 0]),
  .inr (9, [0, 0, 0, 0, 0, 0, 0, 0, 0]),
  .inr (0, [164, 0]),
  .inl (2, 51)]
def zt_c0 : Nat := 163
def zt_s0 : Nat := 20784
def zt_tabs : List Nat := [6, 18, 28, 38, 48, 58, 68, 78, 88, 98, 108, 118, 130]
def zt_tris : List Nat := [7, 19, 29, 39, 49, 59, 69, 79, 89, 99, 109, 119, 131, 148, 149, 150, 151, 152, 153, 154, 155, 156, 157, 158, 159, 160]
def zt_sets : List Nat := [3, 129]
/-! what the constructors leave behind them -/
def zt_X0 : q_X := (0, fun _ => 0)
def zt_fu : Nat := 1000000
def zt_ob (ci : Nat) : va_E := .inr (ci, (List.range (q_N ci)).map (fun j => defaultValue (q_y ci j)))
def zt_fM (o : Option (q_O × q_M)) : q_M := match o with
  | some (_, M) => M
  | none => ([], 0, 0)
/-- the law's two cells, as they stand when the class' object is made (its object and its text); behind them come the class' cells. From the law's second object on its cells are told last: zt_un says which place a place then has -/
def zt_A2 : List va_E := [.inr (11, [.ref 1, .int 0]), .inl (0, 600, .inl (fun _ => 0))]
def zt_un (i : Nat) : Nat := if i < 2 then i + 163 else if i < 165 then i - 2 else i
def zt_iv (j : Nat) : Nat := if j < 163 then j + 2 else if j < 165 then j - 163 else j
def zt_unv (v : Value) : Value := match v with
  | .ref i => .ref (zt_un i)
  | v => v
def zt_une (e : va_E) : va_E := match e with
  | .inl (t, n, .inr (.inr (.inr (.inr g)))) => .inl (t, n, .inr (.inr (.inr (.inr (fun j => (g j).map zt_un)))))
  | .inl (t, n, .inr (.inr (.inr (.inl g)))) => .inl (t, n, .inr (.inr (.inr (.inl g))))
  | .inl (t, n, .inr (.inr (.inl g))) => .inl (t, n, .inr (.inr (.inl g)))
  | .inl (t, n, .inr (.inl g)) => .inl (t, n, .inr (.inl g))
  | .inl (t, n, .inl g) => .inl (t, n, .inl g)
  | .inr (ci, fs) => .inr (ci, fs.map zt_unv)
def zt_b1 : Option (q_O × q_M) := q_ex zt_X0 zt_fu 100 116 0 [(0, .ref 2)] [] (zt_A2 ++ [zt_ob 10], 3, 615)
def zt_M1 : q_M := zt_fM zt_b1
def zt_N1 : List va_E := (zt_M1.1.drop 2).map zt_une
/-- what a row of references holds -/
def zt_fg (e : Option va_E) : Nat → Option Nat := match e with
  | some (.inl (_, _, .inr (.inr (.inr (.inr f))))) => f
  | _ => fun _ => none
def zt_g (c : Nat) : Nat → Option Nat := zt_fg (zt_N1[c]?)
def zt_cv (σ : zt_S) (c j k : Nat) : Value := match k with
  | 0 => .int (Int32.ofInt (σ.1 c (j : Int)))
  | 1 => .long (σ.2.1 c (j : Int))
  | k + 2 => .ref k
def zt_ce (σ : zt_S) (c : Nat) (k : zt_K) : va_E := match k with
  | .inl (t, n) => if t = 1 then .inl (1, n, .inr (.inl (fun j => σ.2.1 c (j : Int)))) else if t = 4 then .inl (4, n, .inr (.inr (.inr (.inl (fun j => σ.2.2.1 (j : Int)))))) else if t = 5 ∨ t = 6 then .inl (t, n, .inr (.inr (.inr (.inr (zt_g c))))) else .inl (t, n, .inl (fun j => Int32.ofInt (σ.1 c (j : Int))))
  | .inr (ci, ks) => .inr (ci, ks.mapIdx (fun j k => zt_cv σ c j k))
/-- the law's own cells, behind the class': how many, how long each, what they hold; the first is the law's object, the second its text, then rows that it makes -/
abbrev zt_T : Type := Nat × (Nat → Nat) × (Nat → Int → Int)
def zt_Tc (T : zt_T) (i : Nat) : va_E := if i = 0 then .inr (11, [.ref 164, .int (Int32.ofInt (T.2.2 0 1))]) else .inl (0, T.2.1 i, .inl (fun j => Int32.ofInt (T.2.2 i (j : Int))))
def zt_Tl (T : zt_T) : List va_E := (List.range T.1).map (zt_Tc T)
def zt_sm (f : Nat → Nat) : Nat → Nat
  | 0 => 0
  | n + 1 => zt_sm f n + f n
def zt_H (T : zt_T) (σ : zt_S) : List va_E := zt_sh.mapIdx (fun c k => zt_ce σ c k) ++ zt_Tl T
def zt_M (T : zt_T) (σ : zt_S) : q_M := (zt_H T σ, zt_c0 + σ.2.2.2 + T.1, zt_s0 + 6 * σ.2.2.2 + zt_sm T.2.1 T.1)
def zt_up (σ : zt_S) (c : Nat) (b v : Int) : zt_S := (fun c' j => if c' = c ∧ j = b then v else σ.1 c' j, σ.2)
def zt_uL (σ : zt_S) (c : Nat) (b : Int) (v : Int64) : zt_S := (σ.1, fun c' j => if c' = c ∧ j = b then v else σ.2.1 c' j, σ.2.2)
def zt_uD (σ : zt_S) (b : Int) (v : UInt64) : zt_S := (σ.1, σ.2.1, fun j => if j = b then v else σ.2.2.1 j, σ.2.2.2)
def zt_cI (σ : zt_S) (s d : Nat) (sp dp n : Int) : zt_S := (fun c' j => if c' = d ∧ dp ≤ j ∧ j < dp + n then σ.1 s (sp + (j - dp)) else σ.1 c' j, σ.2)
def zt_cL (σ : zt_S) (s d : Nat) (sp dp n : Int) : zt_S := (σ.1, fun c' j => if c' = d ∧ dp ≤ j ∧ j < dp + n then σ.2.1 s (sp + (j - dp)) else σ.2.1 c' j, σ.2.2)
def zt_nx (σ : zt_S) : zt_S := (σ.1, σ.2.1, σ.2.2.1, σ.2.2.2 + 1)
section TT
variable {T : zt_T}
theorem zt_sh_len : zt_sh.length = zt_c0 := by decide +kernel
theorem zt_lt {c : Nat} {k : zt_K} (h : zt_sh[c]? = some k) : c < q_big := by
  have h1 := (List.getElem?_eq_some_iff.mp h).1
  rw [zt_sh_len] at h1
  exact Nat.lt_of_lt_of_le h1 (Nat.le_of_ble_eq_true rfl)
theorem zt_bl (σ : zt_S) : (zt_sh.mapIdx (fun c k => zt_ce σ c k)).length = 163 := by rw [List.length_mapIdx, zt_sh_len]; rfl
theorem zt_get (σ : zt_S) {c : Nat} (hc : c < 163) : (zt_H T σ)[c]? = zt_sh[c]?.map (fun k => zt_ce σ c k) := by
  unfold zt_H
  rw [List.getElem?_append_left (by rw [zt_bl]; exact hc), List.getElem?_mapIdx]
theorem zt_lt3 {c : Nat} {k : zt_K} (h : zt_sh[c]? = some k) : c < 163 := by
  have h1 := (List.getElem?_eq_some_iff.mp h).1
  rwa [zt_sh_len] at h1
theorem zt_at {σ : zt_S} {c : Nat} {k : zt_K} (h : zt_sh[c]? = some k) : q_at (zt_M T σ).1 c = some (zt_ce σ c k) := by
  unfold q_at
  rw [if_pos (zt_lt h)]
  dsimp only [zt_M]
  rw [zt_get σ (zt_lt3 h), h]
  rfl
theorem zt_set {σ σ' : zt_S} {c : Nat} {k : zt_K} (h : zt_sh[c]? = some k) (hs : ∀ (c' : Nat) (k' : zt_K), c' ≠ c → zt_sh[c']? = some k' → zt_ce σ' c' k' = zt_ce σ c' k') : (zt_H T σ).set c (zt_ce σ' c k) = zt_H T σ' := by
  have hl : c < (zt_sh.mapIdx (fun c k => zt_ce σ c k)).length := by rw [zt_bl]; exact zt_lt3 h
  unfold zt_H
  rw [List.set_append, if_pos hl]
  refine congrArg (fun z => z ++ zt_Tl T) ?_
  apply List.ext_getElem?
  intro j
  rw [List.getElem?_set, List.getElem?_mapIdx, List.getElem?_mapIdx]
  by_cases hj : c = j
  · subst hj
    rw [if_pos rfl, if_pos hl, h]
    rfl
  · rw [if_neg hj]
    cases hk : zt_sh[j]? with
    | none => rfl
    | some k' => exact congrArg some (hs j k' (Ne.symm hj) hk).symm
theorem zt_ce_congr {σ σ' : zt_S} {c : Nat} {k : zt_K} (h1 : ∀ j, σ'.1 c j = σ.1 c j) (h2 : ∀ j, σ'.2.1 c j = σ.2.1 c j) (h3 : σ'.2.2.1 = σ.2.2.1) : zt_ce σ' c k = zt_ce σ c k := by
  unfold zt_ce
  simp only [zt_cv, h1, h2, h3]
theorem zt_sI {σ : zt_S} {c n t : Nat} {b v : Int} (h : zt_sh[c]? = some (.inl (t, n))) (ht : t = 0 ∨ t = 2 ∨ t = 3) (hb : 0 ≤ b) : (zt_H T σ).set c (.inl (t, n, .inl (upd (fun j => Int32.ofInt (σ.1 c (j : Int))) b.toNat (Int32.ofInt v)))) = zt_H T (zt_up σ c b v) := by
  have e : (.inl (t, n, .inl (upd (fun j => Int32.ofInt (σ.1 c (j : Int))) b.toNat (Int32.ofInt v))) : va_E) = zt_ce (zt_up σ c b v) c (.inl (t, n)) := by
    dsimp only [zt_ce]
    rw [if_neg (show ¬ t = 1 by omega), if_neg (show ¬ t = 4 by omega), if_neg (show ¬ (t = 5 ∨ t = 6) by omega)]
    refine congrArg (fun z => Sum.inl (t, n, Sum.inl z)) (funext fun j => ?_)
    show (if j = b.toNat then Int32.ofInt v else Int32.ofInt (σ.1 c (j : Int))) = Int32.ofInt (if c = c ∧ (j : Int) = b then v else σ.1 c (j : Int))
    by_cases hj : j = b.toNat
    · rw [if_pos hj, if_pos (show c = c ∧ (j : Int) = b from ⟨rfl, by omega⟩)]
    · rw [if_neg hj, if_neg (show ¬ (c = c ∧ (j : Int) = b) by rintro ⟨-, h9⟩; omega)]
  rw [e]
  exact zt_set h (fun c' k' hc _ => zt_ce_congr (fun j => if_neg (fun h9 => hc h9.1)) (fun _ => rfl) rfl)
theorem zt_sL {σ : zt_S} {c n : Nat} {b : Int} {v : Int64} (h : zt_sh[c]? = some (.inl (1, n))) (hb : 0 ≤ b) : (zt_H T σ).set c (.inl (1, n, .inr (.inl (vp_updL (fun j => σ.2.1 c (j : Int)) b.toNat v)))) = zt_H T (zt_uL σ c b v) := by
  have e : (.inl (1, n, .inr (.inl (vp_updL (fun j => σ.2.1 c (j : Int)) b.toNat v))) : va_E) = zt_ce (zt_uL σ c b v) c (.inl (1, n)) := by
    dsimp only [zt_ce]
    rw [if_pos rfl]
    refine congrArg (fun z => Sum.inl (1, n, Sum.inr (Sum.inl z))) (funext fun j => ?_)
    unfold vp_updL zt_uL
    by_cases hj : j = b.toNat
    · rw [if_pos hj]; exact (if_pos ⟨rfl, by omega⟩).symm
    · rw [if_neg hj]; exact (if_neg (by rintro ⟨-, h9⟩; omega)).symm
  rw [e]
  exact zt_set h (fun c' k' hc _ => zt_ce_congr (fun _ => rfl) (fun j => if_neg (fun h9 => hc h9.1)) rfl)
theorem zt_cvs {σ : zt_S} {c b : Nat} {v : Int} {ks : List Nat} (hk : ks[b]? = some 0) : (ks.mapIdx (fun j k => zt_cv σ c j k)).set b (.int (Int32.ofInt v)) = ks.mapIdx (fun j k => zt_cv (zt_up σ c (b : Int) v) c j k) := by
  apply List.ext_getElem?
  intro j
  rw [List.getElem?_set, List.getElem?_mapIdx, List.getElem?_mapIdx, List.length_mapIdx]
  by_cases hj : b = j
  · subst hj
    rw [if_pos rfl, if_pos (List.getElem?_eq_some_iff.mp hk).1, hk]
    simp [zt_cv, zt_up]
  · rw [if_neg hj]
    cases ks[j]? with
    | none => rfl
    | some k =>
      refine congrArg some ?_
      match k with
      | 0 => exact congrArg (fun z => Value.int (Int32.ofInt z)) (if_neg (show ¬ (c = c ∧ (j : Int) = (b : Int)) by rintro ⟨-, h9⟩; omega)).symm
      | 1 => rfl
      | k + 2 => rfl
theorem zt_cvL {σ : zt_S} {c b : Nat} {v : Int64} {ks : List Nat} (hk : ks[b]? = some 1) : (ks.mapIdx (fun j k => zt_cv σ c j k)).set b (.long v) = ks.mapIdx (fun j k => zt_cv (zt_uL σ c (b : Int) v) c j k) := by
  apply List.ext_getElem?
  intro j
  rw [List.getElem?_set, List.getElem?_mapIdx, List.getElem?_mapIdx, List.length_mapIdx]
  by_cases hj : b = j
  · subst hj
    rw [if_pos rfl, if_pos (List.getElem?_eq_some_iff.mp hk).1, hk]
    simp [zt_cv, zt_uL]
  · rw [if_neg hj]
    cases ks[j]? with
    | none => rfl
    | some k =>
      refine congrArg some ?_
      match k with
      | 0 => rfl
      | 1 => exact congrArg Value.long (if_neg (show ¬ (c = c ∧ (j : Int) = (b : Int)) by rintro ⟨-, h9⟩; omega)).symm
      | k + 2 => rfl
theorem zt_sF {σ : zt_S} {c ci b : Nat} {v : Int} {ks : List Nat} (h : zt_sh[c]? = some (.inr (ci, ks))) (hk : ks[b]? = some 0) : (zt_H T σ).set c (.inr (ci, (ks.mapIdx (fun j k => zt_cv σ c j k)).set b (.int (Int32.ofInt v)))) = zt_H T (zt_up σ c (b : Int) v) := by
  rw [zt_cvs hk]
  exact zt_set (k := .inr (ci, ks)) h (fun c' k' hc _ => zt_ce_congr (fun j => if_neg (fun h9 => hc h9.1)) (fun _ => rfl) rfl)
theorem zt_sG {σ : zt_S} {c ci b : Nat} {v : Int64} {ks : List Nat} (h : zt_sh[c]? = some (.inr (ci, ks))) (hk : ks[b]? = some 1) : (zt_H T σ).set c (.inr (ci, (ks.mapIdx (fun j k => zt_cv σ c j k)).set b (.long v))) = zt_H T (zt_uL σ c (b : Int) v) := by
  rw [zt_cvL hk]
  exact zt_set (k := .inr (ci, ks)) h (fun c' k' hc _ => zt_ce_congr (fun _ => rfl) (fun j => if_neg (fun h9 => hc h9.1)) rfl)
theorem zt_sC {σ : zt_S} {s d n : Nat} {sp dp k : Int} (h : zt_sh[d]? = some (.inl (0, n))) (h1 : 0 ≤ sp) (h2 : 0 ≤ dp) (h3 : 0 ≤ k) : (zt_H T σ).set d (.inl (0, n, .inl (va_cpy (fun j => Int32.ofInt (σ.1 s (j : Int))) (fun j => Int32.ofInt (σ.1 d (j : Int))) sp.toNat dp.toNat k.toNat))) = zt_H T (zt_cI σ s d sp dp k) := by
  have e : (.inl (0, n, .inl (va_cpy (fun j => Int32.ofInt (σ.1 s (j : Int))) (fun j => Int32.ofInt (σ.1 d (j : Int))) sp.toNat dp.toNat k.toNat)) : va_E) = zt_ce (zt_cI σ s d sp dp k) d (.inl (0, n)) := by
    dsimp only [zt_ce]
    rw [if_neg (show ¬ (0:Nat) = 1 by omega), if_neg (show ¬ (0:Nat) = 4 by omega), if_neg (show ¬ ((0:Nat) = 5 ∨ (0:Nat) = 6) by omega)]
    refine congrArg (fun z => Sum.inl (0, n, Sum.inl z)) (funext fun j => ?_)
    show (if dp.toNat ≤ j ∧ j < dp.toNat + k.toNat then Int32.ofInt (σ.1 s ((sp.toNat + (j - dp.toNat) : Nat) : Int)) else Int32.ofInt (σ.1 d (j : Int))) = Int32.ofInt (if d = d ∧ dp ≤ (j : Int) ∧ (j : Int) < dp + k then σ.1 s (sp + ((j : Int) - dp)) else σ.1 d (j : Int))
    by_cases hj : dp.toNat ≤ j ∧ j < dp.toNat + k.toNat
    · rw [if_pos hj, if_pos (show d = d ∧ dp ≤ (j : Int) ∧ (j : Int) < dp + k from ⟨rfl, by omega, by omega⟩), show ((sp.toNat + (j - dp.toNat) : Nat) : Int) = sp + ((j : Int) - dp) by omega]
    · rw [if_neg hj, if_neg (show ¬ (d = d ∧ dp ≤ (j : Int) ∧ (j : Int) < dp + k) by rintro ⟨-, h9, h8⟩; exact hj ⟨by omega, by omega⟩)]
  rw [e]
  exact zt_set h (fun c' k' hc _ => zt_ce_congr (fun j => if_neg (fun h9 => hc h9.1)) (fun _ => rfl) rfl)
theorem zt_sCL {σ : zt_S} {s d n : Nat} {sp dp k : Int} (h : zt_sh[d]? = some (.inl (1, n))) (h1 : 0 ≤ sp) (h2 : 0 ≤ dp) (h3 : 0 ≤ k) : (zt_H T σ).set d (.inl (1, n, .inr (.inl (va_cpy (fun j => σ.2.1 s (j : Int)) (fun j => σ.2.1 d (j : Int)) sp.toNat dp.toNat k.toNat)))) = zt_H T (zt_cL σ s d sp dp k) := by
  have e : (.inl (1, n, .inr (.inl (va_cpy (fun j => σ.2.1 s (j : Int)) (fun j => σ.2.1 d (j : Int)) sp.toNat dp.toNat k.toNat))) : va_E) = zt_ce (zt_cL σ s d sp dp k) d (.inl (1, n)) := by
    dsimp only [zt_ce]
    rw [if_pos rfl]
    refine congrArg (fun z => Sum.inl (1, n, Sum.inr (Sum.inl z))) (funext fun j => ?_)
    show (if dp.toNat ≤ j ∧ j < dp.toNat + k.toNat then σ.2.1 s ((sp.toNat + (j - dp.toNat) : Nat) : Int) else σ.2.1 d (j : Int)) = (if d = d ∧ dp ≤ (j : Int) ∧ (j : Int) < dp + k then σ.2.1 s (sp + ((j : Int) - dp)) else σ.2.1 d (j : Int))
    by_cases hj : dp.toNat ≤ j ∧ j < dp.toNat + k.toNat
    · rw [if_pos hj, if_pos (show d = d ∧ dp ≤ (j : Int) ∧ (j : Int) < dp + k from ⟨rfl, by omega, by omega⟩), show ((sp.toNat + (j - dp.toNat) : Nat) : Int) = sp + ((j : Int) - dp) by omega]
    · rw [if_neg hj, if_neg (show ¬ (d = d ∧ dp ≤ (j : Int) ∧ (j : Int) < dp + k) by rintro ⟨-, h9, h8⟩; exact hj ⟨by omega, by omega⟩)]
  rw [e]
  exact zt_set h (fun c' k' hc _ => zt_ce_congr (fun _ => rfl) (fun j => if_neg (fun h9 => hc h9.1)) rfl)

end TT
