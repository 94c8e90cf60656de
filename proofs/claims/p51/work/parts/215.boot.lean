/-! what the constructors leave, computed -/
def bt_v (v : Value) (k : Nat) : Bool := match v, k with
  | .int _, 0 => true
  | .long _, 1 => true
  | .ref i, k + 2 => decide (i = k)
  | _, _ => false
def bt_vs : List Value → List Nat → Bool
  | [], [] => true
  | v :: vs, k :: ks => bt_v v k && bt_vs vs ks
  | _, _ => false
/-- a cell is of the kind that the shape names -/
def bt_c (e : va_E) (k : zt_K) : Bool := match e, k with
  | .inl (t, n, .inl _), .inl (t', n') => decide (t = t' ∧ n = n' ∧ ¬ t = 1 ∧ ¬ t = 4 ∧ ¬ t = 5 ∧ ¬ t = 6)
  | .inl (t, n, .inr (.inl _)), .inl (t', n') => decide (t = 1 ∧ t' = 1 ∧ n = n')
  | .inl (t, n, .inr (.inr (.inr (.inr _)))), .inl (t', n') => decide ((t = 5 ∨ t = 6) ∧ t = t' ∧ n = n')
  | .inr (ci, fs), .inr (ci', ks) => decide (ci = ci') && bt_vs fs ks
  | _, _ => false
def bt_cs : List va_E → List zt_K → Bool
  | [], [] => true
  | e :: es, k :: ks => bt_c e k && bt_cs es ks
  | _, _ => false
def bt_i (M : List va_E) (c j : Nat) : Int := match M[c]? with
  | some (.inl (_, _, .inl f)) => (f j).toInt
  | some (.inr (_, fs)) => (match fs[j]? with | some (.int v) => v.toInt | _ => 0)
  | _ => 0
def bt_l (M : List va_E) (c j : Nat) : Int64 := match M[c]? with
  | some (.inl (_, _, .inr (.inl f))) => f j
  | some (.inr (_, fs)) => (match fs[j]? with | some (.long v) => v | _ => 0)
  | _ => 0
def bt_g (M : List va_E) (c j : Nat) : Option Nat := match M[c]? with
  | some (.inl (_, _, .inr (.inr (.inr (.inr f))))) => f j
  | _ => none
def bt_al : Nat → (Nat → Bool) → Bool
  | 0, _ => true
  | n + 1, P => P n && bt_al n P
theorem bt_al_ok {P : Nat → Bool} : ∀ (n : Nat), bt_al n P = true → ∀ j, j < n → P j = true
  | 0, _, j, hj => absurd hj (Nat.not_lt_zero j)
  | n + 1, h, j, hj => by
    rw [bt_al, Bool.and_eq_true] at h
    by_cases e : j = n
    · rw [e]; exact h.1
    · exact bt_al_ok n h.2 j (by omega)
/-- the reference's row behind its constructor -/
def bt_row : List Int := [9, 2, 5, 1, (-1), 10, 2, 0, 0, 0, (-1), 0, 0, 0, 0, 0, (-1), (-1), (-1), (-1), 0, 0, 0, 0, 0, 0, 0, 0, 0, 0, 0, 0, 0, 0, 0, 0, 0, 0, 0, 0, (-1), (-1), (-1), 1, 1, (-1), (-1), (-1), (-1), (-1), (-1), (-1), (-1), 1, 1, 1, (-1), (-1), (-1), 0, 0, (-1), 0, (-1), (-1), (-1), 0, (-1), (-1), (-1), (-1), 0, (-1), (-1), (-1), (-1), (-1), (-1), (-1), (-1), (-1), (-1), (-1), (-1), (-1), (-1), (-1), (-1), (-1), (-1), (-1), (-1), 0, 0, 0, 0, 0, 0, 0, 0, 0, 0, 0, 0, 0, 0, 0, 0, 0, 0, 0, 0, 0, 0, 0, 0, 0, 0, 0, 0, 0, 0, 0, 0, 0, 0, 0, 0, 0, 0, 0, 0, 0, 0, 0, 0, 0, 0, 0, 0, 0, 0, 0, 0, 0, 0, 0, 0, 0, 0, 0, 0, 0, 0, 0, 0, 0, 0, 0, 0, 0, 0, 0, 0, 0, 0, 0, 0, 0, 0, 0, 0, 0, 0, 0, 0, 0, 0, 0, 0, 0, 0, 0, 0, 0, 0, 0, 0, 0, 0, 0, 0, 0, 0, 0, 0, 0, 0, 0, 0, 0, 0, 0, 0, 0, 0, 0, 0, 0, 0, 0, 0, 0, 0, 0, 0, 0, 0, 0, 0, 0, 0, 0, 0, 0, 0, 0, 0, 0, 0, 0, 0, 0, 0, 0, 0, 0, 0, 0, 0, 0, 0, 0, 0, 0, 0, 0, 0, 0, 0, 0, 0, 0, 0, 0, 0, 0, 0, 0, 0, 0, 0, 0, 0, 0, 0, 0, 0, 0, 0, 0, 0, 0, 0]
def bt_hand : List Int64 := [2220359680, 57368, 0, 0]
def bt_trick : List Int := [0, 0, 0, (-1), 0, (-1), (-1), (-1), 0]
def bt_tab : List Int := [1, 2, 0, (-1), 0, 0, 0, 0]
/-- what cells hold: the cell, the place, the number -/
def bt_sA : List (Nat × Nat × Int) := [(3, 0, 9), (3, 1, 2), (3, 2, 5), (3, 3, 10), (16, 1, 0), (16, 2, 0), (0, 1, 0), (0, 8, 0), (2, 7, -1), (161, 1, 0)]
def bt_inA (M : List va_E) : Bool := bt_al 4 (fun p => decide (bt_l M 8 p = bt_hand.getD p 0 ∧ bt_i M 9 p = -1 ∧ bt_i M 10 p = 0 ∧ bt_i M 11 p = 0 ∧ bt_i M 12 p = 0)) && (bt_al 9 (fun j => decide (bt_i M 7 j = bt_trick.getD j 0)) && (bt_al 8 (fun j => decide (bt_i M 6 (11 + j) = bt_tab.getD j 0)) && (decide (bt_l M 6 10 = 0 ∧ bt_l M 144 5 = 0) && (bt_sA.all (fun z => decide (bt_i M z.1 z.2.1 = z.2.2)) && (bt_al 16384 (fun p => decide (bt_l M 147 p = 0)) && (bt_al 13 (fun k => decide (bt_g M 145 k = some (148 + k))) && bt_al 10 (fun k => decide (bt_g M 17 k = some (18 + 10 * k)))))))))
def bt_e1 : Option (Option Value × q_M) := oq_ex 2 zt_fu 100 116 0 [(0, .ref 2)] [] ([zt_ob 10], 3, 615)
def bt_fA (e : Option (Option Value × q_M)) : Bool := match e with
  | some (none, M) => decide (M.1.length = 163 ∧ M.2 = (165, 21386)) && (bt_cs (M.1.map zt_une) zt_sh && bt_inA (M.1.map zt_une))
  | _ => false
def bt_okA : Bool := bt_fA bt_e1
set_option maxRecDepth 100000 in
theorem bt_yesA : bt_okA = true := by decide +kernel
