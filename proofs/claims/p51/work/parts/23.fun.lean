/-! THE METHODS AS FUNCTIONS over the typed state (by program: wip/whole/dec/dec.py) -/
/-- what an int holds of a number (inHand of the reference counts below the least int) -/
def zt_w (x : Int) : Int := (Int32.ofInt x).toInt
theorem zt_w_eq (x : Int) : Int32.ofInt (zt_w x) = Int32.ofInt x := Int32.ofInt_toInt _
def F_Su_cardCount (t0 : Nat)  (σ : zt_S) : Option (Int × zt_S) :=
  some (((4 : Int) * (σ.1 t0 0)), σ)
def F_Rw_has_15   (x0 : Int) (σ : zt_S) : Option (Int × zt_S) :=
  zt_ck (x0 = 0 ∨ x0 = 1) <| some (x0, σ)
def F_Rw_has  (v0 : Int64) (v2 : Int) (σ : zt_S) : Option (Int × zt_S) :=
  if (zt_lc ((zt_rs v0 v2) &&& (1 : Int64)) (0 : Int64)) = (0 : Int) then
    F_Rw_has_15 (0 : Int) σ
  else
    F_Rw_has_15 (1 : Int) σ
def F_HT_append_40    (σ : zt_S) : Option (Unit × zt_S) :=
  some ((), σ)
def F_HT_append  (v1 : Int) (σ : zt_S) : Option (Unit × zt_S) :=
  zt_ck (zt_in (σ.1 161 1)) <| if (σ.1 161 1) < (0 : Int) then
    F_HT_append_40 σ
  else
    zt_ck (zt_in (σ.1 161 1)) <| if (σ.1 161 1) < ((51 : Nat) : Int) then
      zt_ck (0 ≤ (σ.1 161 1) ∧ (σ.1 161 1) < ((51 : Nat) : Int)) <| zt_let (zt_up σ 162 (σ.1 161 1) (zt_b (zt_b v1))) fun s1 =>
      zt_let (zt_up s1 161 1 ((s1.1 161 1) + (1 : Int))) fun s2 =>
      F_HT_append_40 s2
    else
      F_HT_append_40 σ
def F_Su_suitOf_17 (t0 : Nat)  (x0 : Int) (σ : zt_S) : Option (Int × zt_S) :=
  some (x0, σ)
def F_Su_suitOf (t0 : Nat) (v1 : Int) (σ : zt_S) : Option (Int × zt_S) :=
  zt_ck (zt_in (σ.1 t0 0)) <| if (0 : Int) < (σ.1 t0 0) then
    zt_ck ((0 ≤ v1 ∧ v1 < 2147483648) ∧ (0 < (σ.1 t0 0) ∧ (σ.1 t0 0) < 2147483648)) <| F_Su_suitOf_17 t0 (v1 / (σ.1 t0 0)) σ
  else
    F_Su_suitOf_17 t0 (0 : Int) σ
def F_HT_letterOf  (v0 : Int) (σ : zt_S) : Option (Int × zt_S) :=
  zt_ck (zt_in v0) <| if v0 = (0 : Int) then
    some ((115 : Int), σ)
  else if v0 = (1 : Int) then
    some ((101 : Int), σ)
  else if v0 = (2 : Int) then
    some ((105 : Int), σ)
  else 
  some ((97 : Int), σ)
def F_Su_rankOf_19 (t0 : Nat)  (x0 : Int) (σ : zt_S) : Option (Int × zt_S) :=
  some (x0, σ)
def F_Su_rankOf (t0 : Nat) (v1 : Int) (σ : zt_S) : Option (Int × zt_S) :=
  zt_ck (zt_in (σ.1 t0 0)) <| if (0 : Int) < (σ.1 t0 0) then
    zt_ck ((0 ≤ v1 ∧ v1 < 2147483648) ∧ (0 < (σ.1 t0 0) ∧ (σ.1 t0 0) < 2147483648)) <| F_Su_rankOf_19 t0 ((v1 % (σ.1 t0 0)) + (1 : Int)) σ
  else
    F_Su_rankOf_19 t0 (0 : Int) σ
def F_HT_appendNumber_17   (v1 : Int) (σ : zt_S) : Option (Unit × zt_S) :=
  zt_ck (0 ≤ v1 ∧ v1 < 2147483648) <| zt_bd (F_HT_append ((48 : Int) + (v1 % (10 : Int))) σ) fun _ s2 =>
  some ((), s2)
def F_HT_appendNumber  (v1 : Int) (σ : zt_S) : Option (Unit × zt_S) :=
  zt_ck (zt_in v1) <| if v1 < (10 : Int) then
    F_HT_appendNumber_17 v1 σ
  else
    zt_ck (0 ≤ v1 ∧ v1 < 2147483648) <| zt_bd (F_HT_append ((48 : Int) + (v1 / (10 : Int))) σ) fun _ s4 =>
    F_HT_appendNumber_17 v1 s4
def F_HT_write_62 (t1 : Nat) (r8 : Int64 → Int → zt_S → Option (Int × zt_S)) (v2 : Int64) (v4 : Int) (σ : zt_S) : Option (Int × zt_S) :=
  r8 v2 (v4 + (1 : Int)) σ
def F_HT_write_39 (t1 : Nat) (r8 : Int64 → Int → zt_S → Option (Int × zt_S)) (v2 : Int64) (v4 : Int) (σ : zt_S) : Option (Int × zt_S) :=
  zt_bd (F_Su_suitOf t1 v4 σ) fun a8 s9 =>
  zt_bd (F_HT_letterOf a8 s9) fun a10 s11 =>
  zt_bd (F_HT_append a10 s11) fun _ s13 =>
  zt_bd (F_Su_rankOf t1 v4 s13) fun a14 s15 =>
  zt_bd (F_HT_appendNumber a14 s15) fun _ s17 =>
  F_HT_write_62 t1 r8 v2 v4 s17
def F_HT_write_81 (t1 : Nat)   (σ : zt_S) : Option (Int × zt_S) :=
  some ((σ.1 161 1), σ)
def F_HT_write_68 (t1 : Nat)   (σ : zt_S) : Option (Int × zt_S) :=
  zt_ck (zt_in (σ.1 161 1)) <| if (σ.1 161 1) = (0 : Int) then
    zt_bd (F_HT_append (45 : Int) σ) fun _ s19 =>
    F_HT_write_81 t1 s19
  else
    F_HT_write_81 t1 σ
def F_HT_write_8 (t1 : Nat)  : Nat → Int64 → Int → zt_S → Option (Int × zt_S)
  | 0, _, _, _ => none
  | n + 1, v2, v4, σ =>
  zt_bd (F_Su_cardCount t1 σ) fun a2 s3 =>
  zt_ck (zt_in v4 ∧ zt_in a2) <| if v4 < a2 then
    zt_bd (F_Rw_has v2 v4 s3) fun a4 s5 =>
    zt_ck (zt_in a4) <| if a4 = (0 : Int) then
      F_HT_write_62 t1 (F_HT_write_8 t1 n) v2 v4 s5
    else
      zt_ck (zt_in (s5.1 161 1)) <| if (0 : Int) < (s5.1 161 1) then
        zt_bd (F_HT_append (32 : Int) s5) fun _ s7 =>
        F_HT_write_39 t1 (F_HT_write_8 t1 n) v2 v4 s7
      else
        F_HT_write_39 t1 (F_HT_write_8 t1 n) v2 v4 s5
  else
    F_HT_write_68 t1 s3
def F_HT_write (t1 : Nat) (v2 : Int64) (σ : zt_S) : Option (Int × zt_S) :=
  zt_let (zt_up σ 161 1 (0 : Int)) fun s1 =>
  F_HT_write_8 t1 zt_N v2 (0 : Int) s1
def F_HT_byteAt_31   (x0 : Int) (σ : zt_S) : Option (Int × zt_S) :=
  some (x0, σ)
def F_HT_byteAt_30    (σ : zt_S) : Option (Int × zt_S) :=
  F_HT_byteAt_31 (-1 : Int) σ
def F_HT_byteAt  (v1 : Int) (σ : zt_S) : Option (Int × zt_S) :=
  zt_ck (zt_in v1) <| if v1 < (0 : Int) then
    F_HT_byteAt_30 σ
  else
    zt_ck (zt_in v1 ∧ zt_in (σ.1 161 1)) <| if v1 < (σ.1 161 1) then
      zt_ck (zt_in v1) <| if v1 < ((51 : Nat) : Int) then
        zt_ck (0 ≤ v1 ∧ v1 < ((51 : Nat) : Int)) <| F_HT_byteAt_31 (σ.1 162 v1) σ
      else
        F_HT_byteAt_30 σ
    else
      F_HT_byteAt_30 σ
def F_Hi_clear   (σ : zt_S) : Option (Unit × zt_S) :=
  zt_let (zt_up σ 16 1 (0 : Int)) fun s1 =>
  zt_let (zt_up s1 16 2 (0 : Int)) fun s2 =>
  some ((), s2)
def F_Hi_rowAt_22    (σ : zt_S) : Option (Nat × zt_S) :=
  none
def F_Hi_rowAt  (v1 : Int) (σ : zt_S) : Option (Nat × zt_S) :=
  zt_ck (zt_in v1) <| if v1 < (0 : Int) then
    F_Hi_rowAt_22 σ
  else
    zt_ck (zt_in v1) <| if v1 < ((10 : Nat) : Int) then
      zt_ck (0 ≤ v1 ∧ v1 < ((10 : Nat) : Int)) <| some ((18 + 10 * (v1).toNat), σ)
    else
      F_Hi_rowAt_22 σ
def F_Tr_copyFrom (t0 : Nat) (t1 : Nat)  (σ : zt_S) : Option (Unit × zt_S) :=
  zt_let (zt_up σ t0 0 (σ.1 t1 0)) fun s1 =>
  zt_let (zt_up s1 t0 1 (s1.1 t1 1)) fun s2 =>
  zt_let (zt_up s2 t0 2 (s2.1 t1 2)) fun s3 =>
  zt_let (zt_up s3 t0 3 (s3.1 t1 3)) fun s4 =>
  zt_let (zt_up s4 t0 4 (s4.1 t1 4)) fun s5 =>
  zt_let (zt_up s5 t0 5 (s5.1 t1 5)) fun s6 =>
  zt_let (zt_up s6 t0 6 (s6.1 t1 6)) fun s7 =>
  zt_let (zt_up s7 t0 7 (s7.1 t1 7)) fun s8 =>
  zt_let (zt_up s8 t0 8 (s8.1 t1 8)) fun s9 =>
  some ((), s9)
def F_Rw_copySets (c0 : Nat) (n0 : Nat) (c1 : Nat) (n1 : Nat)  (σ : zt_S) : Option (Unit × zt_S) :=
  zt_ck (zt_in ((n0 : Nat) : Int) ∧ zt_in ((n1 : Nat) : Int)) <| zt_ck (0 ≤ (0 : Int) ∧ 0 ≤ (0 : Int) ∧ 0 ≤ (if ((n0 : Nat) : Int) < ((n1 : Nat) : Int) then ((n0 : Nat) : Int) else ((n1 : Nat) : Int)) ∧ (0 : Int) + (if ((n0 : Nat) : Int) < ((n1 : Nat) : Int) then ((n0 : Nat) : Int) else ((n1 : Nat) : Int)) ≤ ((n0 : Nat) : Int) ∧ (0 : Int) + (if ((n0 : Nat) : Int) < ((n1 : Nat) : Int) then ((n0 : Nat) : Int) else ((n1 : Nat) : Int)) ≤ ((n1 : Nat) : Int)) <| zt_let (zt_cL σ c0 c1 (0 : Int) (0 : Int) (if ((n0 : Nat) : Int) < ((n1 : Nat) : Int) then ((n0 : Nat) : Int) else ((n1 : Nat) : Int))) fun s1 =>
  some ((), s1)
def F_Rw_copy (c0 : Nat) (n0 : Nat) (c1 : Nat) (n1 : Nat)  (σ : zt_S) : Option (Unit × zt_S) :=
  zt_ck (zt_in ((n0 : Nat) : Int) ∧ zt_in ((n1 : Nat) : Int)) <| zt_ck (0 ≤ (0 : Int) ∧ 0 ≤ (0 : Int) ∧ 0 ≤ (if ((n0 : Nat) : Int) < ((n1 : Nat) : Int) then ((n0 : Nat) : Int) else ((n1 : Nat) : Int)) ∧ (0 : Int) + (if ((n0 : Nat) : Int) < ((n1 : Nat) : Int) then ((n0 : Nat) : Int) else ((n1 : Nat) : Int)) ≤ ((n0 : Nat) : Int) ∧ (0 : Int) + (if ((n0 : Nat) : Int) < ((n1 : Nat) : Int) then ((n0 : Nat) : Int) else ((n1 : Nat) : Int)) ≤ ((n1 : Nat) : Int)) <| zt_let (zt_cI σ c0 c1 (0 : Int) (0 : Int) (if ((n0 : Nat) : Int) < ((n1 : Nat) : Int) then ((n0 : Nat) : Int) else ((n1 : Nat) : Int))) fun s1 =>
  some ((), s1)
def F_Tb_copyFrom (t0 : Nat) (t1 : Nat)  (σ : zt_S) : Option (Unit × zt_S) :=
  zt_bd (F_Tr_copyFrom (t0 + 1) (t1 + 1) σ) fun _ s2 =>
  zt_bd (F_Rw_copySets (t1 + 2) 4 (t0 + 2) 4 s2) fun _ s4 =>
  zt_bd (F_Rw_copy (t1 + 3) 4 (t0 + 3) 4 s4) fun _ s6 =>
  zt_bd (F_Rw_copy (t1 + 4) 4 (t0 + 4) 4 s6) fun _ s8 =>
  zt_bd (F_Rw_copy (t1 + 5) 4 (t0 + 5) 4 s8) fun _ s10 =>
  zt_bd (F_Rw_copy (t1 + 6) 4 (t0 + 6) 4 s10) fun _ s12 =>
  zt_bd (F_Rw_copy (t1 + 7) 52 (t0 + 7) 52 s12) fun _ s14 =>
  zt_bd (F_Rw_copy (t1 + 8) 52 (t0 + 8) 52 s14) fun _ s16 =>
  zt_bd (F_Rw_copy (t1 + 9) 78 (t0 + 9) 78 s16) fun _ s18 =>
  zt_let (zt_uL s18 t0 10 (s18.2.1 t1 10)) fun s19 =>
  zt_let (zt_up s19 t0 11 (s19.1 t1 11)) fun s20 =>
  zt_let (zt_up s20 t0 12 (s20.1 t1 12)) fun s21 =>
  zt_ck ((s21.1 t1 13) = 0 ∨ (s21.1 t1 13) = 1) <| zt_let (zt_up s21 t0 13 (s21.1 t1 13)) fun s22 =>
  zt_let (zt_up s22 t0 14 (s22.1 t1 14)) fun s23 =>
  zt_let (zt_up s23 t0 15 (s23.1 t1 15)) fun s24 =>
  zt_let (zt_up s24 t0 16 (s24.1 t1 16)) fun s25 =>
  zt_let (zt_up s25 t0 17 (s25.1 t1 17)) fun s26 =>
  zt_let (zt_up s26 t0 18 (s26.1 t1 18)) fun s27 =>
  some ((), s27)
def F_Hi_keep_40 (t1 : Nat)  (x0 : Int) (σ : zt_S) : Option (Unit × zt_S) :=
  zt_let (zt_up σ 16 1 x0) fun s5 =>
  zt_ck (zt_in ((s5.1 16 2) + (1 : Int))) <| zt_let (zt_up s5 16 2 (if ((s5.1 16 2) + (1 : Int)) < (10 : Int) then ((s5.1 16 2) + (1 : Int)) else (10 : Int))) fun s6 =>
  some ((), s6)
def F_Hi_keep (t1 : Nat)  (σ : zt_S) : Option (Unit × zt_S) :=
  zt_bd (F_Hi_rowAt (σ.1 16 1) σ) fun a1 s2 =>
  zt_ck (a1 ∈ zt_tabs) <| zt_bd (F_Tb_copyFrom a1 t1 s2) fun _ s4 =>
  zt_ck (zt_in ((s4.1 16 1) + (1 : Int))) <| if ((s4.1 16 1) + (1 : Int)) < (10 : Int) then
    F_Hi_keep_40 t1 ((s4.1 16 1) + (1 : Int)) s4
  else
    F_Hi_keep_40 t1 (0 : Int) s4
def F_Hi_takeBack_19 (t1 : Nat)  (x0 : Int) (σ : zt_S) : Option (Unit × zt_S) :=
  zt_let (zt_up σ 16 1 x0) fun s1 =>
  zt_ck (zt_in ((s1.1 16 2) - (1 : Int))) <| zt_let (zt_up s1 16 2 (if ((s1.1 16 2) - (1 : Int)) < (0 : Int) then (0 : Int) else ((s1.1 16 2) - (1 : Int)))) fun s2 =>
  zt_bd (F_Hi_rowAt (s2.1 16 1) s2) fun a3 s4 =>
  zt_ck (a3 ∈ zt_tabs) <| zt_bd (F_Tb_copyFrom t1 a3 s4) fun _ s6 =>
  some ((), s6)
def F_Hi_takeBack (t1 : Nat)  (σ : zt_S) : Option (Unit × zt_S) :=
  zt_ck (zt_in (σ.1 16 1)) <| if (0 : Int) < (σ.1 16 1) then
    F_Hi_takeBack_19 t1 ((σ.1 16 1) - (1 : Int)) σ
  else
    F_Hi_takeBack_19 t1 (9 : Int) σ
def F_Rw_set_14 (c0 : Nat) (n0 : Nat)   (σ : zt_S) : Option (Unit × zt_S) :=
  some ((), σ)
def F_Rw_set (c0 : Nat) (n0 : Nat) (v1 : Int) (v2 : Int) (σ : zt_S) : Option (Unit × zt_S) :=
  zt_ck (zt_in v1) <| if v1 < (0 : Int) then
    F_Rw_set_14 c0 n0 σ
  else
    zt_ck (zt_in v1 ∧ zt_in ((n0 : Nat) : Int)) <| if v1 < ((n0 : Nat) : Int) then
      zt_ck (0 ≤ v1 ∧ v1 < ((n0 : Nat) : Int)) <| zt_let (zt_up σ c0 v1 v2) fun s1 =>
      F_Rw_set_14 c0 n0 s1
    else
      F_Rw_set_14 c0 n0 σ
def F_Rw_at_17 (c0 : Nat) (n0 : Nat)  (x0 : Int) (σ : zt_S) : Option (Int × zt_S) :=
  some (x0, σ)
def F_Rw_at_16 (c0 : Nat) (n0 : Nat)   (σ : zt_S) : Option (Int × zt_S) :=
  F_Rw_at_17 c0 n0 (0 : Int) σ
def F_Rw_at (c0 : Nat) (n0 : Nat) (v1 : Int) (σ : zt_S) : Option (Int × zt_S) :=
  zt_ck (zt_in v1) <| if v1 < (0 : Int) then
    F_Rw_at_16 c0 n0 σ
  else
    zt_ck (zt_in v1 ∧ zt_in ((n0 : Nat) : Int)) <| if v1 < ((n0 : Nat) : Int) then
      zt_ck (0 ≤ v1 ∧ v1 < ((n0 : Nat) : Int)) <| F_Rw_at_17 c0 n0 (σ.1 c0 v1) σ
    else
      F_Rw_at_16 c0 n0 σ
def F_Pk_cardAt  (v1 : Int) (σ : zt_S) : Option (Int × zt_S) :=
  zt_bd (F_Rw_at 5 52 v1 σ) fun a1 s2 =>
  some (a1, s2)
def F_Pk_exchange  (v1 : Int) (v2 : Int) (σ : zt_S) : Option (Unit × zt_S) :=
  zt_bd (F_Pk_cardAt v1 σ) fun a1 s2 =>
  zt_bd (F_Pk_cardAt v2 s2) fun a3 s4 =>
  zt_bd (F_Rw_set 5 52 v1 a3 s4) fun _ s6 =>
  zt_bd (F_Rw_set 5 52 v2 a1 s6) fun _ s8 =>
  some ((), s8)
def F_Pk_mix_29   : Nat → Int → Int → zt_S → Option (Unit × zt_S)
  | 0, _, _, _ => none
  | n + 1, v3, v4, σ =>
  zt_ck (zt_in v4) <| if v4 < (1 : Int) then
    some ((), σ)
  else
    zt_ck (0 ≤ ((v3 * (1103 : Int)) + (12345 : Int)) ∧ ((v3 * (1103 : Int)) + (12345 : Int)) < 2147483648) <| zt_ck ((0 ≤ (((v3 * (1103 : Int)) + (12345 : Int)) % (100003 : Int)) ∧ (((v3 * (1103 : Int)) + (12345 : Int)) % (100003 : Int)) < 2147483648) ∧ (0 < (v4 + (1 : Int)) ∧ (v4 + (1 : Int)) < 2147483648)) <| zt_bd (F_Pk_exchange v4 ((((v3 * (1103 : Int)) + (12345 : Int)) % (100003 : Int)) % (v4 + (1 : Int))) σ) fun _ s4 =>
    F_Pk_mix_29 n (((v3 * (1103 : Int)) + (12345 : Int)) % (100003 : Int)) (v4 + (-1 : Int)) s4
def F_Pk_mix_2   : Nat → Int → Int → Int → zt_S → Option (Unit × zt_S)
  | 0, _, _, _, _ => none
  | n + 1, v1, v2, v3, σ =>
  zt_ck (zt_in v3 ∧ zt_in v2) <| if v3 < v2 then
    zt_bd (F_Rw_set 5 52 v3 v3 σ) fun _ s2 =>
    F_Pk_mix_2 n v1 v2 (v3 + (1 : Int)) s2
  else
    F_Pk_mix_29 zt_N v1 (v2 - (1 : Int)) σ
def F_Pk_mix  (v1 : Int) (v2 : Int) (σ : zt_S) : Option (Unit × zt_S) :=
  F_Pk_mix_2 zt_N v1 v2 (0 : Int) σ
def F_Tk_kindAt_21    (σ : zt_S) : Option (Int × zt_S) :=
  some ((0 : Int), σ)
def F_Tk_kindAt_42    (σ : zt_S) : Option (Int × zt_S) :=
  some ((1 : Int), σ)
def F_Tk_kindAt_75   (x0 : Int) (σ : zt_S) : Option (Int × zt_S) :=
  some (x0, σ)
def F_Tk_kindAt_74    (σ : zt_S) : Option (Int × zt_S) :=
  F_Tk_kindAt_75 (4 : Int) σ
def F_Tk_kindAt_58   (v2 : Int) (σ : zt_S) : Option (Int × zt_S) :=
  zt_ck (zt_in v2) <| if v2 < (48 : Int) then
    F_Tk_kindAt_74 σ
  else
    zt_ck (zt_in v2) <| if (57 : Int) < v2 then
      F_Tk_kindAt_74 σ
    else
      F_Tk_kindAt_75 (3 : Int) σ
def F_Tk_kindAt  (v1 : Int) (σ : zt_S) : Option (Int × zt_S) :=
  zt_ck (zt_in v1) <| if v1 < (0 : Int) then
    F_Tk_kindAt_21 σ
  else
    zt_ck (zt_in v1 ∧ zt_in (σ.1 2 1)) <| if v1 < (σ.1 2 1) then
      zt_ck (zt_in v1) <| if v1 < ((500 : Nat) : Int) then
        zt_ck (0 ≤ v1 ∧ v1 < ((500 : Nat) : Int)) <| zt_ck (zt_in (σ.1 1 v1)) <| if (σ.1 1 v1) = (32 : Int) then
          F_Tk_kindAt_42 σ
        else
          zt_ck (zt_in (σ.1 1 v1)) <| if (σ.1 1 v1) = (10 : Int) then
            F_Tk_kindAt_42 σ
          else
            zt_ck (zt_in (σ.1 1 v1)) <| if (σ.1 1 v1) < (97 : Int) then
              F_Tk_kindAt_58 (σ.1 1 v1) σ
            else
              zt_ck (zt_in (σ.1 1 v1)) <| if (122 : Int) < (σ.1 1 v1) then
                F_Tk_kindAt_58 (σ.1 1 v1) σ
              else
                some ((2 : Int), σ)
      else
        F_Tk_kindAt_21 σ
    else
      F_Tk_kindAt_21 σ
def F_Tk_byteAt_27   (x0 : Int) (σ : zt_S) : Option (Int × zt_S) :=
  some (x0, σ)
def F_Tk_byteAt_26    (σ : zt_S) : Option (Int × zt_S) :=
  F_Tk_byteAt_27 (0 : Int) σ
def F_Tk_byteAt  (v1 : Int) (σ : zt_S) : Option (Int × zt_S) :=
  zt_ck (zt_in v1) <| if v1 < (0 : Int) then
    F_Tk_byteAt_26 σ
  else
    zt_ck (zt_in v1) <| if v1 < ((500 : Nat) : Int) then
      zt_ck (0 ≤ v1 ∧ v1 < ((500 : Nat) : Int)) <| F_Tk_byteAt_27 (zt_and (σ.1 1 v1) (255 : Int)) σ
    else
      F_Tk_byteAt_26 σ
def F_Tk_next_152    (σ : zt_S) : Option (Unit × zt_S) :=
  some ((), σ)
def F_Tk_next_131  (r69 : zt_S → Option (Unit × zt_S))  (σ : zt_S) : Option (Unit × zt_S) :=
  zt_let (zt_up σ 2 3 ((σ.1 2 3) + (1 : Int))) fun s15 =>
  zt_ck (zt_in (s15.1 2 4)) <| if (s15.1 2 4) = (4 : Int) then
    F_Tk_next_152 s15
  else
    r69 s15
def F_Tk_next_69   : Nat → zt_S → Option (Unit × zt_S)
  | 0, _ => none
  | n + 1, σ =>
  zt_ck (zt_in (σ.1 2 3) ∧ zt_in (σ.1 2 1)) <| if (σ.1 2 3) < (σ.1 2 1) then
    zt_bd (F_Tk_kindAt (σ.1 2 3) σ) fun a10 s11 =>
    zt_ck (zt_in a10 ∧ zt_in (s11.1 2 4)) <| if a10 = (s11.1 2 4) then
      zt_ck (zt_in (s11.1 2 4)) <| if (s11.1 2 4) = (3 : Int) then
        zt_bd (F_Tk_byteAt (s11.1 2 3) s11) fun a12 s13 =>
        zt_ck (zt_in ((((s11.1 2 5) * (10 : Int)) + a12) - (48 : Int))) <| zt_let (zt_up s13 2 5 (if ((((s11.1 2 5) * (10 : Int)) + a12) - (48 : Int)) < (1000000 : Int) then ((((s11.1 2 5) * (10 : Int)) + a12) - (48 : Int)) else (1000000 : Int))) fun s14 =>
        F_Tk_next_131 (F_Tk_next_69 n) s14
      else
        F_Tk_next_131 (F_Tk_next_69 n) s11
    else
      F_Tk_next_152 s11
  else
    F_Tk_next_152 σ
def F_Tk_next_44    (σ : zt_S) : Option (Unit × zt_S) :=
  zt_bd (F_Tk_kindAt (σ.1 2 2) σ) fun a5 s6 =>
  zt_let (zt_up s6 2 4 a5) fun s7 =>
  zt_let (zt_up s7 2 5 (0 : Int)) fun s8 =>
  zt_let (zt_up s8 2 3 (s8.1 2 2)) fun s9 =>
  F_Tk_next_69 zt_N s9
def F_Tk_next_8   : Nat → zt_S → Option (Unit × zt_S)
  | 0, _ => none
  | n + 1, σ =>
  zt_ck (zt_in (σ.1 2 2) ∧ zt_in (σ.1 2 1)) <| if (σ.1 2 2) < (σ.1 2 1) then
    zt_bd (F_Tk_kindAt (σ.1 2 2) σ) fun a2 s3 =>
    zt_ck (zt_in a2) <| if a2 = (1 : Int) then
      zt_let (zt_up s3 2 2 ((s3.1 2 2) + (1 : Int))) fun s4 =>
      F_Tk_next_8 n s4
    else
      F_Tk_next_44 s3
  else
    F_Tk_next_44 σ
def F_Tk_next   (σ : zt_S) : Option (Unit × zt_S) :=
  zt_let (zt_up σ 2 2 (σ.1 2 3)) fun s1 =>
  F_Tk_next_8 zt_N s1
def F_Tk_open  (v1 : Int) (σ : zt_S) : Option (Unit × zt_S) :=
  zt_let (zt_up σ 2 1 v1) fun s1 =>
  zt_let (zt_up s1 2 3 (0 : Int)) fun s2 =>
  zt_let (zt_up s2 2 6 (0 : Int)) fun s3 =>
  zt_let (zt_up s3 2 7 (-1 : Int)) fun s4 =>
  zt_bd (F_Tk_next s4) fun _ s6 =>
  some ((), s6)
def F_Tk_hasFailed_12   (x0 : Int) (σ : zt_S) : Option (Int × zt_S) :=
  zt_ck (x0 = 0 ∨ x0 = 1) <| some (x0, σ)
def F_Tk_hasFailed   (σ : zt_S) : Option (Int × zt_S) :=
  zt_ck (zt_in (σ.1 2 6)) <| if (σ.1 2 6) = (0 : Int) then
    F_Tk_hasFailed_12 (0 : Int) σ
  else
    F_Tk_hasFailed_12 (1 : Int) σ
def F_Tk_isWord_28 (w1 : Nat)  : Nat → Int → zt_S → Option (Int × zt_S)
  | 0, _, _ => none
  | n + 1, v2, σ =>
  zt_ck (zt_in v2 ∧ zt_in (zt_sl w1)) <| if v2 < (zt_sl w1) then
    zt_bd (F_Tk_byteAt ((σ.1 2 2) + v2) σ) fun a1 s2 =>
    zt_ck (0 ≤ v2 ∧ v2 < zt_sl w1) <| zt_ck (zt_in a1) <| if a1 = (zt_sc w1 v2) then
      F_Tk_isWord_28 w1 n (v2 + (1 : Int)) s2
    else
      some ((0 : Int), s2)
  else
    some ((1 : Int), σ)
def F_Tk_isWord_24 (w1 : Nat)   (σ : zt_S) : Option (Int × zt_S) :=
  some ((0 : Int), σ)
def F_Tk_isWord (w1 : Nat)  (σ : zt_S) : Option (Int × zt_S) :=
  zt_ck (zt_in (σ.1 2 4)) <| if (σ.1 2 4) = (2 : Int) then
    zt_ck (zt_in ((σ.1 2 3) - (σ.1 2 2)) ∧ zt_in (zt_sl w1)) <| if ((σ.1 2 3) - (σ.1 2 2)) = (zt_sl w1) then
      F_Tk_isWord_28 w1 zt_N (0 : Int) σ
    else
      F_Tk_isWord_24 w1 σ
  else
    F_Tk_isWord_24 w1 σ
def F_Tk_takeWord_15 (w1 : Nat)   (σ : zt_S) : Option (Int × zt_S) :=
  some ((0 : Int), σ)
def F_Tk_takeWord (w1 : Nat)  (σ : zt_S) : Option (Int × zt_S) :=
  zt_bd (F_Tk_hasFailed σ) fun a1 s2 =>
  zt_ck (zt_in a1) <| if a1 = (0 : Int) then
    zt_bd (F_Tk_isWord w1 s2) fun a3 s4 =>
    zt_ck (zt_in a3) <| if a3 = (0 : Int) then
      F_Tk_takeWord_15 w1 s4
    else
      zt_bd (F_Tk_next s4) fun _ s6 =>
      some ((1 : Int), s6)
  else
    F_Tk_takeWord_15 w1 s2
def F_Tk_fail_20    (σ : zt_S) : Option (Unit × zt_S) :=
  some ((), σ)
def F_Tk_fail  (v1 : Int) (σ : zt_S) : Option (Unit × zt_S) :=
  zt_ck (zt_in (σ.1 2 6)) <| if (σ.1 2 6) = (0 : Int) then
    zt_let (zt_up σ 2 6 v1) fun s1 =>
    zt_let (zt_up s1 2 7 (s1.1 2 2)) fun s2 =>
    F_Tk_fail_20 s2
  else
    F_Tk_fail_20 σ
def F_Tk_needWord_13 (w1 : Nat)   (σ : zt_S) : Option (Unit × zt_S) :=
  some ((), σ)
def F_Tk_needWord (w1 : Nat)  (σ : zt_S) : Option (Unit × zt_S) :=
  zt_bd (F_Tk_takeWord w1 σ) fun a1 s2 =>
  zt_ck (zt_in a1) <| if a1 = (0 : Int) then
    zt_bd (F_Tk_fail (1 : Int) s2) fun _ s4 =>
    F_Tk_needWord_13 w1 s4
  else
    F_Tk_needWord_13 w1 s2
def F_QR_add  (v1 : Int) (v2 : Int) (v3 : Int) (σ : zt_S) : Option (Unit × zt_S) :=
  zt_bd (F_Rw_set 141 200 (σ.1 140 4) v1 σ) fun _ s2 =>
  zt_bd (F_Rw_set 142 200 (s2.1 140 4) v2 s2) fun _ s4 =>
  zt_bd (F_Rw_set 143 200 (s4.1 140 4) v3 s4) fun _ s6 =>
  zt_let (zt_up s6 140 4 ((s6.1 140 4) + (1 : Int))) fun s7 =>
  some ((), s7)
def F_QR_addOr_11    (σ : zt_S) : Option (Unit × zt_S) :=
  some ((), σ)
def F_QR_addOr  (v1 : Int) (σ : zt_S) : Option (Unit × zt_S) :=
  zt_ck (zt_in v1) <| if v1 = (0 : Int) then
    F_QR_addOr_11 σ
  else
    zt_bd (F_QR_add (3 : Int) (0 : Int) (0 : Int) σ) fun _ s2 =>
    F_QR_addOr_11 s2
def F_Tk_isSign_25   (x0 : Int) (σ : zt_S) : Option (Int × zt_S) :=
  zt_ck (x0 = 0 ∨ x0 = 1) <| some (x0, σ)
def F_Tk_isSign_24    (σ : zt_S) : Option (Int × zt_S) :=
  F_Tk_isSign_25 (0 : Int) σ
def F_Tk_isSign  (v1 : Int) (σ : zt_S) : Option (Int × zt_S) :=
  zt_ck (zt_in (σ.1 2 4)) <| if (σ.1 2 4) = (4 : Int) then
    zt_bd (F_Tk_byteAt (σ.1 2 2) σ) fun a1 s2 =>
    zt_ck (zt_in a1 ∧ zt_in v1) <| if a1 = v1 then
      F_Tk_isSign_25 (1 : Int) s2
    else
      F_Tk_isSign_24 s2
  else
    F_Tk_isSign_24 σ
def F_Tk_takeSign_15    (σ : zt_S) : Option (Int × zt_S) :=
  some ((0 : Int), σ)
def F_Tk_takeSign  (v1 : Int) (σ : zt_S) : Option (Int × zt_S) :=
  zt_bd (F_Tk_hasFailed σ) fun a1 s2 =>
  zt_ck (zt_in a1) <| if a1 = (0 : Int) then
    zt_bd (F_Tk_isSign v1 s2) fun a3 s4 =>
    zt_ck (zt_in a3) <| if a3 = (0 : Int) then
      F_Tk_takeSign_15 s4
    else
      zt_bd (F_Tk_next s4) fun _ s6 =>
      some ((1 : Int), s6)
  else
    F_Tk_takeSign_15 s2
def F_Tk_needSign_13    (σ : zt_S) : Option (Unit × zt_S) :=
  some ((), σ)
def F_Tk_needSign  (v1 : Int) (σ : zt_S) : Option (Unit × zt_S) :=
  zt_bd (F_Tk_takeSign v1 σ) fun a1 s2 =>
  zt_ck (zt_in a1) <| if a1 = (0 : Int) then
    zt_bd (F_Tk_fail (1 : Int) s2) fun _ s4 =>
    F_Tk_needSign_13 s4
  else
    F_Tk_needSign_13 s2
def F_Tk_isNumber_13   (x0 : Int) (σ : zt_S) : Option (Int × zt_S) :=
  zt_ck (x0 = 0 ∨ x0 = 1) <| some (x0, σ)
def F_Tk_isNumber   (σ : zt_S) : Option (Int × zt_S) :=
  zt_ck (zt_in (σ.1 2 4)) <| if (σ.1 2 4) = (3 : Int) then
    F_Tk_isNumber_13 (1 : Int) σ
  else
    F_Tk_isNumber_13 (0 : Int) σ
def F_Tk_peekNumber_52   (x0 : Int) (σ : zt_S) : Option (Int × zt_S) :=
  some (x0, σ)
def F_Tk_peekNumber_37   (v1 : Int) (σ : zt_S) : Option (Int × zt_S) :=
  zt_bd (F_Tk_hasFailed σ) fun a3 s4 =>
  zt_ck (zt_in a3) <| if a3 = (0 : Int) then
    F_Tk_peekNumber_52 (s4.1 2 5) s4
  else
    F_Tk_peekNumber_52 v1 s4
def F_Tk_peekNumber_32   (v1 : Int) (σ : zt_S) : Option (Int × zt_S) :=
  zt_bd (F_Tk_fail (2 : Int) σ) fun _ s2 =>
  F_Tk_peekNumber_37 v1 s2
def F_Tk_peekNumber  (v1 : Int) (v2 : Int) (σ : zt_S) : Option (Int × zt_S) :=
  zt_ck (zt_in (σ.1 2 4)) <| if (σ.1 2 4) = (3 : Int) then
    zt_ck (zt_in (σ.1 2 5) ∧ zt_in v1) <| if (σ.1 2 5) < v1 then
      F_Tk_peekNumber_32 v1 σ
    else
      zt_ck (zt_in (σ.1 2 5) ∧ zt_in v2) <| if v2 < (σ.1 2 5) then
        F_Tk_peekNumber_32 v1 σ
      else
        F_Tk_peekNumber_37 v1 σ
  else
    zt_bd (F_Tk_fail (1 : Int) σ) fun _ s6 =>
    F_Tk_peekNumber_37 v1 s6
def F_Tk_takeNumber_18   (v3 : Int) (σ : zt_S) : Option (Int × zt_S) :=
  some (v3, σ)
def F_Tk_takeNumber  (v1 : Int) (v2 : Int) (σ : zt_S) : Option (Int × zt_S) :=
  zt_bd (F_Tk_peekNumber v1 v2 σ) fun a1 s2 =>
  zt_bd (F_Tk_hasFailed s2) fun a3 s4 =>
  zt_ck (zt_in a3) <| if a3 = (0 : Int) then
    zt_bd (F_Tk_next s4) fun _ s6 =>
    F_Tk_takeNumber_18 a1 s6
  else
    F_Tk_takeNumber_18 a1 s4
def F_QR_propertyHere_122   (x0 : Int) (σ : zt_S) : Option (Int × zt_S) :=
  some (x0, σ)
def F_QR_propertyHere   (σ : zt_S) : Option (Int × zt_S) :=
  zt_bd (F_Tk_isWord (q_big + 1 + 13) σ) fun a1 s2 =>
  zt_ck (zt_in a1) <| if a1 = (0 : Int) then
    zt_bd (F_Tk_isWord (q_big + 1 + 14) s2) fun a3 s4 =>
    zt_ck (zt_in a3) <| if a3 = (0 : Int) then
      zt_bd (F_Tk_isWord (q_big + 1 + 15) s4) fun a5 s6 =>
      zt_ck (zt_in a5) <| if a5 = (0 : Int) then
        zt_bd (F_Tk_isWord (q_big + 1 + 16) s6) fun a7 s8 =>
        zt_ck (zt_in a7) <| if a7 = (0 : Int) then
          zt_bd (F_Tk_isWord (q_big + 1 + 17) s8) fun a9 s10 =>
          zt_ck (zt_in a9) <| if a9 = (0 : Int) then
            zt_bd (F_Tk_isWord (q_big + 1 + 18) s10) fun a11 s12 =>
            zt_ck (zt_in a11) <| if a11 = (0 : Int) then
              zt_bd (F_Tk_isWord (q_big + 1 + 19) s12) fun a13 s14 =>
              zt_ck (zt_in a13) <| if a13 = (0 : Int) then
                zt_bd (F_Tk_isWord (q_big + 1 + 20) s14) fun a15 s16 =>
                zt_ck (zt_in a15) <| if a15 = (0 : Int) then
                  F_QR_propertyHere_122 (0 : Int) s16
                else
                  F_QR_propertyHere_122 (-8 : Int) s16
              else
                some ((-7 : Int), s14)
            else
              some ((-6 : Int), s12)
          else
            some ((-5 : Int), s10)
        else
          some ((-4 : Int), s8)
      else
        some ((-3 : Int), s6)
    else
      some ((-2 : Int), s4)
  else
    some ((-1 : Int), s2)
def F_QR_readValue_59   (v1 : Int) (σ : zt_S) : Option (Int × zt_S) :=
  some (v1, σ)
def F_QR_readValue   (σ : zt_S) : Option (Int × zt_S) :=
  zt_bd (F_Tk_isNumber σ) fun a1 s2 =>
  zt_ck (zt_in a1) <| if a1 = (0 : Int) then
    zt_bd (F_QR_propertyHere s2) fun a3 s4 =>
    zt_ck (zt_in a3) <| if a3 = (0 : Int) then
      zt_bd (F_Tk_fail (1 : Int) s4) fun _ s6 =>
      F_QR_readValue_59 a3 s6
    else
      zt_bd (F_Tk_hasFailed s4) fun a7 s8 =>
      zt_ck (zt_in a7) <| if a7 = (0 : Int) then
        zt_bd (F_Tk_next s8) fun _ s10 =>
        F_QR_readValue_59 a3 s10
      else
        F_QR_readValue_59 a3 s8
  else
    zt_bd (F_Tk_takeNumber (0 : Int) (9999 : Int) s2) fun a11 s12 =>
    some (a11, s12)
def F_QR_readComparisonSign_50    (σ : zt_S) : Option (Int × zt_S) :=
  some ((61 : Int), σ)
def F_QR_readComparisonSign   (σ : zt_S) : Option (Int × zt_S) :=
  zt_bd (F_Tk_takeSign (60 : Int) σ) fun a1 s2 =>
  zt_ck (zt_in a1) <| if a1 = (0 : Int) then
    zt_bd (F_Tk_takeSign (62 : Int) s2) fun a3 s4 =>
    zt_ck (zt_in a3) <| if a3 = (0 : Int) then
      zt_bd (F_Tk_takeSign (61 : Int) s4) fun a5 s6 =>
      zt_ck (zt_in a5) <| if a5 = (0 : Int) then
        zt_bd (F_Tk_fail (1 : Int) s6) fun _ s8 =>
        F_QR_readComparisonSign_50 s8
      else
        F_QR_readComparisonSign_50 s6
    else
      some ((62 : Int), s4)
  else
    some ((60 : Int), s2)
def F_QR_readTest_83  (w : Int → zt_S → Option (Unit × zt_S))  (v2 : Int) (σ : zt_S) : Option (Unit × zt_S) :=
  zt_bd (F_QR_addOr v2 σ) fun _ s10 =>
  some ((), s10)
def F_QR_readTest_77  (w : Int → zt_S → Option (Unit × zt_S)) (r9 : Int → Int → Int → zt_S → Option (Unit × zt_S)) (v1 : Int) (v2 : Int) (v3 : Int) (σ : zt_S) : Option (Unit × zt_S) :=
  r9 v1 v2 (v3 + (1 : Int)) σ
def F_QR_readTest_9  (w : Int → zt_S → Option (Unit × zt_S))  : Nat → Int → Int → Int → zt_S → Option (Unit × zt_S)
  | 0, _, _, _, _ => none
  | n + 1, v1, v2, v3, σ =>
  zt_ck (zt_in v3) <| if v3 < (200 : Int) then
    zt_bd (F_Tk_hasFailed σ) fun a3 s4 =>
    zt_ck (zt_in a3) <| if a3 = (0 : Int) then
      zt_bd (F_Tk_takeWord (q_big + 1 + 21) s4) fun a5 s6 =>
      zt_ck (zt_in a5) <| if a5 = (0 : Int) then
        zt_bd (F_Tk_takeWord (q_big + 1 + 22) s6) fun a7 s8 =>
        zt_ck (zt_in a7) <| if a7 = (0 : Int) then
          F_QR_readTest_83 w v2 s8
        else
          zt_bd (F_QR_addOr v2 s8) fun _ s12 =>
          zt_bd (w v1 s12) fun _ s14 =>
          F_QR_readTest_77 w (F_QR_readTest_9 w n) v1 (1 : Int) v3 s14
      else
        zt_bd (w v1 s6) fun _ s16 =>
        zt_bd (F_QR_add (2 : Int) (0 : Int) (0 : Int) s16) fun _ s18 =>
        F_QR_readTest_77 w (F_QR_readTest_9 w n) v1 v2 v3 s18
    else
      F_QR_readTest_83 w v2 s4
  else
    F_QR_readTest_83 w v2 σ
def F_QR_readTest  (w : Int → zt_S → Option (Unit × zt_S)) (v1 : Int) (σ : zt_S) : Option (Unit × zt_S) :=
  zt_bd (w v1 σ) fun _ s2 =>
  F_QR_readTest_9 w zt_N v1 (0 : Int) (0 : Int) s2
def F_QR_readFactor_121  (w : Int → zt_S → Option (Unit × zt_S))   (σ : zt_S) : Option (Unit × zt_S) :=
  some ((), σ)
def F_QR_readFactor_41  (w : Int → zt_S → Option (Unit × zt_S))  (v1 : Int) (σ : zt_S) : Option (Unit × zt_S) :=
  zt_bd (F_Tk_takeWord (q_big + 1 + 12) σ) fun a1 s2 =>
  zt_ck (zt_in a1) <| if a1 = (0 : Int) then
    zt_bd (F_Tk_takeSign (40 : Int) s2) fun a3 s4 =>
    zt_ck (zt_in a3) <| if a3 = (0 : Int) then
      zt_bd (F_QR_readValue s4) fun a5 s6 =>
      zt_bd (F_QR_readComparisonSign s6) fun a7 s8 =>
      zt_bd (F_QR_readValue s8) fun a9 s10 =>
      zt_bd (F_QR_add a7 a5 a9 s10) fun _ s12 =>
      F_QR_readFactor_121 w s12
    else
      zt_bd (F_QR_readTest w (v1 + (1 : Int)) s4) fun _ s14 =>
      zt_bd (F_Tk_needSign (41 : Int) s14) fun _ s16 =>
      F_QR_readFactor_121 w s16
  else
    zt_bd (w (v1 + (1 : Int)) s2) fun _ s18 =>
    zt_bd (F_QR_add (1 : Int) (0 : Int) (0 : Int) s18) fun _ s20 =>
    F_QR_readFactor_121 w s20
def F_QR_readFactor_30  (w : Int → zt_S → Option (Unit × zt_S))   (σ : zt_S) : Option (Unit × zt_S) :=
  zt_bd (F_Tk_fail (3 : Int) σ) fun _ s26 =>
  F_QR_readFactor_121 w s26
def F_QR_readFactor  : Nat → Int → zt_S → Option (Unit × zt_S)
  | 0, _, _ => none
  | n + 1, v1, σ =>
  zt_ck (zt_in v1) <| if v1 < (6 : Int) then
    F_QR_readFactor_41 (F_QR_readFactor n) v1 σ
  else
    zt_bd (F_Tk_isWord (q_big + 1 + 12) σ) fun a21 s22 =>
    zt_ck (zt_in a21) <| if a21 = (0 : Int) then
      zt_bd (F_Tk_isSign (40 : Int) s22) fun a23 s24 =>
      zt_ck (zt_in a23) <| if a23 = (0 : Int) then
        F_QR_readFactor_41 (F_QR_readFactor n) v1 s24
      else
        F_QR_readFactor_30 (F_QR_readFactor n) s24
    else
      F_QR_readFactor_30 (F_QR_readFactor n) s22
def F_Tk_isAtEnd_12   (x0 : Int) (σ : zt_S) : Option (Int × zt_S) :=
  zt_ck (x0 = 0 ∨ x0 = 1) <| some (x0, σ)
def F_Tk_isAtEnd   (σ : zt_S) : Option (Int × zt_S) :=
  zt_ck (zt_in (σ.1 2 4)) <| if (σ.1 2 4) = (0 : Int) then
    F_Tk_isAtEnd_12 (1 : Int) σ
  else
    F_Tk_isAtEnd_12 (0 : Int) σ
def F_QR_read_65    (σ : zt_S) : Option (Int × zt_S) :=
  some ((σ.1 2 6), σ)
def F_QR_read_42    (σ : zt_S) : Option (Int × zt_S) :=
  zt_bd (F_QR_readTest (F_QR_readFactor 10) (0 : Int) σ) fun _ s10 =>
  zt_bd (F_Tk_isAtEnd s10) fun a11 s12 =>
  zt_ck (zt_in a11) <| if a11 = (0 : Int) then
    zt_bd (F_Tk_fail (1 : Int) s12) fun _ s14 =>
    F_QR_read_65 s14
  else
    F_QR_read_65 s12
def F_QR_read  (v1 : Int) (σ : zt_S) : Option (Int × zt_S) :=
  zt_let (zt_up σ 140 4 (0 : Int)) fun s1 =>
  zt_bd (F_Tk_open v1 s1) fun _ s3 =>
  zt_bd (F_Tk_takeWord (q_big + 1 + 10) s3) fun a4 s5 =>
  zt_ck (a4 = 0 ∨ a4 = 1) <| zt_let (zt_up s5 140 5 a4) fun s6 =>
  zt_ck (zt_in (s6.1 140 5)) <| if (s6.1 140 5) = (0 : Int) then
    zt_bd (F_Tk_needWord (q_big + 1 + 11) s6) fun _ s8 =>
    F_QR_read_42 s8
  else
    F_QR_read_42 s6
def F_Su_cardsOfHands (t0 : Nat)  (σ : zt_S) : Option (Int × zt_S) :=
  some (((σ.1 t0 1) * (σ.1 t0 2)), σ)
def F_Tb_isOver_19 (t0 : Nat)  (x0 : Int) (σ : zt_S) : Option (Int × zt_S) :=
  zt_ck (x0 = 0 ∨ x0 = 1) <| some (x0, σ)
def F_Tb_isOver (t0 : Nat)  (σ : zt_S) : Option (Int × zt_S) :=
  zt_bd (F_Su_cardsOfHands (zt_su t0) σ) fun a1 s2 =>
  zt_ck (zt_in (σ.1 t0 16) ∧ zt_in a1) <| if (σ.1 t0 16) < a1 then
    F_Tb_isOver_19 t0 (0 : Int) s2
  else
    F_Tb_isOver_19 t0 (1 : Int) s2
def F_Tb_handOf_23 (t0 : Nat)  (x0 : Int64) (σ : zt_S) : Option (Int64 × zt_S) :=
  some (x0, σ)
def F_Tb_handOf_22 (t0 : Nat)   (σ : zt_S) : Option (Int64 × zt_S) :=
  F_Tb_handOf_23 t0 (0 : Int64) σ
def F_Tb_handOf (t0 : Nat) (v1 : Int) (σ : zt_S) : Option (Int64 × zt_S) :=
  zt_ck (zt_in v1) <| if v1 < (0 : Int) then
    F_Tb_handOf_22 t0 σ
  else
    zt_ck (zt_in v1) <| if v1 < ((4 : Nat) : Int) then
      zt_ck (0 ≤ v1 ∧ v1 < ((4 : Nat) : Int)) <| F_Tb_handOf_23 t0 (σ.2.1 (t0 + 2) v1) σ
    else
      F_Tb_handOf_22 t0 σ
def F_Su_cardsOf_24 (t0 : Nat)  (x0 : Int64) (σ : zt_S) : Option (Int64 × zt_S) :=
  some (x0, σ)
def F_Su_cardsOf (t0 : Nat) (v1 : Int) (σ : zt_S) : Option (Int64 × zt_S) :=
  zt_ck (zt_in v1) <| if v1 = (-1 : Int) then
    F_Su_cardsOf_24 t0 (0 : Int64) σ
  else
    F_Su_cardsOf_24 t0 (zt_ls ((zt_ls (1 : Int64) (σ.1 t0 0)) - (1 : Int64)) (v1 * (σ.1 t0 0))) σ
def F_Tr_higherOf_57 (t0 : Nat) (t1 : Nat)  (x0 : Int64) (σ : zt_S) : Option (Int64 × zt_S) :=
  some (x0, σ)
def F_Tr_higherOf_23 (t0 : Nat) (t1 : Nat)  (v2 : Int64) (x0 : Int) (x1 : Int) (σ : zt_S) : Option (Int64 × zt_S) :=
  zt_ck (zt_in (x1 - x0) ∧ zt_in (σ.1 t1 0)) <| if (x1 - x0) < (σ.1 t1 0) then
    F_Tr_higherOf_57 t0 t1 (v2 &&& (zt_ls (-1 : Int64) (((σ.1 t0 3) * (σ.1 t1 0)) + (x1 - x0)))) σ
  else
    F_Tr_higherOf_57 t0 t1 (0 : Int64) σ
def F_Tr_higherOf (t0 : Nat) (t1 : Nat) (v2 : Int64) (σ : zt_S) : Option (Int64 × zt_S) :=
  zt_ck (zt_in (σ.1 t0 3) ∧ zt_in (σ.1 t0 7)) <| if (σ.1 t0 3) = (σ.1 t0 7) then
    F_Tr_higherOf_23 t0 t1 v2 (σ.1 t0 8) (σ.1 t0 4) σ
  else
    F_Tr_higherOf_23 t0 t1 v2 (0 : Int) (σ.1 t0 4) σ
def F_Tr_allowed_12 (t0 : Nat) (t1 : Nat)  (v2 : Int64) (σ : zt_S) : Option (Int64 × zt_S) :=
  some (v2, σ)
def F_Tr_allowed_102 (t0 : Nat) (t1 : Nat)  (x0 : Int64) (σ : zt_S) : Option (Int64 × zt_S) :=
  some (x0, σ)
def F_Tr_allowed_87 (t0 : Nat) (t1 : Nat)  (v2 : Int64) (x0 : Int64) (σ : zt_S) : Option (Int64 × zt_S) :=
  if (zt_lc x0 (0 : Int64)) = (0 : Int) then
    F_Tr_allowed_102 t0 t1 v2 σ
  else
    F_Tr_allowed_102 t0 t1 x0 σ
def F_Tr_allowed_66 (t0 : Nat) (t1 : Nat)  (x0 : Int64) (σ : zt_S) : Option (Int64 × zt_S) :=
  some (x0, σ)
def F_Tr_allowed_50 (t0 : Nat) (t1 : Nat)  (v5 : Int64) (x0 : Int64) (σ : zt_S) : Option (Int64 × zt_S) :=
  if (zt_lc x0 (0 : Int64)) = (0 : Int) then
    F_Tr_allowed_66 t0 t1 v5 σ
  else
    F_Tr_allowed_66 t0 t1 x0 σ
def F_Tr_allowed (t0 : Nat) (t1 : Nat) (v2 : Int64) (v4 : Int) (σ : zt_S) : Option (Int64 × zt_S) :=
  zt_ck (zt_in (σ.1 t0 2)) <| if (σ.1 t0 2) = (0 : Int) then
    F_Tr_allowed_12 t0 t1 v2 σ
  else
    zt_ck (zt_in v4) <| if v4 = (0 : Int) then
      F_Tr_allowed_12 t0 t1 v2 σ
    else
      zt_bd (F_Su_cardsOf t1 (σ.1 t0 3) σ) fun a1 s2 =>
      if (zt_lc (v2 &&& a1) (0 : Int64)) = (0 : Int) then
        zt_ck (zt_in v4) <| if v4 = (3 : Int) then
          zt_bd (F_Su_cardsOf t1 (s2.1 t0 7) s2) fun a3 s4 =>
          F_Tr_allowed_87 t0 t1 v2 (v2 &&& a3) s4
        else
          F_Tr_allowed_87 t0 t1 v2 (0 : Int64) s2
      else
        zt_ck (zt_in v4) <| if v4 = (2 : Int) then
          zt_bd (F_Tr_higherOf t0 t1 (v2 &&& a1) s2) fun a5 s6 =>
          F_Tr_allowed_50 t0 t1 (v2 &&& a1) a5 s6
        else
          F_Tr_allowed_50 t0 t1 (v2 &&& a1) (0 : Int64) s2
def F_Tb_allowedCards_37 (t0 : Nat)  (x0 : Int64) (σ : zt_S) : Option (Int64 × zt_S) :=
  some (x0, σ)
def F_Tb_allowedCards (t0 : Nat)  (σ : zt_S) : Option (Int64 × zt_S) :=
  zt_bd (F_Tb_isOver t0 σ) fun a1 s2 =>
  zt_ck (zt_in a1) <| if a1 = (0 : Int) then
    zt_bd (F_Tb_handOf t0 (s2.1 (t0 + 1) 1) s2) fun a3 s4 =>
    zt_bd (F_Tr_allowed (t0 + 1) (zt_su t0) a3 (s4.1 t0 11) s4) fun a5 s6 =>
    F_Tb_allowedCards_37 t0 a5 s6
  else
    F_Tb_allowedCards_37 t0 (0 : Int64) s2
def F_Tb_holderOf_2 (t0 : Nat)  : Nat → Int → Int → zt_S → Option (Int × zt_S)
  | 0, _, _, _ => none
  | n + 1, v1, v2, σ =>
  zt_ck (zt_in v2 ∧ zt_in (σ.1 (zt_su t0) 1)) <| if v2 < (σ.1 (zt_su t0) 1) then
    zt_bd (F_Tb_handOf t0 v2 σ) fun a1 s2 =>
    zt_bd (F_Rw_has a1 v1 s2) fun a3 s4 =>
    zt_ck (zt_in a3) <| if a3 = (0 : Int) then
      F_Tb_holderOf_2 t0 n v1 (v2 + (1 : Int)) s4
    else
      some (v2, s4)
  else
    some ((-1 : Int), σ)
def F_Tb_holderOf (t0 : Nat) (v1 : Int) (σ : zt_S) : Option (Int × zt_S) :=
  F_Tb_holderOf_2 t0 zt_N v1 (0 : Int) σ
def F_Tr_powerOf_49 (t0 : Nat) (t1 : Nat)  (x0 : Int) (σ : zt_S) : Option (Int × zt_S) :=
  some (x0, σ)
def F_Tr_powerOf_40 (t0 : Nat) (t1 : Nat)  (v2 : Int) (σ : zt_S) : Option (Int × zt_S) :=
  zt_bd (F_Su_rankOf t1 v2 σ) fun a5 s6 =>
  F_Tr_powerOf_49 t0 t1 a5 s6
def F_Tr_powerOf (t0 : Nat) (t1 : Nat) (v2 : Int) (σ : zt_S) : Option (Int × zt_S) :=
  zt_bd (F_Su_suitOf t1 v2 σ) fun a1 s2 =>
  zt_ck (zt_in a1 ∧ zt_in (s2.1 t0 7)) <| if a1 = (s2.1 t0 7) then
    zt_bd (F_Su_rankOf t1 v2 s2) fun a3 s4 =>
    some ((a3 + (s4.1 t0 8)), s4)
  else
    zt_ck (zt_in (s2.1 t0 2)) <| if (s2.1 t0 2) = (0 : Int) then
      F_Tr_powerOf_40 t0 t1 v2 s2
    else
      zt_ck (zt_in a1 ∧ zt_in (s2.1 t0 3)) <| if a1 = (s2.1 t0 3) then
        F_Tr_powerOf_40 t0 t1 v2 s2
      else
        F_Tr_powerOf_49 t0 t1 (0 : Int) s2
def F_QR_valueOf_155 (t0 : Nat)  (x0 : Int) (σ : zt_S) : Option (Int × zt_S) :=
  some (x0, σ)
def F_QR_valueOf_131 (t0 : Nat)  (x0 : Int) (σ : zt_S) : Option (Int × zt_S) :=
  some (x0, σ)
def F_QR_valueOf_104 (t0 : Nat)  (x0 : Int) (σ : zt_S) : Option (Int × zt_S) :=
  some (x0, σ)
def F_QR_valueOf_87 (t0 : Nat)  (x0 : Int) (σ : zt_S) : Option (Int × zt_S) :=
  some (x0, σ)
def F_QR_valueOf (t0 : Nat) (v1 : Int) (v2 : Int64) (v4 : Int) (σ : zt_S) : Option (Int × zt_S) :=
  zt_ck (zt_in v4) <| if v4 = (-8 : Int) then
    zt_bd (F_Su_suitOf (zt_su t0) v1 σ) fun a1 s2 =>
    zt_ck (zt_in a1 ∧ zt_in (s2.1 (t0 + 1) 7)) <| if a1 = (s2.1 (t0 + 1) 7) then
      F_QR_valueOf_155 t0 (1 : Int) s2
    else
      F_QR_valueOf_155 t0 (0 : Int) s2
  else if v4 = (-7 : Int) then
    zt_bd (F_Rw_has v2 v1 σ) fun a3 s4 =>
    zt_ck (zt_in a3) <| if a3 = (0 : Int) then
      F_QR_valueOf_131 t0 (0 : Int) s4
    else
      F_QR_valueOf_131 t0 (1 : Int) s4
  else if v4 = (-6 : Int) then
    zt_bd (F_Tr_powerOf (t0 + 1) (zt_su t0) v1 σ) fun a5 s6 =>
    some (a5, s6)
  else if v4 = (-5 : Int) then
    zt_bd (F_Rw_has (σ.2.1 t0 10) v1 σ) fun a7 s8 =>
    zt_ck (zt_in a7) <| if a7 = (0 : Int) then
      F_QR_valueOf_104 t0 (0 : Int) s8
    else
      F_QR_valueOf_104 t0 (1 : Int) s8
  else if v4 = (-4 : Int) then
    zt_bd (F_Tb_holderOf t0 v1 σ) fun a9 s10 =>
    zt_ck (zt_in a9) <| if a9 = (-1 : Int) then
      F_QR_valueOf_87 t0 (9 : Int) s10
    else
      zt_bd (F_Tb_holderOf t0 v1 s10) fun a11 s12 =>
      F_QR_valueOf_87 t0 a11 s12
  else if v4 = (-3 : Int) then
    zt_bd (F_Su_rankOf (zt_su t0) v1 σ) fun a13 s14 =>
    some (a13, s14)
  else if v4 = (-2 : Int) then
    zt_bd (F_Su_suitOf (zt_su t0) v1 σ) fun a15 s16 =>
    some (a15, s16)
  else if v4 = (-1 : Int) then
    some (v1, σ)
  else 
  some (v4, σ)
def F_QR_compares_16   (x0 : Int) (σ : zt_S) : Option (Int × zt_S) :=
  zt_ck (x0 = 0 ∨ x0 = 1) <| some (x0, σ)
def F_QR_compares_46   (x0 : Int) (σ : zt_S) : Option (Int × zt_S) :=
  zt_ck (x0 = 0 ∨ x0 = 1) <| some (x0, σ)
def F_QR_compares  (v0 : Int) (v1 : Int) (v2 : Int) (σ : zt_S) : Option (Int × zt_S) :=
  zt_ck (zt_in v0) <| if v0 = (60 : Int) then
    zt_ck (zt_in v1 ∧ zt_in v2) <| if v1 < v2 then
      F_QR_compares_16 (1 : Int) σ
    else
      F_QR_compares_16 (0 : Int) σ
  else
    zt_ck (zt_in v0) <| if v0 = (62 : Int) then
      zt_ck (zt_in v1 ∧ zt_in v2) <| if v2 < v1 then
        F_QR_compares_46 (1 : Int) σ
      else
        F_QR_compares_46 (0 : Int) σ
    else
      zt_ck (zt_in v1 ∧ zt_in v2) <| if v1 = v2 then
        F_QR_compares_46 (1 : Int) σ
      else
        F_QR_compares_46 (0 : Int) σ
def F_QR_holds_142 (t1 : Nat) (r6 : Int → Int64 → Int → Int → zt_S → Option (Int × zt_S)) (v2 : Int) (v3 : Int64) (v5 : Int) (v6 : Int) (σ : zt_S) : Option (Int × zt_S) :=
  r6 v2 v3 v5 (v6 + (1 : Int)) σ
def F_QR_holds_139 (t1 : Nat) (r6 : Int → Int64 → Int → Int → zt_S → Option (Int × zt_S)) (v2 : Int) (v3 : Int64) (v6 : Int) (x0 : Int) (x1 : Int) (σ : zt_S) : Option (Int × zt_S) :=
  F_QR_holds_142 t1 r6 v2 v3 (zt_or x1 x0) v6 σ
def F_QR_holds_160 (t1 : Nat)  (x0 : Int) (σ : zt_S) : Option (Int × zt_S) :=
  zt_ck (x0 = 0 ∨ x0 = 1) <| some (x0, σ)
def F_QR_holds_148 (t1 : Nat)  (v5 : Int) (σ : zt_S) : Option (Int × zt_S) :=
  if (zt_and v5 (1 : Int)) = (0 : Int) then
    F_QR_holds_160 t1 (0 : Int) σ
  else
    F_QR_holds_160 t1 (1 : Int) σ
def F_QR_holds_6 (t1 : Nat)  : Nat → Int → Int64 → Int → Int → zt_S → Option (Int × zt_S)
  | 0, _, _, _, _, _ => none
  | n + 1, v2, v3, v5, v6, σ =>
  zt_ck (zt_in v6 ∧ zt_in (σ.1 140 4)) <| if v6 < (σ.1 140 4) then
    zt_bd (F_Rw_at 141 200 v6 σ) fun a1 s2 =>
    zt_ck (zt_in a1) <| if a1 = (1 : Int) then
      F_QR_holds_142 t1 (F_QR_holds_6 t1 n) v2 v3 (zt_xor v5 (1 : Int)) v6 s2
    else
      zt_ck (zt_in a1) <| if a1 = (2 : Int) then
        F_QR_holds_142 t1 (F_QR_holds_6 t1 n) v2 v3 (zt_and (zt_shr v5 (1 : Int)) (zt_or v5 (-2 : Int))) v6 s2
      else
        zt_ck (zt_in a1) <| if a1 = (3 : Int) then
          F_QR_holds_142 t1 (F_QR_holds_6 t1 n) v2 v3 (zt_or (zt_shr v5 (1 : Int)) (zt_and v5 (1 : Int))) v6 s2
        else
          zt_bd (F_Rw_at 142 200 v6 s2) fun a3 s4 =>
          zt_bd (F_QR_valueOf t1 v2 v3 a3 s4) fun a5 s6 =>
          zt_bd (F_Rw_at 143 200 v6 s6) fun a7 s8 =>
          zt_bd (F_QR_valueOf t1 v2 v3 a7 s8) fun a9 s10 =>
          zt_bd (F_QR_compares a1 a5 a9 s10) fun a11 s12 =>
          zt_ck (zt_in a11) <| if a11 = (0 : Int) then
            F_QR_holds_139 t1 (F_QR_holds_6 t1 n) v2 v3 v6 (0 : Int) (zt_shl v5 (1 : Int)) s12
          else
            F_QR_holds_139 t1 (F_QR_holds_6 t1 n) v2 v3 v6 (1 : Int) (zt_shl v5 (1 : Int)) s12
  else
    F_QR_holds_148 t1 v5 σ
def F_QR_holds (t1 : Nat) (v2 : Int) (v3 : Int64) (σ : zt_S) : Option (Int × zt_S) :=
  F_QR_holds_6 t1 zt_N v2 v3 (0 : Int) (0 : Int) σ
def F_QR_answer_47 (t1 : Nat) (r11 : Int64 → Int → Int → zt_S → Option (Int × zt_S)) (v2 : Int64) (v4 : Int) (v5 : Int) (σ : zt_S) : Option (Int × zt_S) :=
  r11 v2 v4 (v5 + (1 : Int)) σ
def F_QR_answer_66 (t1 : Nat)  (x0 : Int) (σ : zt_S) : Option (Int × zt_S) :=
  some (x0, σ)
def F_QR_answer_53 (t1 : Nat)  (v4 : Int) (σ : zt_S) : Option (Int × zt_S) :=
  zt_ck (zt_in (σ.1 140 5)) <| if (σ.1 140 5) = (0 : Int) then
    F_QR_answer_66 t1 (-1 : Int) σ
  else
    F_QR_answer_66 t1 v4 σ
def F_QR_answer_11 (t1 : Nat)  : Nat → Int64 → Int → Int → zt_S → Option (Int × zt_S)
  | 0, _, _, _, _ => none
  | n + 1, v2, v4, v5, σ =>
  zt_bd (F_Su_cardCount (zt_su t1) σ) fun a3 s4 =>
  zt_ck (zt_in v5 ∧ zt_in a3) <| if v5 < a3 then
    zt_bd (F_QR_holds t1 v5 v2 s4) fun a5 s6 =>
    zt_ck (zt_in a5) <| if a5 = (0 : Int) then
      F_QR_answer_47 t1 (F_QR_answer_11 t1 n) v2 v4 v5 s6
    else
      zt_ck (zt_in (s6.1 140 5)) <| if (s6.1 140 5) = (0 : Int) then
        some (v5, s6)
      else
        F_QR_answer_47 t1 (F_QR_answer_11 t1 n) v2 (v4 + (1 : Int)) v5 s6
  else
    F_QR_answer_53 t1 v4 s4
def F_QR_answer (t1 : Nat)  (σ : zt_S) : Option (Int × zt_S) :=
  zt_bd (F_Tb_allowedCards t1 σ) fun a1 s2 =>
  F_QR_answer_11 t1 zt_N a1 (0 : Int) (0 : Int) s2
def F_Su_copyFrom (t0 : Nat) (t1 : Nat)  (σ : zt_S) : Option (Unit × zt_S) :=
  zt_let (zt_up σ t0 0 (σ.1 t1 0)) fun s1 =>
  zt_let (zt_up s1 t0 1 (s1.1 t1 1)) fun s2 =>
  zt_let (zt_up s2 t0 2 (s2.1 t1 2)) fun s3 =>
  zt_let (zt_up s3 t0 3 (s3.1 t1 3)) fun s4 =>
  some ((), s4)
def F_Su_mostHeld_26 (t0 : Nat)  (x0 : Int) (σ : zt_S) : Option (Int × zt_S) :=
  some (x0, σ)
def F_Su_mostHeld (t0 : Nat)  (σ : zt_S) : Option (Int × zt_S) :=
  zt_ck (zt_in (σ.1 t0 1)) <| if (0 : Int) < (σ.1 t0 1) then
    zt_bd (F_Su_cardCount t0 σ) fun a1 s2 =>
    zt_ck ((0 ≤ a1 ∧ a1 < 2147483648) ∧ (0 < (s2.1 t0 1) ∧ (s2.1 t0 1) < 2147483648)) <| zt_ck (zt_in (a1 / (s2.1 t0 1))) <| F_Su_mostHeld_26 t0 (if (13 : Int) < (a1 / (s2.1 t0 1)) then (13 : Int) else (a1 / (s2.1 t0 1))) s2
  else
    F_Su_mostHeld_26 t0 (13 : Int) σ
def F_Su_trickOf_17 (t0 : Nat)  (x0 : Int) (σ : zt_S) : Option (Int × zt_S) :=
  some (x0, σ)
def F_Su_trickOf (t0 : Nat) (v1 : Int) (σ : zt_S) : Option (Int × zt_S) :=
  zt_ck (zt_in (σ.1 t0 1)) <| if (0 : Int) < (σ.1 t0 1) then
    zt_ck ((0 ≤ v1 ∧ v1 < 2147483648) ∧ (0 < (σ.1 t0 1) ∧ (σ.1 t0 1) < 2147483648)) <| F_Su_trickOf_17 t0 (v1 / (σ.1 t0 1)) σ
  else
    F_Su_trickOf_17 t0 (0 : Int) σ
def F_Su_behind_17 (t0 : Nat)  (x0 : Int) (σ : zt_S) : Option (Int × zt_S) :=
  some (x0, σ)
def F_Su_behind (t0 : Nat) (v1 : Int) (σ : zt_S) : Option (Int × zt_S) :=
  zt_ck (zt_in (v1 + (1 : Int)) ∧ zt_in (σ.1 t0 1)) <| if (v1 + (1 : Int)) < (σ.1 t0 1) then
    F_Su_behind_17 t0 (v1 + (1 : Int)) σ
  else
    F_Su_behind_17 t0 (0 : Int) σ
def F_Tb_allHands_4 (t0 : Nat)  : Nat → Int64 → Int → zt_S → Option (Int64 × zt_S)
  | 0, _, _, _ => none
  | n + 1, v1, v3, σ =>
  zt_ck (zt_in v3) <| if v3 < ((4 : Nat) : Int) then
    zt_ck (0 ≤ v3 ∧ v3 < ((4 : Nat) : Int)) <| F_Tb_allHands_4 t0 n (v1 ||| (σ.2.1 (t0 + 2) v3)) (v3 + (1 : Int)) σ
  else
    some (v1, σ)
def F_Tb_allHands (t0 : Nat)  (σ : zt_S) : Option (Int64 × zt_S) :=
  F_Tb_allHands_4 t0 zt_N (0 : Int64) (0 : Int) σ
def F_J_bitCount  (v0 : Int64) (σ : zt_S) : Option (Int × zt_S) :=
  some ((zt_and (zt_i ((((((((v0 - ((zt_us v0 (1 : Int)) &&& (6148914691236517205 : Int64))) &&& (3689348814741910323 : Int64)) + ((zt_us (v0 - ((zt_us v0 (1 : Int)) &&& (6148914691236517205 : Int64))) (2 : Int)) &&& (3689348814741910323 : Int64))) + (zt_us (((v0 - ((zt_us v0 (1 : Int)) &&& (6148914691236517205 : Int64))) &&& (3689348814741910323 : Int64)) + ((zt_us (v0 - ((zt_us v0 (1 : Int)) &&& (6148914691236517205 : Int64))) (2 : Int)) &&& (3689348814741910323 : Int64))) (4 : Int))) &&& (1085102592571150095 : Int64)) + (zt_us (((((v0 - ((zt_us v0 (1 : Int)) &&& (6148914691236517205 : Int64))) &&& (3689348814741910323 : Int64)) + ((zt_us (v0 - ((zt_us v0 (1 : Int)) &&& (6148914691236517205 : Int64))) (2 : Int)) &&& (3689348814741910323 : Int64))) + (zt_us (((v0 - ((zt_us v0 (1 : Int)) &&& (6148914691236517205 : Int64))) &&& (3689348814741910323 : Int64)) + ((zt_us (v0 - ((zt_us v0 (1 : Int)) &&& (6148914691236517205 : Int64))) (2 : Int)) &&& (3689348814741910323 : Int64))) (4 : Int))) &&& (1085102592571150095 : Int64)) (8 : Int))) + (zt_us ((((((v0 - ((zt_us v0 (1 : Int)) &&& (6148914691236517205 : Int64))) &&& (3689348814741910323 : Int64)) + ((zt_us (v0 - ((zt_us v0 (1 : Int)) &&& (6148914691236517205 : Int64))) (2 : Int)) &&& (3689348814741910323 : Int64))) + (zt_us (((v0 - ((zt_us v0 (1 : Int)) &&& (6148914691236517205 : Int64))) &&& (3689348814741910323 : Int64)) + ((zt_us (v0 - ((zt_us v0 (1 : Int)) &&& (6148914691236517205 : Int64))) (2 : Int)) &&& (3689348814741910323 : Int64))) (4 : Int))) &&& (1085102592571150095 : Int64)) + (zt_us (((((v0 - ((zt_us v0 (1 : Int)) &&& (6148914691236517205 : Int64))) &&& (3689348814741910323 : Int64)) + ((zt_us (v0 - ((zt_us v0 (1 : Int)) &&& (6148914691236517205 : Int64))) (2 : Int)) &&& (3689348814741910323 : Int64))) + (zt_us (((v0 - ((zt_us v0 (1 : Int)) &&& (6148914691236517205 : Int64))) &&& (3689348814741910323 : Int64)) + ((zt_us (v0 - ((zt_us v0 (1 : Int)) &&& (6148914691236517205 : Int64))) (2 : Int)) &&& (3689348814741910323 : Int64))) (4 : Int))) &&& (1085102592571150095 : Int64)) (8 : Int))) (16 : Int))) + (zt_us (((((((v0 - ((zt_us v0 (1 : Int)) &&& (6148914691236517205 : Int64))) &&& (3689348814741910323 : Int64)) + ((zt_us (v0 - ((zt_us v0 (1 : Int)) &&& (6148914691236517205 : Int64))) (2 : Int)) &&& (3689348814741910323 : Int64))) + (zt_us (((v0 - ((zt_us v0 (1 : Int)) &&& (6148914691236517205 : Int64))) &&& (3689348814741910323 : Int64)) + ((zt_us (v0 - ((zt_us v0 (1 : Int)) &&& (6148914691236517205 : Int64))) (2 : Int)) &&& (3689348814741910323 : Int64))) (4 : Int))) &&& (1085102592571150095 : Int64)) + (zt_us (((((v0 - ((zt_us v0 (1 : Int)) &&& (6148914691236517205 : Int64))) &&& (3689348814741910323 : Int64)) + ((zt_us (v0 - ((zt_us v0 (1 : Int)) &&& (6148914691236517205 : Int64))) (2 : Int)) &&& (3689348814741910323 : Int64))) + (zt_us (((v0 - ((zt_us v0 (1 : Int)) &&& (6148914691236517205 : Int64))) &&& (3689348814741910323 : Int64)) + ((zt_us (v0 - ((zt_us v0 (1 : Int)) &&& (6148914691236517205 : Int64))) (2 : Int)) &&& (3689348814741910323 : Int64))) (4 : Int))) &&& (1085102592571150095 : Int64)) (8 : Int))) + (zt_us ((((((v0 - ((zt_us v0 (1 : Int)) &&& (6148914691236517205 : Int64))) &&& (3689348814741910323 : Int64)) + ((zt_us (v0 - ((zt_us v0 (1 : Int)) &&& (6148914691236517205 : Int64))) (2 : Int)) &&& (3689348814741910323 : Int64))) + (zt_us (((v0 - ((zt_us v0 (1 : Int)) &&& (6148914691236517205 : Int64))) &&& (3689348814741910323 : Int64)) + ((zt_us (v0 - ((zt_us v0 (1 : Int)) &&& (6148914691236517205 : Int64))) (2 : Int)) &&& (3689348814741910323 : Int64))) (4 : Int))) &&& (1085102592571150095 : Int64)) + (zt_us (((((v0 - ((zt_us v0 (1 : Int)) &&& (6148914691236517205 : Int64))) &&& (3689348814741910323 : Int64)) + ((zt_us (v0 - ((zt_us v0 (1 : Int)) &&& (6148914691236517205 : Int64))) (2 : Int)) &&& (3689348814741910323 : Int64))) + (zt_us (((v0 - ((zt_us v0 (1 : Int)) &&& (6148914691236517205 : Int64))) &&& (3689348814741910323 : Int64)) + ((zt_us (v0 - ((zt_us v0 (1 : Int)) &&& (6148914691236517205 : Int64))) (2 : Int)) &&& (3689348814741910323 : Int64))) (4 : Int))) &&& (1085102592571150095 : Int64)) (8 : Int))) (16 : Int))) (32 : Int)))) (127 : Int)), σ)
def F_SS_isOpen_30   (x0 : Int) (σ : zt_S) : Option (Int × zt_S) :=
  zt_ck (x0 = 0 ∨ x0 = 1) <| some (x0, σ)
def F_SS_isOpen_29    (σ : zt_S) : Option (Int × zt_S) :=
  F_SS_isOpen_30 (0 : Int) σ
def F_SS_isOpen   (σ : zt_S) : Option (Int × zt_S) :=
  zt_bd (F_Tb_isOver 6 σ) fun a1 s2 =>
  zt_ck (zt_in a1) <| if a1 = (0 : Int) then
    zt_bd (F_Tb_allHands 6 s2) fun a3 s4 =>
    zt_bd (F_J_bitCount a3 s4) fun a5 s6 =>
    zt_ck (zt_in a5) <| if (12 : Int) < a5 then
      F_SS_isOpen_29 s6
    else
      F_SS_isOpen_30 (1 : Int) s6
  else
    F_SS_isOpen_29 s2
def F_SS_trickAt_22    (σ : zt_S) : Option (Nat × zt_S) :=
  none
def F_SS_trickAt  (v1 : Int) (σ : zt_S) : Option (Nat × zt_S) :=
  zt_ck (zt_in v1) <| if v1 < (0 : Int) then
    F_SS_trickAt_22 σ
  else
    zt_ck (zt_in v1) <| if v1 < ((13 : Nat) : Int) then
      zt_ck (0 ≤ v1 ∧ v1 < ((13 : Nat) : Int)) <| some ((148 + (v1).toNat), σ)
    else
      F_SS_trickAt_22 σ
def F_SS_listCards_48  (r7 : Int64 → Int → zt_S → Option (Unit × zt_S)) (v1 : Int64) (v3 : Int) (σ : zt_S) : Option (Unit × zt_S) :=
  r7 v1 (v3 + (1 : Int)) σ
def F_SS_listCards_7   : Nat → Int64 → Int → zt_S → Option (Unit × zt_S)
  | 0, _, _, _ => none
  | n + 1, v1, v3, σ =>
  zt_bd (F_Su_cardCount 3 σ) fun a2 s3 =>
  zt_ck (zt_in v3 ∧ zt_in a2) <| if v3 < a2 then
    zt_bd (F_Rw_has v1 v3 s3) fun a4 s5 =>
    zt_ck (zt_in a4) <| if a4 = (0 : Int) then
      F_SS_listCards_48 (F_SS_listCards_7 n) v1 v3 s5
    else
      zt_bd (F_Rw_set 146 12 (s5.1 144 6) v3 s5) fun _ s7 =>
      zt_let (zt_up s7 144 6 ((s7.1 144 6) + (1 : Int))) fun s8 =>
      F_SS_listCards_48 (F_SS_listCards_7 n) v1 v3 s8
  else
    some ((), s3)
def F_SS_listCards  (v1 : Int64) (σ : zt_S) : Option (Unit × zt_S) :=
  zt_let (zt_up σ 144 6 (0 : Int)) fun s1 =>
  F_SS_listCards_7 zt_N v1 (0 : Int) s1
def F_SS_placeOf_40  (r6 : Int64 → Int → Int → Int → zt_S → Option (Int × zt_S)) (v1 : Int64) (v3 : Int) (v4 : Int) (v5 : Int) (σ : zt_S) : Option (Int × zt_S) :=
  r6 v1 v3 v4 (v5 + (1 : Int)) σ
def F_SS_placeOf_6   : Nat → Int64 → Int → Int → Int → zt_S → Option (Int × zt_S)
  | 0, _, _, _, _, _ => none
  | n + 1, v1, v3, v4, v5, σ =>
  zt_ck (zt_in v5 ∧ zt_in (σ.1 144 6)) <| if v5 < (σ.1 144 6) then
    zt_bd (F_Rw_at 146 12 v5 σ) fun a1 s2 =>
    zt_bd (F_Rw_has v1 a1 s2) fun a3 s4 =>
    zt_ck (zt_in a3) <| if a3 = (0 : Int) then
      F_SS_placeOf_40 (F_SS_placeOf_6 n) v1 v3 v4 v5 s4
    else
      F_SS_placeOf_40 (F_SS_placeOf_6 n) v1 v3 (zt_or v4 (zt_shl (1 : Int) v5)) v5 s4
  else
    some (((v4 * (4 : Int)) + v3), σ)
def F_SS_placeOf  (v1 : Int64) (v3 : Int) (σ : zt_S) : Option (Int × zt_S) :=
  F_SS_placeOf_6 zt_N v1 v3 (0 : Int) (0 : Int) σ
def F_SS_recall_30    (σ : zt_S) : Option (Int × zt_S) :=
  some ((0 : Int), σ)
def F_SS_recall  (v1 : Int) (v2 : Int) (σ : zt_S) : Option (Int × zt_S) :=
  zt_ck (zt_in v1) <| if v1 < (0 : Int) then
    F_SS_recall_30 σ
  else
    zt_ck (zt_in v1) <| if v1 < ((16384 : Nat) : Int) then
      zt_ck (0 ≤ v1 ∧ v1 < ((16384 : Nat) : Int)) <| if (zt_lc (zt_rs (σ.2.1 147 v1) (20 : Int)) (σ.2.1 144 5)) = (0 : Int) then
        zt_ck (0 ≤ v1 ∧ v1 < ((16384 : Nat) : Int)) <| some ((zt_i ((zt_rs (σ.2.1 147 v1) v2) &&& (15 : Int64))), σ)
      else
        F_SS_recall_30 σ
    else
      F_SS_recall_30 σ
def F_SS_remember_13    (σ : zt_S) : Option (Unit × zt_S) :=
  some ((), σ)
def F_SS_remember_44   (v1 : Int) (v2 : Int) (v3 : Int) (σ : zt_S) : Option (Unit × zt_S) :=
  zt_ck (0 ≤ v1 ∧ v1 < ((16384 : Nat) : Int)) <| zt_ck (0 ≤ v1 ∧ v1 < ((16384 : Nat) : Int)) <| zt_let (zt_uL σ 147 v1 ((σ.2.1 147 v1) ||| (zt_ls (zt_l v3) v2))) fun s1 =>
  some ((), s1)
def F_SS_remember  (v1 : Int) (v2 : Int) (v3 : Int) (σ : zt_S) : Option (Unit × zt_S) :=
  zt_ck (zt_in v1) <| if v1 < (0 : Int) then
    F_SS_remember_13 σ
  else
    zt_ck (zt_in v1) <| if v1 < ((16384 : Nat) : Int) then
      zt_ck (0 ≤ v1 ∧ v1 < ((16384 : Nat) : Int)) <| if (zt_lc (zt_rs (σ.2.1 147 v1) (20 : Int)) (σ.2.1 144 5)) = (0 : Int) then
        F_SS_remember_44 v1 v2 v3 σ
      else
        zt_ck (0 ≤ v1 ∧ v1 < ((16384 : Nat) : Int)) <| zt_let (zt_uL σ 147 v1 (zt_ls (σ.2.1 144 5) (20 : Int))) fun s2 =>
        F_SS_remember_44 v1 v2 v3 s2
    else
      F_SS_remember_13 σ
def F_Tr_place_56 (t0 : Nat) (t1 : Nat)   (σ : zt_S) : Option (Unit × zt_S) :=
  zt_let (zt_up σ t0 2 ((σ.1 t0 2) + (1 : Int))) fun s9 =>
  zt_bd (F_Su_behind t1 (s9.1 t0 1) s9) fun a10 s11 =>
  zt_let (zt_up s11 t0 1 a10) fun s12 =>
  some ((), s12)
def F_Tr_place_38 (t0 : Nat) (t1 : Nat)  (v2 : Int) (v3 : Int) (σ : zt_S) : Option (Unit × zt_S) :=
  zt_let (zt_up σ t0 4 v3) fun s6 =>
  zt_let (zt_up s6 t0 5 v2) fun s7 =>
  zt_let (zt_up s7 t0 6 (s7.1 t0 1)) fun s8 =>
  F_Tr_place_56 t0 t1 s8
def F_Tr_place_23 (t0 : Nat) (t1 : Nat)  (v2 : Int) (v3 : Int) (σ : zt_S) : Option (Unit × zt_S) :=
  zt_ck (zt_in (σ.1 t0 2)) <| if (σ.1 t0 2) = (0 : Int) then
    F_Tr_place_38 t0 t1 v2 v3 σ
  else
    zt_ck (zt_in v3 ∧ zt_in (σ.1 t0 4)) <| if (σ.1 t0 4) < v3 then
      F_Tr_place_38 t0 t1 v2 v3 σ
    else
      F_Tr_place_56 t0 t1 σ
def F_Tr_place (t0 : Nat) (t1 : Nat) (v2 : Int) (σ : zt_S) : Option (Unit × zt_S) :=
  zt_bd (F_Tr_powerOf t0 t1 v2 σ) fun a1 s2 =>
  zt_ck (zt_in (s2.1 t0 2)) <| if (s2.1 t0 2) = (0 : Int) then
    zt_bd (F_Su_suitOf t1 v2 s2) fun a3 s4 =>
    zt_let (zt_up s4 t0 3 a3) fun s5 =>
    F_Tr_place_23 t0 t1 v2 a1 s5
  else
    F_Tr_place_23 t0 t1 v2 a1 s2
def F_Tr_dim_63 (t0 : Nat) (t1 : Nat)  (x0 : Int) (σ : zt_S) : Option (Unit × zt_S) :=
  zt_let (zt_up σ t0 8 x0) fun s3 =>
  some ((), s3)
def F_Tr_dim_47 (t0 : Nat) (t1 : Nat)  (v3 : Int) (x0 : Int) (σ : zt_S) : Option (Unit × zt_S) :=
  zt_let (zt_up σ t0 7 x0) fun s2 =>
  zt_ck (zt_in v3) <| if v3 = (0 : Int) then
    F_Tr_dim_63 t0 t1 (0 : Int) s2
  else
    F_Tr_dim_63 t0 t1 (s2.1 t1 3) s2
def F_Tr_dim (t0 : Nat) (t1 : Nat) (v2 : Int) (v3 : Int) (σ : zt_S) : Option (Unit × zt_S) :=
  zt_ck (zt_in (σ.1 t0 8)) <| if (σ.1 t0 8) = (0 : Int) then
    some ((), σ)
  else
    zt_ck (zt_in ((σ.1 t0 8) - v2)) <| zt_let (zt_up σ t0 8 (if (0 : Int) < ((σ.1 t0 8) - v2) then ((σ.1 t0 8) - v2) else (0 : Int))) fun s1 =>
    zt_ck (zt_in (s1.1 t0 8)) <| if (0 : Int) < (s1.1 t0 8) then
      some ((), s1)
    else
      zt_ck (zt_in v3) <| if v3 = (0 : Int) then
        F_Tr_dim_47 t0 t1 v3 (-1 : Int) s1
      else
        zt_bd (F_Su_suitOf t1 (s1.1 t0 5) s1) fun a4 s5 =>
        F_Tr_dim_47 t0 t1 v3 a4 s5
def F_Tr_begin (t0 : Nat) (v1 : Int) (σ : zt_S) : Option (Unit × zt_S) :=
  zt_let (zt_up σ t0 0 v1) fun s1 =>
  zt_let (zt_up s1 t0 1 v1) fun s2 =>
  zt_let (zt_up s2 t0 2 (0 : Int)) fun s3 =>
  zt_let (zt_up s3 t0 3 (-1 : Int)) fun s4 =>
  zt_let (zt_up s4 t0 4 (0 : Int)) fun s5 =>
  zt_let (zt_up s5 t0 5 (-1 : Int)) fun s6 =>
  zt_let (zt_up s6 t0 6 (-1 : Int)) fun s7 =>
  some ((), s7)
def F_Tr_finish (t0 : Nat) (t1 : Nat) (v2 : Int) (v3 : Int) (σ : zt_S) : Option (Unit × zt_S) :=
  zt_bd (F_Tr_dim t0 t1 v2 v3 σ) fun _ s2 =>
  zt_bd (F_Tr_begin t0 (s2.1 t0 6) s2) fun _ s4 =>
  some ((), s4)
def F_Rw_without  (v0 : Int64) (v2 : Int) (σ : zt_S) : Option (Int64 × zt_S) :=
  some ((v0 &&& ((zt_ls (1 : Int64) v2) ^^^ (-1 : Int64))), σ)
def F_SS_tricksWith_93 (t2 : Nat) (w : Int → Int64 → zt_S → Option (Int × zt_S))  (v1 : Int) (v3 : Int64) (v5 : Int) (v7 : Int) (σ : zt_S) : Option (Int × zt_S) :=
  zt_bd (F_Rw_without v3 v5 σ) fun a7 s8 =>
  zt_bd (w (v1 + (1 : Int)) a7 s8) fun a9 s10 =>
  some ((v7 + a9), s10)
def F_SS_tricksWith_68 (t2 : Nat) (w : Int → Int64 → zt_S → Option (Int × zt_S))  (v1 : Int) (v3 : Int64) (v5 : Int) (v6 : Nat) (x0 : Int) (σ : zt_S) : Option (Int × zt_S) :=
  zt_bd (F_Tr_finish v6 3 (σ.1 6 12) (σ.1 6 13) σ) fun _ s12 =>
  F_SS_tricksWith_93 t2 w v1 v3 v5 x0 s12
def F_SS_tricksWith (t2 : Nat) (w : Int → Int64 → zt_S → Option (Int × zt_S)) (v1 : Int) (v3 : Int64) (v5 : Int) (σ : zt_S) : Option (Int × zt_S) :=
  zt_bd (F_SS_trickAt (v1 + (1 : Int)) σ) fun a1 s2 =>
  zt_ck (a1 ∈ zt_tris) <| zt_bd (F_Tr_copyFrom a1 t2 s2) fun _ s4 =>
  zt_bd (F_Tr_place a1 3 v5 s4) fun _ s6 =>
  zt_ck (zt_in (s6.1 a1 2) ∧ zt_in (s6.1 3 1)) <| if (s6.1 a1 2) < (s6.1 3 1) then
    F_SS_tricksWith_93 t2 w v1 v3 v5 (0 : Int) s6
  else
    zt_ck (zt_in (s6.1 a1 6) ∧ zt_in (s6.1 144 7)) <| if (s6.1 a1 6) = (s6.1 144 7) then
      F_SS_tricksWith_68 t2 w v1 v3 v5 a1 (1 : Int) s6
    else
      F_SS_tricksWith_68 t2 w v1 v3 v5 a1 (0 : Int) s6
def F_SS_bestFrom_177 (t2 : Nat) (w : Int → Int64 → zt_S → Option (Int × zt_S))  (v11 : Int) (σ : zt_S) : Option (Int × zt_S) :=
  some (v11, σ)
def F_SS_bestFrom_171 (t2 : Nat) (w : Int → Int64 → zt_S → Option (Int × zt_S)) (r74 : Int → Int64 → Int → Int64 → Int → Int → Int → zt_S → Option (Int × zt_S)) (v1 : Int) (v3 : Int64) (v5 : Int) (v8 : Int64) (v10 : Int) (v11 : Int) (v12 : Int) (σ : zt_S) : Option (Int × zt_S) :=
  r74 v1 v3 v5 v8 v10 v11 (v12 + (1 : Int)) σ
def F_SS_bestFrom_168 (t2 : Nat) (w : Int → Int64 → zt_S → Option (Int × zt_S)) (r74 : Int → Int64 → Int → Int64 → Int → Int → Int → zt_S → Option (Int × zt_S)) (v1 : Int) (v3 : Int64) (v5 : Int) (v8 : Int64) (v10 : Int) (v11 : Int) (v12 : Int) (x0 : Int) (σ : zt_S) : Option (Int × zt_S) :=
  zt_let (zt_up σ 144 8 x0) fun s11 =>
  F_SS_bestFrom_171 t2 w r74 v1 v3 v5 v8 v10 v11 v12 s11
def F_SS_bestFrom_150 (t2 : Nat) (w : Int → Int64 → zt_S → Option (Int × zt_S)) (r74 : Int → Int64 → Int → Int64 → Int → Int → Int → zt_S → Option (Int × zt_S)) (v1 : Int) (v3 : Int64) (v5 : Int) (v8 : Int64) (v10 : Int) (v12 : Int) (v13 : Int) (v14 : Int) (σ : zt_S) : Option (Int × zt_S) :=
  zt_ck (zt_in v1) <| if v1 = (0 : Int) then
    F_SS_bestFrom_168 t2 w r74 v1 v3 v5 v8 v10 v14 v12 v13 σ
  else
    F_SS_bestFrom_168 t2 w r74 v1 v3 v5 v8 v10 v14 v12 (σ.1 144 8) σ
def F_SS_bestFrom_74 (t2 : Nat) (w : Int → Int64 → zt_S → Option (Int × zt_S))  : Nat → Int → Int64 → Int → Int64 → Int → Int → Int → zt_S → Option (Int × zt_S)
  | 0, _, _, _, _, _, _, _, _ => none
  | n + 1, v1, v3, v5, v8, v10, v11, v12, σ =>
  zt_ck (zt_in v12 ∧ zt_in (σ.1 144 6)) <| if v12 < (σ.1 144 6) then
    zt_ck (zt_in v11 ∧ zt_in v10) <| if v11 = v10 then
      F_SS_bestFrom_177 t2 w v11 σ
    else
      zt_bd (F_Rw_at 146 12 v12 σ) fun a5 s6 =>
      zt_bd (F_Rw_has v8 a5 s6) fun a7 s8 =>
      zt_ck (zt_in a7) <| if a7 = (0 : Int) then
        F_SS_bestFrom_171 t2 w (F_SS_bestFrom_74 t2 w n) v1 v3 v5 v8 v10 v11 v12 s8
      else
        zt_bd (F_SS_tricksWith t2 w v1 v3 a5 s8) fun a9 s10 =>
        zt_ck (zt_in v11) <| if v11 = (-1 : Int) then
          F_SS_bestFrom_150 t2 w (F_SS_bestFrom_74 t2 w n) v1 v3 v5 v8 v10 v12 a5 a9 s10
        else
          zt_ck (zt_in v5) <| if v5 = (0 : Int) then
            zt_ck (zt_in a9 ∧ zt_in v11) <| if a9 < v11 then
              F_SS_bestFrom_150 t2 w (F_SS_bestFrom_74 t2 w n) v1 v3 v5 v8 v10 v12 a5 a9 s10
            else
              F_SS_bestFrom_171 t2 w (F_SS_bestFrom_74 t2 w n) v1 v3 v5 v8 v10 v11 v12 s10
          else
            zt_ck (zt_in a9 ∧ zt_in v11) <| if v11 < a9 then
              F_SS_bestFrom_150 t2 w (F_SS_bestFrom_74 t2 w n) v1 v3 v5 v8 v10 v12 a5 a9 s10
            else
              F_SS_bestFrom_171 t2 w (F_SS_bestFrom_74 t2 w n) v1 v3 v5 v8 v10 v11 v12 s10
  else
    F_SS_bestFrom_177 t2 w v11 σ
def F_SS_bestFrom_66 (t2 : Nat) (w : Int → Int64 → zt_S → Option (Int × zt_S))  (v1 : Int) (v3 : Int64) (v5 : Int) (v8 : Int64) (x0 : Int) (σ : zt_S) : Option (Int × zt_S) :=
  F_SS_bestFrom_74 t2 w zt_N v1 v3 v5 v8 x0 (-1 : Int) (0 : Int) σ
def F_SS_bestFrom_16 (t2 : Nat) (w : Int → Int64 → zt_S → Option (Int × zt_S))  (v1 : Int) (v3 : Int64) (x0 : Int) (σ : zt_S) : Option (Int × zt_S) :=
  zt_bd (F_Tb_handOf 6 (σ.1 t2 1) σ) fun a1 s2 =>
  zt_bd (F_Tr_allowed t2 3 (a1 &&& v3) (s2.1 6 11) s2) fun a3 s4 =>
  zt_ck (zt_in x0) <| if x0 = (0 : Int) then
    F_SS_bestFrom_66 t2 w v1 v3 x0 a3 (0 : Int) s4
  else
    zt_bd (F_J_bitCount (a1 &&& v3) s4) fun a12 s13 =>
    F_SS_bestFrom_66 t2 w v1 v3 x0 a3 a12 s13
def F_SS_bestFrom (t2 : Nat) (w : Int → Int64 → zt_S → Option (Int × zt_S)) (v1 : Int) (v3 : Int64) (σ : zt_S) : Option (Int × zt_S) :=
  zt_ck (zt_in (σ.1 t2 1) ∧ zt_in (σ.1 144 7)) <| if (σ.1 t2 1) = (σ.1 144 7) then
    F_SS_bestFrom_16 t2 w v1 v3 (1 : Int) σ
  else
    F_SS_bestFrom_16 t2 w v1 v3 (0 : Int) σ
def F_SS_tricksFrom  : Nat → Int → Int64 → zt_S → Option (Int × zt_S)
  | 0, _, _, _ => none
  | n + 1, v1, v2, σ =>
  zt_bd (F_SS_trickAt v1 σ) fun a1 s2 =>
  zt_ck (a1 ∈ zt_tris) <| if (zt_lc v2 (0 : Int64)) = (0 : Int) then
    some ((0 : Int), s2)
  else
    zt_ck (zt_in (s2.1 a1 2)) <| if (0 : Int) < (s2.1 a1 2) then
      zt_bd (F_SS_bestFrom a1 (F_SS_tricksFrom n) v1 v2 s2) fun a3 s4 =>
      some (a3, s4)
    else
      zt_bd (F_SS_placeOf v2 (s2.1 a1 0) s2) fun a5 s6 =>
      zt_bd (F_SS_recall a5 ((4 : Int) * ((s6.1 a1 7) + (1 : Int))) s6) fun a7 s8 =>
      zt_ck (zt_in a7) <| if (0 : Int) < a7 then
        some ((a7 - (1 : Int)), s8)
      else
        zt_bd (F_SS_bestFrom a1 (F_SS_tricksFrom n) v1 v2 s8) fun a9 s10 =>
        zt_bd (F_SS_remember a5 ((4 : Int) * ((s6.1 a1 7) + (1 : Int))) (a9 + (1 : Int)) s10) fun _ s12 =>
        some (a9, s12)
def F_SS_mostTricks   (σ : zt_S) : Option (Int × zt_S) :=
  zt_bd (F_SS_trickAt (0 : Int) σ) fun a1 s2 =>
  zt_ck (a1 ∈ zt_tris) <| zt_bd (F_Tr_copyFrom a1 7 s2) fun _ s4 =>
  zt_let (zt_up s4 144 7 (s4.1 a1 1)) fun s5 =>
  zt_let (zt_up s5 144 8 (-1 : Int)) fun s6 =>
  zt_let (zt_uL s6 144 5 ((s6.2.1 144 5) + (1 : Int64))) fun s7 =>
  zt_bd (F_Tb_allHands 6 s7) fun a8 s9 =>
  zt_bd (F_SS_listCards a8 s9) fun _ s11 =>
  zt_bd (F_SS_tricksFrom 16 (0 : Int) a8 s11) fun a12 s13 =>
  some (a12, s13)
def F_Rw_fill_2 (c0 : Nat) (n0 : Nat)  : Nat → Int → Int → zt_S → Option (Unit × zt_S)
  | 0, _, _, _ => none
  | n + 1, v1, v2, σ =>
  zt_ck (zt_in v2 ∧ zt_in ((n0 : Nat) : Int)) <| if v2 < ((n0 : Nat) : Int) then
    zt_ck (0 ≤ v2 ∧ v2 < ((n0 : Nat) : Int)) <| zt_let (zt_up σ c0 v2 v1) fun s1 =>
    F_Rw_fill_2 c0 n0 n v1 (v2 + (1 : Int)) s1
  else
    some ((), σ)
def F_Rw_fill (c0 : Nat) (n0 : Nat) (v1 : Int) (σ : zt_S) : Option (Unit × zt_S) :=
  F_Rw_fill_2 c0 n0 zt_N v1 (0 : Int) σ
def F_Tb_clearHand_24 (t0 : Nat)   (σ : zt_S) : Option (Unit × zt_S) :=
  zt_bd (F_Rw_fill (t0 + 3) 4 (-1 : Int) σ) fun _ s3 =>
  zt_bd (F_Rw_fill (t0 + 4) 4 (0 : Int) s3) fun _ s5 =>
  zt_bd (F_Rw_fill (t0 + 5) 4 (0 : Int) s5) fun _ s7 =>
  zt_let (zt_uL s7 t0 10 (0 : Int64)) fun s8 =>
  zt_let (zt_up s8 t0 16 (0 : Int)) fun s9 =>
  zt_let (zt_up s9 t0 17 (0 : Int)) fun s10 =>
  some ((), s10)
def F_Tb_clearHand_2 (t0 : Nat)  : Nat → Int → zt_S → Option (Unit × zt_S)
  | 0, _, _ => none
  | n + 1, v1, σ =>
  zt_ck (zt_in v1) <| if v1 < ((4 : Nat) : Int) then
    zt_ck (0 ≤ v1 ∧ v1 < ((4 : Nat) : Int)) <| zt_let (zt_uL σ (t0 + 2) v1 (0 : Int64)) fun s1 =>
    F_Tb_clearHand_2 t0 n (v1 + (1 : Int)) s1
  else
    F_Tb_clearHand_24 t0 σ
def F_Tb_clearHand (t0 : Nat)  (σ : zt_S) : Option (Unit × zt_S) :=
  F_Tb_clearHand_2 t0 zt_N (0 : Int) σ
def F_Tb_clear (t0 : Nat)  (σ : zt_S) : Option (Unit × zt_S) :=
  zt_bd (F_Rw_fill (t0 + 6) 4 (0 : Int) σ) fun _ s2 =>
  zt_let (zt_up s2 t0 11 (1 : Int)) fun s3 =>
  zt_let (zt_up s3 t0 12 (2 : Int)) fun s4 =>
  zt_let (zt_up s4 t0 13 (0 : Int)) fun s5 =>
  zt_let (zt_up s5 t0 14 (-1 : Int)) fun s6 =>
  zt_let (zt_up s6 t0 15 (0 : Int)) fun s7 =>
  zt_let (zt_up s7 t0 18 (0 : Int)) fun s8 =>
  zt_bd (F_Tb_clearHand t0 s8) fun _ s10 =>
  some ((), s10)
def F_Tb_lightTrump_34 (t0 : Nat)  (x0 : Int) (x1 : Nat) (σ : zt_S) : Option (Unit × zt_S) :=
  zt_let (zt_up σ x1 8 x0) fun s2 =>
  some ((), s2)
def F_Tb_lightTrump (t0 : Nat)  (σ : zt_S) : Option (Unit × zt_S) :=
  zt_let (zt_up σ (t0 + 1) 7 (σ.1 t0 14)) fun s1 =>
  zt_ck (zt_in (s1.1 t0 14)) <| if (s1.1 t0 14) = (-1 : Int) then
    F_Tb_lightTrump_34 t0 (0 : Int) (t0 + 1) s1
  else
    F_Tb_lightTrump_34 t0 (s1.1 (zt_su t0) 3) (t0 + 1) s1
def F_Tb_openHand (t0 : Nat)  (σ : zt_S) : Option (Unit × zt_S) :=
  zt_bd (F_Tr_begin (t0 + 1) (σ.1 t0 15) σ) fun _ s2 =>
  zt_bd (F_Tb_lightTrump t0 s2) fun _ s4 =>
  some ((), s4)
def F_Rw_with  (v0 : Int64) (v2 : Int) (σ : zt_S) : Option (Int64 × zt_S) :=
  some ((v0 ||| (zt_ls (1 : Int64) v2)), σ)
def F_Tb_setHand_20 (t0 : Nat)   (σ : zt_S) : Option (Unit × zt_S) :=
  some ((), σ)
def F_Tb_setHand (t0 : Nat) (v1 : Int) (v2 : Int64) (σ : zt_S) : Option (Unit × zt_S) :=
  zt_ck (zt_in v1) <| if v1 < (0 : Int) then
    F_Tb_setHand_20 t0 σ
  else
    zt_ck (zt_in v1) <| if v1 < ((4 : Nat) : Int) then
      zt_ck (0 ≤ v1 ∧ v1 < ((4 : Nat) : Int)) <| zt_let (zt_uL σ (t0 + 2) v1 v2) fun s1 =>
      F_Tb_setHand_20 t0 s1
    else
      F_Tb_setHand_20 t0 σ
def F_Tb_give (t0 : Nat) (v1 : Int) (v2 : Int) (σ : zt_S) : Option (Unit × zt_S) :=
  zt_bd (F_Tb_handOf t0 v1 σ) fun a1 s2 =>
  zt_bd (F_Rw_with a1 v2 s2) fun a3 s4 =>
  zt_bd (F_Tb_setHand t0 v1 a3 s4) fun _ s6 =>
  some ((), s6)
def F_Tb_handOutInTurn_4 (t0 : Nat)  : Nat → Int → Int → zt_S → Option (Unit × zt_S)
  | 0, _, _, _ => none
  | n + 1, v2, v3, σ =>
  zt_bd (F_Su_cardsOfHands (zt_su t0) σ) fun a1 s2 =>
  zt_ck (zt_in v3 ∧ zt_in a1) <| if v3 < a1 then
    zt_bd (F_Pk_cardAt v3 s2) fun a3 s4 =>
    zt_bd (F_Tb_give t0 v2 a3 s4) fun _ s6 =>
    zt_bd (F_Su_behind (zt_su t0) v2 s6) fun a7 s8 =>
    F_Tb_handOutInTurn_4 t0 n a7 (v3 + (1 : Int)) s8
  else
    some ((), s2)
def F_Tb_handOutInTurn (t0 : Nat)  (σ : zt_S) : Option (Unit × zt_S) :=
  F_Tb_handOutInTurn_4 t0 zt_N (0 : Int) (0 : Int) σ
def F_Tb_isFull_23 (t0 : Nat)  (x0 : Int) (σ : zt_S) : Option (Int × zt_S) :=
  zt_ck (x0 = 0 ∨ x0 = 1) <| some (x0, σ)
def F_Tb_isFull (t0 : Nat) (v1 : Int) (σ : zt_S) : Option (Int × zt_S) :=
  zt_bd (F_Tb_handOf t0 v1 σ) fun a1 s2 =>
  zt_bd (F_J_bitCount a1 s2) fun a3 s4 =>
  zt_ck (zt_in a3 ∧ zt_in (s4.1 (zt_su t0) 2)) <| if a3 < (s4.1 (zt_su t0) 2) then
    F_Tb_isFull_23 t0 (0 : Int) s4
  else
    F_Tb_isFull_23 t0 (1 : Int) s4
def F_Tb_firstLackingCards_2 (t0 : Nat)  : Nat → Int → zt_S → Option (Int × zt_S)
  | 0, _, _ => none
  | n + 1, v1, σ =>
  zt_ck (zt_in v1 ∧ zt_in (σ.1 (zt_su t0) 1)) <| if v1 < (σ.1 (zt_su t0) 1) then
    zt_bd (F_Tb_isFull t0 v1 σ) fun a1 s2 =>
    zt_ck (zt_in a1) <| if a1 = (0 : Int) then
      some (v1, s2)
    else
      F_Tb_firstLackingCards_2 t0 n (v1 + (1 : Int)) s2
  else
    some ((-1 : Int), σ)
def F_Tb_firstLackingCards (t0 : Nat)  (σ : zt_S) : Option (Int × zt_S) :=
  F_Tb_firstLackingCards_2 t0 zt_N (0 : Int) σ
def F_Tb_fillUp_47 (t0 : Nat) (r2 : Int → zt_S → Option (Unit × zt_S)) (v2 : Int) (σ : zt_S) : Option (Unit × zt_S) :=
  r2 (v2 + (1 : Int)) σ
def F_Tb_fillUp_2 (t0 : Nat)  : Nat → Int → zt_S → Option (Unit × zt_S)
  | 0, _, _ => none
  | n + 1, v2, σ =>
  zt_bd (F_Su_cardCount (zt_su t0) σ) fun a1 s2 =>
  zt_ck (zt_in v2 ∧ zt_in a1) <| if v2 < a1 then
    zt_bd (F_Pk_cardAt v2 s2) fun a3 s4 =>
    zt_bd (F_Tb_firstLackingCards t0 s4) fun a5 s6 =>
    zt_ck (zt_in a5) <| if a5 = (-1 : Int) then
      F_Tb_fillUp_47 t0 (F_Tb_fillUp_2 t0 n) v2 s6
    else
      zt_bd (F_Tb_holderOf t0 a3 s6) fun a7 s8 =>
      zt_ck (zt_in a7) <| if a7 = (-1 : Int) then
        zt_bd (F_Tb_give t0 a5 a3 s8) fun _ s10 =>
        F_Tb_fillUp_47 t0 (F_Tb_fillUp_2 t0 n) v2 s10
      else
        F_Tb_fillUp_47 t0 (F_Tb_fillUp_2 t0 n) v2 s8
  else
    some ((), s2)
def F_Tb_fillUp (t0 : Nat)  (σ : zt_S) : Option (Unit × zt_S) :=
  F_Tb_fillUp_2 t0 zt_N (0 : Int) σ
def F_Tb_noteLack_54 (t0 : Nat)   (σ : zt_S) : Option (Unit × zt_S) :=
  some ((), σ)
def F_Tb_noteLack (t0 : Nat) (v1 : Int) (v2 : Int) (σ : zt_S) : Option (Unit × zt_S) :=
  zt_ck (zt_in (σ.1 t0 11)) <| if (σ.1 t0 11) = (0 : Int) then
    F_Tb_noteLack_54 t0 σ
  else
    zt_ck (zt_in (σ.1 (t0 + 1) 2)) <| if (0 : Int) < (σ.1 (t0 + 1) 2) then
      zt_ck (zt_in v2 ∧ zt_in (σ.1 (t0 + 1) 3)) <| if v2 = (σ.1 (t0 + 1) 3) then
        F_Tb_noteLack_54 t0 σ
      else
        zt_bd (F_Rw_at (t0 + 5) 4 v1 σ) fun a1 s2 =>
        zt_bd (F_Rw_set (t0 + 5) 4 v1 (zt_or a1 (zt_shl (1 : Int) (s2.1 (t0 + 1) 3))) s2) fun _ s4 =>
        F_Tb_noteLack_54 t0 s4
    else
      F_Tb_noteLack_54 t0 σ
def F_Tb_resultOf_44 (t0 : Nat)  (x0 : Int) (σ : zt_S) : Option (Int × zt_S) :=
  some (x0, σ)
def F_Tb_resultOf (t0 : Nat) (v1 : Int) (σ : zt_S) : Option (Int × zt_S) :=
  zt_bd (F_Rw_at (t0 + 4) 4 v1 σ) fun a1 s2 =>
  zt_bd (F_Rw_at (t0 + 3) 4 v1 s2) fun a3 s4 =>
  zt_ck (zt_in a3) <| if a3 = (-1 : Int) then
    some (a1, s4)
  else
    zt_ck (zt_in a3 ∧ zt_in a1) <| if a3 = a1 then
      F_Tb_resultOf_44 t0 ((10 : Int) + a3) s4
    else
      zt_ck (zt_in (a3 - a1)) <| F_Tb_resultOf_44 t0 (-(if (a3 - a1) < 0 then 0 - (a3 - a1) else (a3 - a1))) s4
def F_Tb_closeHand_12 (t0 : Nat)  : Nat → Int → zt_S → Option (Unit × zt_S)
  | 0, _, _ => none
  | n + 1, v1, σ =>
  zt_ck (zt_in v1 ∧ zt_in (σ.1 (zt_su t0) 1)) <| if v1 < (σ.1 (zt_su t0) 1) then
    zt_bd (F_Rw_at (t0 + 6) 4 v1 σ) fun a2 s3 =>
    zt_bd (F_Tb_resultOf t0 v1 s3) fun a4 s5 =>
    zt_bd (F_Rw_set (t0 + 6) 4 v1 (a2 + a4) s5) fun _ s7 =>
    F_Tb_closeHand_12 t0 n (v1 + (1 : Int)) s7
  else
    some ((), σ)
def F_Tb_closeHand (t0 : Nat)  (σ : zt_S) : Option (Unit × zt_S) :=
  zt_let (zt_up σ t0 18 ((σ.1 t0 18) + (1 : Int))) fun s1 =>
  F_Tb_closeHand_12 t0 zt_N (0 : Int) s1
def F_Tb_closeTrick_178 (t0 : Nat)   (σ : zt_S) : Option (Unit × zt_S) :=
  some ((), σ)
def F_Tb_closeTrick (t0 : Nat)  (σ : zt_S) : Option (Unit × zt_S) :=
  zt_bd (F_Rw_set (t0 + 9) 78 ((σ.1 t0 17) * (6 : Int)) (σ.1 (t0 + 1) 0) σ) fun _ s2 =>
  zt_bd (F_Rw_set (t0 + 9) 78 (((σ.1 t0 17) * (6 : Int)) + (1 : Int)) (s2.1 (t0 + 1) 6) s2) fun _ s4 =>
  zt_bd (F_Rw_set (t0 + 9) 78 (((σ.1 t0 17) * (6 : Int)) + (2 : Int)) (s4.1 (t0 + 1) 5) s4) fun _ s6 =>
  zt_bd (F_Rw_set (t0 + 9) 78 (((σ.1 t0 17) * (6 : Int)) + (3 : Int)) (s6.1 (t0 + 1) 3) s6) fun _ s8 =>
  zt_bd (F_Rw_set (t0 + 9) 78 (((σ.1 t0 17) * (6 : Int)) + (4 : Int)) (s8.1 (t0 + 1) 7) s8) fun _ s10 =>
  zt_bd (F_Rw_set (t0 + 9) 78 (((σ.1 t0 17) * (6 : Int)) + (5 : Int)) (s10.1 (t0 + 1) 8) s10) fun _ s12 =>
  zt_let (zt_up s12 t0 17 ((s12.1 t0 17) + (1 : Int))) fun s13 =>
  zt_bd (F_Rw_at (t0 + 4) 4 (s13.1 (t0 + 1) 6) s13) fun a14 s15 =>
  zt_bd (F_Rw_set (t0 + 4) 4 (s13.1 (t0 + 1) 6) (a14 + (1 : Int)) s15) fun _ s17 =>
  zt_bd (F_Tr_finish (t0 + 1) (zt_su t0) (s17.1 t0 12) (s17.1 t0 13) s17) fun _ s19 =>
  zt_bd (F_Tb_isOver t0 s19) fun a20 s21 =>
  zt_ck (zt_in a20) <| if a20 = (0 : Int) then
    F_Tb_closeTrick_178 t0 s21
  else
    zt_bd (F_Tb_closeHand t0 s21) fun _ s23 =>
    F_Tb_closeTrick_178 t0 s23
def F_Tb_putDown_114 (t0 : Nat)   (σ : zt_S) : Option (Unit × zt_S) :=
  some ((), σ)
def F_Tb_putDown (t0 : Nat) (v1 : Int) (σ : zt_S) : Option (Unit × zt_S) :=
  zt_bd (F_Su_suitOf (zt_su t0) v1 σ) fun a1 s2 =>
  zt_bd (F_Tb_noteLack t0 (σ.1 (t0 + 1) 1) a1 s2) fun _ s4 =>
  zt_bd (F_Tb_handOf t0 (σ.1 (t0 + 1) 1) s4) fun a5 s6 =>
  zt_bd (F_Rw_without a5 v1 s6) fun a7 s8 =>
  zt_bd (F_Tb_setHand t0 (σ.1 (t0 + 1) 1) a7 s8) fun _ s10 =>
  zt_bd (F_Rw_with (s10.2.1 t0 10) v1 s10) fun a11 s12 =>
  zt_let (zt_uL s12 t0 10 a11) fun s13 =>
  zt_bd (F_Rw_set (t0 + 7) 52 (s13.1 t0 16) v1 s13) fun _ s15 =>
  zt_bd (F_Rw_set (t0 + 8) 52 (s15.1 t0 16) (σ.1 (t0 + 1) 1) s15) fun _ s17 =>
  zt_let (zt_up s17 t0 16 ((s17.1 t0 16) + (1 : Int))) fun s18 =>
  zt_bd (F_Tr_place (t0 + 1) (zt_su t0) v1 s18) fun _ s20 =>
  zt_ck (zt_in (s20.1 (t0 + 1) 2) ∧ zt_in (s20.1 (zt_su t0) 1)) <| if (s20.1 (t0 + 1) 2) < (s20.1 (zt_su t0) 1) then
    F_Tb_putDown_114 t0 s20
  else
    zt_bd (F_Tb_closeTrick t0 s20) fun _ s22 =>
    F_Tb_putDown_114 t0 s22
def F_Tb_playersAhead_58 (t0 : Nat) (r14 : Int → Int → Int → Int → zt_S → Option (Int × zt_S)) (v1 : Int) (v2 : Int) (v3 : Int) (v4 : Int) (σ : zt_S) : Option (Int × zt_S) :=
  r14 v1 v2 v3 (v4 + (1 : Int)) σ
def F_Tb_playersAhead_55 (t0 : Nat) (r14 : Int → Int → Int → Int → zt_S → Option (Int × zt_S)) (v1 : Int) (v2 : Int) (v3 : Int) (v4 : Int) (σ : zt_S) : Option (Int × zt_S) :=
  F_Tb_playersAhead_58 t0 r14 v1 v2 (v3 + (1 : Int)) v4 σ
def F_Tb_playersAhead_14 (t0 : Nat)  : Nat → Int → Int → Int → Int → zt_S → Option (Int × zt_S)
  | 0, _, _, _, _, _ => none
  | n + 1, v1, v2, v3, v4, σ =>
  zt_ck (zt_in v4 ∧ zt_in (σ.1 (zt_su t0) 1)) <| if v4 < (σ.1 (zt_su t0) 1) then
    zt_bd (F_Rw_at (t0 + 6) 4 v4 σ) fun a3 s4 =>
    zt_ck (zt_in a3 ∧ zt_in v2) <| if v2 < a3 then
      F_Tb_playersAhead_55 t0 (F_Tb_playersAhead_14 t0 n) v1 v2 v3 v4 s4
    else
      zt_ck (zt_in a3 ∧ zt_in v2) <| if a3 = v2 then
        zt_ck (zt_in v4 ∧ zt_in v1) <| if v4 < v1 then
          F_Tb_playersAhead_55 t0 (F_Tb_playersAhead_14 t0 n) v1 v2 v3 v4 s4
        else
          F_Tb_playersAhead_58 t0 (F_Tb_playersAhead_14 t0 n) v1 v2 v3 v4 s4
      else
        F_Tb_playersAhead_58 t0 (F_Tb_playersAhead_14 t0 n) v1 v2 v3 v4 s4
  else
    some (v3, σ)
def F_Tb_playersAhead (t0 : Nat) (v1 : Int) (σ : zt_S) : Option (Int × zt_S) :=
  zt_bd (F_Rw_at (t0 + 6) 4 v1 σ) fun a1 s2 =>
  F_Tb_playersAhead_14 t0 zt_N v1 a1 (0 : Int) (0 : Int) s2
def F_Tb_isKnownToLack_20 (t0 : Nat)  (x0 : Int) (σ : zt_S) : Option (Int × zt_S) :=
  zt_ck (x0 = 0 ∨ x0 = 1) <| some (x0, σ)
def F_Tb_isKnownToLack (t0 : Nat) (v1 : Int) (v2 : Int) (σ : zt_S) : Option (Int × zt_S) :=
  zt_bd (F_Rw_at (t0 + 5) 4 v1 σ) fun a1 s2 =>
  if (zt_and (zt_shr a1 v2) (1 : Int)) = (0 : Int) then
    F_Tb_isKnownToLack_20 t0 (0 : Int) s2
  else
    F_Tb_isKnownToLack_20 t0 (1 : Int) s2
def F_Tr_powerIfItLed_25 (t0 : Nat) (t1 : Nat)  (x0 : Int) (x1 : Int) (σ : zt_S) : Option (Int × zt_S) :=
  some ((x1 + x0), σ)
def F_Tr_powerIfItLed (t0 : Nat) (t1 : Nat) (v2 : Int) (σ : zt_S) : Option (Int × zt_S) :=
  zt_bd (F_Su_rankOf t1 v2 σ) fun a1 s2 =>
  zt_bd (F_Su_suitOf t1 v2 s2) fun a3 s4 =>
  zt_ck (zt_in a3 ∧ zt_in (s4.1 t0 7)) <| if a3 = (s4.1 t0 7) then
    F_Tr_powerIfItLed_25 t0 t1 (s4.1 t0 8) a1 s4
  else
    F_Tr_powerIfItLed_25 t0 t1 (0 : Int) a1 s4
def F_Tb_isBestOfHands_121 (t0 : Nat) (r80 : Int → Int64 → Int → zt_S → Option (Int × zt_S)) (v3 : Int) (v6 : Int64) (v8 : Int) (σ : zt_S) : Option (Int × zt_S) :=
  r80 v3 v6 (v8 + (1 : Int)) σ
def F_Tb_isBestOfHands_80 (t0 : Nat)  : Nat → Int → Int64 → Int → zt_S → Option (Int × zt_S)
  | 0, _, _, _, _ => none
  | n + 1, v3, v6, v8, σ =>
  zt_bd (F_Su_cardCount (zt_su t0) σ) fun a15 s16 =>
  zt_ck (zt_in v8 ∧ zt_in a15) <| if v8 < a15 then
    zt_bd (F_Rw_has v6 v8 s16) fun a17 s18 =>
    zt_ck (zt_in a17) <| if a17 = (0 : Int) then
      F_Tb_isBestOfHands_121 t0 (F_Tb_isBestOfHands_80 t0 n) v3 v6 v8 s18
    else
      zt_bd (F_Tr_powerIfItLed (t0 + 1) (zt_su t0) v8 s18) fun a19 s20 =>
      zt_ck (zt_in a19 ∧ zt_in v3) <| if a19 < v3 then
        F_Tb_isBestOfHands_121 t0 (F_Tb_isBestOfHands_80 t0 n) v3 v6 v8 s20
      else
        some ((0 : Int), s20)
  else
    some ((1 : Int), s16)
def F_Tb_isBestOfHands (t0 : Nat) (v1 : Int) (σ : zt_S) : Option (Int × zt_S) :=
  zt_bd (F_Tb_holderOf t0 v1 σ) fun a1 s2 =>
  zt_ck (zt_in a1) <| if a1 = (-1 : Int) then
    some ((0 : Int), s2)
  else
    zt_bd (F_Tr_powerIfItLed (t0 + 1) (zt_su t0) v1 s2) fun a3 s4 =>
    zt_bd (F_Su_suitOf (zt_su t0) v1 s4) fun a5 s6 =>
    zt_bd (F_Su_cardsOf (zt_su t0) a5 s6) fun a7 s8 =>
    zt_bd (F_Su_cardsOf (zt_su t0) (s8.1 (t0 + 1) 7) s8) fun a9 s10 =>
    zt_bd (F_Tb_allHands t0 s10) fun a11 s12 =>
    zt_bd (F_Tb_handOf t0 a1 s12) fun a13 s14 =>
    F_Tb_isBestOfHands_80 t0 zt_N a3 ((a11 &&& (a13 ^^^ (-1 : Int64))) &&& (a7 ||| a9)) (0 : Int) s14
def F_Tb_strongest_63 (t0 : Nat) (r13 : Int64 → Int → Int → Int → zt_S → Option (Int × zt_S)) (v1 : Int64) (v3 : Int) (v4 : Int) (v5 : Int) (σ : zt_S) : Option (Int × zt_S) :=
  r13 v1 v3 v4 (v5 + (1 : Int)) σ
def F_Tb_strongest_13 (t0 : Nat)  : Nat → Int64 → Int → Int → Int → zt_S → Option (Int × zt_S)
  | 0, _, _, _, _, _ => none
  | n + 1, v1, v3, v4, v5, σ =>
  zt_bd (F_Su_cardCount (zt_su t0) σ) fun a3 s4 =>
  zt_ck (zt_in v5 ∧ zt_in a3) <| if v5 < a3 then
    zt_bd (F_Tr_powerOf (t0 + 1) (zt_su t0) v5 s4) fun a5 s6 =>
    zt_bd (F_Rw_has v1 v5 s6) fun a7 s8 =>
    zt_ck (zt_in a7) <| if a7 = (0 : Int) then
      F_Tb_strongest_63 t0 (F_Tb_strongest_13 t0 n) v1 v3 v4 v5 s8
    else
      zt_ck (zt_in a5 ∧ zt_in v4) <| if v4 < a5 then
        F_Tb_strongest_63 t0 (F_Tb_strongest_13 t0 n) v1 v5 a5 v5 s8
      else
        F_Tb_strongest_63 t0 (F_Tb_strongest_13 t0 n) v1 v3 v4 v5 s8
  else
    some (v3, s4)
def F_Tb_strongest (t0 : Nat)  (σ : zt_S) : Option (Int × zt_S) :=
  zt_bd (F_Tb_allowedCards t0 σ) fun a1 s2 =>
  F_Tb_strongest_13 t0 zt_N a1 (-1 : Int) (0 : Int) (0 : Int) s2
def F_Tr_wouldBeBest_25 (t0 : Nat) (t1 : Nat)  (x0 : Int) (σ : zt_S) : Option (Int × zt_S) :=
  zt_ck (x0 = 0 ∨ x0 = 1) <| some (x0, σ)
def F_Tr_wouldBeBest_20 (t0 : Nat) (t1 : Nat)   (σ : zt_S) : Option (Int × zt_S) :=
  F_Tr_wouldBeBest_25 t0 t1 (1 : Int) σ
def F_Tr_wouldBeBest (t0 : Nat) (t1 : Nat) (v2 : Int) (σ : zt_S) : Option (Int × zt_S) :=
  zt_ck (zt_in (σ.1 t0 2)) <| if (σ.1 t0 2) = (0 : Int) then
    F_Tr_wouldBeBest_20 t0 t1 σ
  else
    zt_bd (F_Tr_powerOf t0 t1 v2 σ) fun a1 s2 =>
    zt_ck (zt_in a1 ∧ zt_in (s2.1 t0 4)) <| if (s2.1 t0 4) < a1 then
      F_Tr_wouldBeBest_20 t0 t1 s2
    else
      F_Tr_wouldBeBest_25 t0 t1 (0 : Int) s2
def F_Tb_hasLessPower_37 (t0 : Nat)  (x0 : Int) (σ : zt_S) : Option (Int × zt_S) :=
  zt_ck (x0 = 0 ∨ x0 = 1) <| some (x0, σ)
def F_Tb_hasLessPower_32 (t0 : Nat)   (σ : zt_S) : Option (Int × zt_S) :=
  F_Tb_hasLessPower_37 t0 (1 : Int) σ
def F_Tb_hasLessPower (t0 : Nat) (v1 : Int) (v2 : Int) (σ : zt_S) : Option (Int × zt_S) :=
  zt_ck (zt_in v2) <| if v2 = (-1 : Int) then
    F_Tb_hasLessPower_32 t0 σ
  else
    zt_bd (F_Tr_powerOf (t0 + 1) (zt_su t0) v1 σ) fun a1 s2 =>
    zt_bd (F_Tr_powerOf (t0 + 1) (zt_su t0) v2 s2) fun a3 s4 =>
    zt_ck (zt_in a1 ∧ zt_in a3) <| if a1 < a3 then
      F_Tb_hasLessPower_32 t0 s4
    else
      F_Tb_hasLessPower_37 t0 (0 : Int) s4
def F_Tb_cheapest_97 (t0 : Nat) (r13 : Int64 → Int → Int → Int → zt_S → Option (Int × zt_S)) (v1 : Int64) (v3 : Int) (v4 : Int) (v5 : Int) (σ : zt_S) : Option (Int × zt_S) :=
  r13 v1 v3 v4 (v5 + (1 : Int)) σ
def F_Tb_cheapest_93 (t0 : Nat) (r13 : Int64 → Int → Int → Int → zt_S → Option (Int × zt_S)) (v1 : Int64) (v3 : Int) (v5 : Int) (σ : zt_S) : Option (Int × zt_S) :=
  F_Tb_cheapest_97 t0 r13 v1 v3 v5 v5 σ
def F_Tb_cheapest_66 (t0 : Nat) (r13 : Int64 → Int → Int → Int → zt_S → Option (Int × zt_S)) (v1 : Int64) (v3 : Int) (v4 : Int) (v5 : Int) (σ : zt_S) : Option (Int × zt_S) :=
  zt_ck (zt_in v4) <| if v4 = (-1 : Int) then
    F_Tb_cheapest_93 t0 r13 v1 v3 v5 σ
  else
    zt_bd (F_Su_rankOf (zt_su t0) v5 σ) fun a9 s10 =>
    zt_bd (F_Su_rankOf (zt_su t0) v4 s10) fun a11 s12 =>
    zt_ck (zt_in a9 ∧ zt_in a11) <| if a9 < a11 then
      F_Tb_cheapest_93 t0 r13 v1 v3 v5 s12
    else
      F_Tb_cheapest_97 t0 r13 v1 v3 v4 v5 s12
def F_Tb_cheapest_114 (t0 : Nat)  (x0 : Int) (σ : zt_S) : Option (Int × zt_S) :=
  some (x0, σ)
def F_Tb_cheapest_103 (t0 : Nat)  (v3 : Int) (v4 : Int) (σ : zt_S) : Option (Int × zt_S) :=
  zt_ck (zt_in v3) <| if v3 = (-1 : Int) then
    F_Tb_cheapest_114 t0 v4 σ
  else
    F_Tb_cheapest_114 t0 v3 σ
def F_Tb_cheapest_13 (t0 : Nat)  : Nat → Int64 → Int → Int → Int → zt_S → Option (Int × zt_S)
  | 0, _, _, _, _, _ => none
  | n + 1, v1, v3, v4, v5, σ =>
  zt_bd (F_Su_cardCount (zt_su t0) σ) fun a3 s4 =>
  zt_ck (zt_in v5 ∧ zt_in a3) <| if v5 < a3 then
    zt_bd (F_Rw_has v1 v5 s4) fun a5 s6 =>
    zt_ck (zt_in a5) <| if a5 = (0 : Int) then
      F_Tb_cheapest_97 t0 (F_Tb_cheapest_13 t0 n) v1 v3 v4 v5 s6
    else
      zt_bd (F_Tr_wouldBeBest (t0 + 1) (zt_su t0) v5 s6) fun a7 s8 =>
      zt_ck (zt_in a7) <| if a7 = (0 : Int) then
        F_Tb_cheapest_66 t0 (F_Tb_cheapest_13 t0 n) v1 v3 v4 v5 s8
      else
        zt_bd (F_Tb_hasLessPower t0 v5 v3 s8) fun a13 s14 =>
        zt_ck (zt_in a13) <| if a13 = (0 : Int) then
          F_Tb_cheapest_66 t0 (F_Tb_cheapest_13 t0 n) v1 v3 v4 v5 s14
        else
          F_Tb_cheapest_66 t0 (F_Tb_cheapest_13 t0 n) v1 v5 v4 v5 s14
  else
    F_Tb_cheapest_103 t0 v3 v4 s4
def F_Tb_cheapest (t0 : Nat)  (σ : zt_S) : Option (Int × zt_S) :=
  zt_bd (F_Tb_allowedCards t0 σ) fun a1 s2 =>
  F_Tb_cheapest_13 t0 zt_N a1 (-1 : Int) (-1 : Int) (0 : Int) s2
def F_Tb_choice_21 (t0 : Nat)  (x0 : Int) (σ : zt_S) : Option (Int × zt_S) :=
  some (x0, σ)
def F_Tb_choice (t0 : Nat)  (σ : zt_S) : Option (Int × zt_S) :=
  zt_ck (zt_in (σ.1 (t0 + 1) 2)) <| if (σ.1 (t0 + 1) 2) = (0 : Int) then
    zt_bd (F_Tb_strongest t0 σ) fun a1 s2 =>
    F_Tb_choice_21 t0 a1 s2
  else
    zt_bd (F_Tb_cheapest t0 σ) fun a3 s4 =>
    F_Tb_choice_21 t0 a3 s4
def F_TR_readSizes_92    (σ : zt_S) : Option (Unit × zt_S) :=
  some ((), σ)
def F_TR_readSizes   (σ : zt_S) : Option (Unit × zt_S) :=
  zt_bd (F_Tk_needWord (q_big + 1 + 0) σ) fun _ s2 =>
  zt_bd (F_Tk_takeNumber (4 : Int) (13 : Int) s2) fun a3 s4 =>
  zt_let (zt_up s4 129 0 a3) fun s5 =>
  zt_bd (F_Tk_takeNumber (2 : Int) (4 : Int) s5) fun a6 s7 =>
  zt_let (zt_up s7 129 1 a6) fun s8 =>
  zt_bd (F_Su_mostHeld 129 s8) fun a9 s10 =>
  zt_bd (F_Tk_takeNumber (1 : Int) a9 s10) fun a11 s12 =>
  zt_let (zt_up s12 129 2 a11) fun s13 =>
  zt_bd (F_Tk_takeWord (q_big + 1 + 1) s13) fun a14 s15 =>
  zt_ck (zt_in a14) <| if a14 = (0 : Int) then
    F_TR_readSizes_92 s15
  else
    zt_bd (F_Tk_takeNumber (0 : Int) (3 : Int) s15) fun a16 s17 =>
    zt_let (zt_up s17 130 11 a16) fun s18 =>
    F_TR_readSizes_92 s18
def F_TR_readTrump_96    (σ : zt_S) : Option (Unit × zt_S) :=
  zt_bd (F_Tk_takeWord (q_big + 1 + 5) σ) fun a11 s12 =>
  zt_ck (a11 = 0 ∨ a11 = 1) <| zt_let (zt_up s12 130 13 a11) fun s13 =>
  some ((), s13)
def F_TR_readTrump_67    (σ : zt_S) : Option (Unit × zt_S) :=
  zt_bd (F_Tk_takeWord (q_big + 1 + 4) σ) fun a9 s10 =>
  zt_ck (zt_in a9) <| if a9 = (0 : Int) then
    F_TR_readTrump_96 s10
  else
    zt_bd (F_Tk_takeNumber (0 : Int) (9 : Int) s10) fun a14 s15 =>
    zt_let (zt_up s15 130 12 a14) fun s16 =>
    F_TR_readTrump_96 s16
def F_TR_readTrump   (σ : zt_S) : Option (Unit × zt_S) :=
  zt_let (zt_up σ 129 3 (10 : Int)) fun s1 =>
  zt_bd (F_Tk_takeWord (q_big + 1 + 2) s1) fun a2 s3 =>
  zt_ck (zt_in a2) <| if a2 = (0 : Int) then
    some ((), s3)
  else
    zt_bd (F_Tk_takeNumber (0 : Int) (3 : Int) s3) fun a4 s5 =>
    zt_let (zt_up s5 130 14 a4) fun s6 =>
    zt_bd (F_Tk_takeWord (q_big + 1 + 3) s6) fun a7 s8 =>
    zt_ck (zt_in a7) <| if a7 = (0 : Int) then
      F_TR_readTrump_67 s8
    else
      zt_bd (F_Tk_takeNumber (0 : Int) (30 : Int) s8) fun a17 s18 =>
      zt_let (zt_up s18 129 3 a17) fun s19 =>
      F_TR_readTrump_67 s19
def F_TR_readStart_67    (σ : zt_S) : Option (Unit × zt_S) :=
  zt_bd (F_Tk_needSign (59 : Int) σ) fun _ s7 =>
  some ((), s7)
def F_TR_readStart_41    (σ : zt_S) : Option (Unit × zt_S) :=
  zt_bd (F_Tk_takeWord (q_big + 1 + 7) σ) fun a4 s5 =>
  zt_ck (zt_in a4) <| if a4 = (0 : Int) then
    F_TR_readStart_67 s5
  else
    zt_bd (F_Tk_takeNumber (0 : Int) (99999 : Int) s5) fun a8 s9 =>
    zt_let (zt_up s9 128 4 a8) fun s10 =>
    F_TR_readStart_67 s10
def F_TR_readStart   (σ : zt_S) : Option (Unit × zt_S) :=
  zt_let (zt_up σ 128 4 (0 : Int)) fun s1 =>
  zt_bd (F_Tk_takeWord (q_big + 1 + 6) s1) fun a2 s3 =>
  zt_ck (zt_in a2) <| if a2 = (0 : Int) then
    F_TR_readStart_41 s3
  else
    zt_bd (F_Tk_takeNumber (0 : Int) ((s3.1 129 1) - (1 : Int)) s3) fun a11 s12 =>
    zt_let (zt_up s12 130 15 a11) fun s13 =>
    F_TR_readStart_41 s13
def F_TR_readCard_75    (σ : zt_S) : Option (Unit × zt_S) :=
  some ((), σ)
def F_TR_readCard_49   (v1 : Int) (v2 : Int) (σ : zt_S) : Option (Unit × zt_S) :=
  zt_bd (F_Tk_hasFailed σ) fun a9 s10 =>
  zt_ck (zt_in a9) <| if a9 = (0 : Int) then
    zt_bd (F_Tb_give 130 v1 v2 s10) fun _ s12 =>
    zt_bd (F_Tk_next s12) fun _ s14 =>
    F_TR_readCard_75 s14
  else
    F_TR_readCard_75 s10
def F_TR_readCard_41   (v1 : Int) (v2 : Int) (σ : zt_S) : Option (Unit × zt_S) :=
  zt_bd (F_Tk_fail (3 : Int) σ) fun _ s16 =>
  F_TR_readCard_49 v1 v2 s16
def F_TR_readCard  (v1 : Int) (σ : zt_S) : Option (Unit × zt_S) :=
  zt_bd (F_Su_cardCount 129 σ) fun a1 s2 =>
  zt_bd (F_Tk_peekNumber (0 : Int) (a1 - (1 : Int)) s2) fun a3 s4 =>
  zt_bd (F_Tb_holderOf 130 a3 s4) fun a5 s6 =>
  zt_ck (zt_in a5) <| if a5 = (-1 : Int) then
    zt_bd (F_Tb_isFull 130 v1 s6) fun a7 s8 =>
    zt_ck (zt_in a7) <| if a7 = (0 : Int) then
      F_TR_readCard_49 v1 a3 s8
    else
      F_TR_readCard_41 v1 a3 s8
  else
    F_TR_readCard_41 v1 a3 s6
def F_TR_readHand_61    (σ : zt_S) : Option (Unit × zt_S) :=
  some ((), σ)
def F_TR_readHand_25   : Nat → Int → Int → Int → zt_S → Option (Unit × zt_S)
  | 0, _, _, _, _ => none
  | n + 1, v1, v2, v3, σ =>
  zt_ck (zt_in v3 ∧ zt_in v1) <| if v3 < v1 then
    zt_bd (F_Tk_hasFailed σ) fun a5 s6 =>
    zt_ck (zt_in a5) <| if a5 = (0 : Int) then
      zt_bd (F_Tk_isNumber s6) fun a7 s8 =>
      zt_ck (zt_in a7) <| if a7 = (0 : Int) then
        F_TR_readHand_61 s8
      else
        zt_bd (F_TR_readCard v2 s8) fun _ s10 =>
        F_TR_readHand_25 n v1 v2 (v3 + (1 : Int)) s10
    else
      F_TR_readHand_61 s6
  else
    F_TR_readHand_61 σ
def F_TR_readHand  (v1 : Int) (σ : zt_S) : Option (Unit × zt_S) :=
  zt_bd (F_Tk_takeNumber (0 : Int) ((σ.1 129 1) - (1 : Int)) σ) fun a1 s2 =>
  zt_bd (F_TR_readCard a1 s2) fun _ s4 =>
  F_TR_readHand_25 zt_N v1 a1 (0 : Int) s4
def F_TR_readTell_97    (σ : zt_S) : Option (Unit × zt_S) :=
  some ((), σ)
def F_TR_readTell_41   (v1 : Int) (σ : zt_S) : Option (Unit × zt_S) :=
  zt_bd (F_Tk_takeNumber (0 : Int) ((σ.1 129 1) - (1 : Int)) σ) fun a5 s6 =>
  zt_bd (F_Tk_takeNumber (0 : Int) (s6.1 129 2) s6) fun a7 s8 =>
  zt_bd (F_Tk_hasFailed s8) fun a9 s10 =>
  zt_ck (zt_in a9) <| if a9 = (0 : Int) then
    zt_bd (F_Rw_set 133 4 v1 a7 s10) fun _ s12 =>
    F_TR_readTell_97 s12
  else
    F_TR_readTell_97 s10
def F_TR_readTell   (σ : zt_S) : Option (Unit × zt_S) :=
  zt_bd (F_Tk_peekNumber (0 : Int) ((σ.1 129 1) - (1 : Int)) σ) fun a1 s2 =>
  zt_bd (F_Rw_at 133 4 a1 s2) fun a3 s4 =>
  zt_ck (zt_in a3) <| if a3 = (-1 : Int) then
    F_TR_readTell_41 a1 s4
  else
    zt_bd (F_Tk_fail (3 : Int) s4) fun _ s14 =>
    F_TR_readTell_41 a1 s14
def F_TR_readClause_47    (σ : zt_S) : Option (Unit × zt_S) :=
  zt_bd (F_Tk_needSign (59 : Int) σ) fun _ s8 =>
  some ((), s8)
def F_TR_readClause  (v1 : Int) (σ : zt_S) : Option (Unit × zt_S) :=
  zt_bd (F_Tk_takeWord (q_big + 1 + 8) σ) fun a1 s2 =>
  zt_ck (zt_in a1) <| if a1 = (0 : Int) then
    zt_bd (F_Tk_takeWord (q_big + 1 + 9) s2) fun a3 s4 =>
    zt_ck (zt_in a3) <| if a3 = (0 : Int) then
      zt_bd (F_Tk_fail (1 : Int) s4) fun _ s6 =>
      F_TR_readClause_47 s6
    else
      zt_bd (F_TR_readTell s4) fun _ s10 =>
      F_TR_readClause_47 s10
  else
    zt_bd (F_TR_readHand v1 s2) fun _ s12 =>
    F_TR_readClause_47 s12
def F_TR_handOut_55    (σ : zt_S) : Option (Unit × zt_S) :=
  zt_bd (F_Tb_openHand 130 σ) fun _ s10 =>
  some ((), s10)
def F_TR_handOut   (σ : zt_S) : Option (Unit × zt_S) :=
  zt_bd (F_Su_cardCount 129 σ) fun a1 s2 =>
  zt_bd (F_Pk_mix (σ.1 128 4) a1 s2) fun _ s4 =>
  zt_bd (F_Tb_allHands 130 s4) fun a5 s6 =>
  if (zt_lc a5 (0 : Int64)) = (0 : Int) then
    zt_bd (F_Tb_handOutInTurn 130 s6) fun _ s8 =>
    F_TR_handOut_55 s8
  else
    zt_bd (F_Tb_fillUp 130 s6) fun _ s12 =>
    F_TR_handOut_55 s12
def F_TR_read_79    (σ : zt_S) : Option (Int × zt_S) :=
  some ((σ.1 2 6), σ)
def F_TR_read_65    (σ : zt_S) : Option (Int × zt_S) :=
  zt_bd (F_Tk_hasFailed σ) fun a17 s18 =>
  zt_ck (zt_in a17) <| if a17 = (0 : Int) then
    zt_bd (F_TR_handOut s18) fun _ s20 =>
    F_TR_read_79 s20
  else
    F_TR_read_79 s18
def F_TR_read_29   : Nat → Int → Int → zt_S → Option (Int × zt_S)
  | 0, _, _, _ => none
  | n + 1, v1, v2, σ =>
  zt_ck (zt_in v2 ∧ zt_in v1) <| if v2 < v1 then
    zt_bd (F_Tk_hasFailed σ) fun a11 s12 =>
    zt_ck (zt_in a11) <| if a11 = (0 : Int) then
      zt_bd (F_Tk_isAtEnd s12) fun a13 s14 =>
      zt_ck (zt_in a13) <| if a13 = (0 : Int) then
        zt_bd (F_TR_readClause v1 s14) fun _ s16 =>
        F_TR_read_29 n v1 (v2 + (1 : Int)) s16
      else
        F_TR_read_65 s14
    else
      F_TR_read_65 s12
  else
    F_TR_read_65 σ
def F_TR_read  (v1 : Int) (σ : zt_S) : Option (Int × zt_S) :=
  zt_bd (F_Tk_open v1 σ) fun _ s2 =>
  zt_bd (F_Tb_clear 130 s2) fun _ s4 =>
  zt_bd (F_TR_readSizes s4) fun _ s6 =>
  zt_bd (F_TR_readTrump s6) fun _ s8 =>
  zt_bd (F_TR_readStart s8) fun _ s10 =>
  F_TR_read_29 zt_N v1 (0 : Int) s10
def F_C_append_49  (r3 : Int → Int → zt_S → Option (Unit × zt_S)) (v1 : Int) (v2 : Int) (σ : zt_S) : Option (Unit × zt_S) :=
  r3 v1 (v2 + (-8 : Int)) σ
def F_C_append_3   : Nat → Int → Int → zt_S → Option (Unit × zt_S)
  | 0, _, _, _ => none
  | n + 1, v1, v2, σ =>
  zt_ck (zt_in v2) <| if v2 < (0 : Int) then
    some ((), σ)
  else
    zt_ck (zt_in (σ.1 0 1)) <| if (σ.1 0 1) < (0 : Int) then
      F_C_append_49 (F_C_append_3 n) v1 v2 σ
    else
      zt_ck (zt_in (σ.1 0 1)) <| if (σ.1 0 1) < ((500 : Nat) : Int) then
        zt_ck (0 ≤ (σ.1 0 1) ∧ (σ.1 0 1) < ((500 : Nat) : Int)) <| zt_let (zt_up σ 1 (σ.1 0 1) (zt_b (zt_b (zt_shr v1 v2)))) fun s1 =>
        zt_let (zt_up s1 0 1 ((s1.1 0 1) + (1 : Int))) fun s2 =>
        F_C_append_49 (F_C_append_3 n) v1 v2 s2
      else
        F_C_append_49 (F_C_append_3 n) v1 v2 σ
def F_C_append  (v1 : Int) (σ : zt_S) : Option (Unit × zt_S) :=
  F_C_append_3 zt_N v1 (24 : Int) σ
def F_C_feed  (v1 : Int) (v2 : Int) (v3 : Int) (v4 : Int) (v5 : Int) (σ : zt_S) : Option (Int × zt_S) :=
  zt_ck (zt_in ((σ.1 0 1) + (20 : Int))) <| if (500 : Int) < ((σ.1 0 1) + (20 : Int)) then
    some ((-1 : Int), σ)
  else
    zt_bd (F_C_append v1 σ) fun _ s2 =>
    zt_bd (F_C_append v2 s2) fun _ s4 =>
    zt_bd (F_C_append v3 s4) fun _ s6 =>
    zt_bd (F_C_append v4 s6) fun _ s8 =>
    zt_bd (F_C_append v5 s8) fun _ s10 =>
    some ((s10.1 0 1), s10)
def F_C_load_12    (σ : zt_S) : Option ((Int ⊕ Nat) × zt_S) :=
  some (.inr 1, zt_nx σ)
def F_C_load  (v1 : Int) (σ : zt_S) : Option ((Int ⊕ Nat) × zt_S) :=
  zt_ck (zt_in v1) <| if v1 < (0 : Int) then
    F_C_load_12 σ
  else
    zt_ck (zt_in v1 ∧ zt_in (σ.1 0 1)) <| if (σ.1 0 1) < v1 then
      F_C_load_12 σ
    else
      zt_bd (F_TR_read v1 σ) fun a1 s2 =>
      zt_let (zt_up s2 0 1 (0 : Int)) fun s3 =>
      zt_ck (zt_in a1) <| if a1 = (0 : Int) then
        zt_bd (F_Su_copyFrom 3 129 s3) fun _ s5 =>
        zt_bd (F_Tb_copyFrom 6 130 s5) fun _ s7 =>
        zt_bd (F_Hi_clear s7) fun _ s9 =>
        zt_let (zt_up s9 0 8 (0 : Int)) fun s10 =>
        zt_bd (F_Su_cardsOfHands 3 s10) fun a11 s12 =>
        some (.inl a11, s12)
      else
        some (.inl ((-10 : Int) - a1), s3)
def F_C_errorPosition   (σ : zt_S) : Option (Int × zt_S) :=
  some ((σ.1 2 7), σ)
def F_C_query_19    (σ : zt_S) : Option ((Int ⊕ Nat) × zt_S) :=
  some (.inr 1, zt_nx σ)
def F_C_query_63   (x0 : Int) (σ : zt_S) : Option ((Int ⊕ Nat) × zt_S) :=
  some (.inl x0, σ)
def F_C_query  (v1 : Int) (σ : zt_S) : Option ((Int ⊕ Nat) × zt_S) :=
  zt_ck (zt_in v1) <| if v1 < (0 : Int) then
    F_C_query_19 σ
  else
    zt_ck (zt_in v1) <| if (200 : Int) < v1 then
      F_C_query_19 σ
    else
      zt_ck (zt_in v1 ∧ zt_in (σ.1 0 1)) <| if (σ.1 0 1) < v1 then
        F_C_query_19 σ
      else
        zt_bd (F_QR_read v1 σ) fun a1 s2 =>
        zt_let (zt_up s2 0 1 (0 : Int)) fun s3 =>
        zt_ck (zt_in a1) <| if a1 = (0 : Int) then
          zt_bd (F_QR_answer 6 s3) fun a4 s5 =>
          F_C_query_63 a4 s5
        else
          F_C_query_63 ((-1000000000 : Int) - a1) s3
def F_C_size_157   (x0 : Int) (σ : zt_S) : Option ((Int ⊕ Nat) × zt_S) :=
  some (.inl x0, σ)
def F_C_size_182   (x0 : Int) (σ : zt_S) : Option ((Int ⊕ Nat) × zt_S) :=
  some (.inl x0, σ)
def F_C_size  (v1 : Int) (σ : zt_S) : Option ((Int ⊕ Nat) × zt_S) :=
  zt_ck (zt_in v1) <| if v1 = (0 : Int) then
    some (.inl (σ.1 3 0), σ)
  else if v1 = (1 : Int) then
    some (.inl (σ.1 3 1), σ)
  else if v1 = (2 : Int) then
    some (.inl (σ.1 3 2), σ)
  else if v1 = (3 : Int) then
    some (.inl (σ.1 6 11), σ)
  else if v1 = (4 : Int) then
    some (.inl (σ.1 7 7), σ)
  else if v1 = (5 : Int) then
    some (.inl (σ.1 7 8), σ)
  else if v1 = (6 : Int) then
    some (.inl (σ.1 3 3), σ)
  else if v1 = (7 : Int) then
    some (.inl (σ.1 6 12), σ)
  else if v1 = (8 : Int) then
    zt_ck (zt_in (σ.1 6 13)) <| if (σ.1 6 13) = (0 : Int) then
      F_C_size_157 (0 : Int) σ
    else
      F_C_size_157 (1 : Int) σ
  else if v1 = (9 : Int) then
    zt_bd (F_Tb_isOver 6 σ) fun a1 s2 =>
    zt_ck (zt_in a1) <| if a1 = (0 : Int) then
      F_C_size_182 (s2.1 7 1) s2
    else
      F_C_size_182 (-1 : Int) s2
  else if v1 = (10 : Int) then
    some (.inl (σ.1 7 0), σ)
  else if v1 = (11 : Int) then
    some (.inl (σ.1 6 17), σ)
  else if v1 = (12 : Int) then
    some (.inl (σ.1 6 16), σ)
  else if v1 = (13 : Int) then
    some (.inl (σ.1 6 18), σ)
  else 
  some (.inr 0, zt_nx σ)
def F_C_needCard_15    (σ : zt_S) : Option ((Unit ⊕ Nat) × zt_S) :=
  some (.inr 0, zt_nx σ)
def F_C_needCard  (v1 : Int) (σ : zt_S) : Option ((Unit ⊕ Nat) × zt_S) :=
  zt_ck (zt_in v1) <| if v1 < (0 : Int) then
    F_C_needCard_15 σ
  else
    zt_bd (F_Su_cardCount 3 σ) fun a1 s2 =>
    zt_ck (zt_in v1 ∧ zt_in a1) <| if v1 < a1 then
      some (.inl (), s2)
    else
      F_C_needCard_15 s2
def F_C_suit  (v1 : Int) (σ : zt_S) : Option ((Int ⊕ Nat) × zt_S) :=
  zt_bx (F_C_needCard v1 σ) (fun a1 s2 =>
  zt_bd (F_Su_suitOf 3 v1 s2) fun a3 s4 =>
  some (.inl a3, s4)) (fun E s2 => some (.inr E, s2))
def F_C_rank  (v1 : Int) (σ : zt_S) : Option ((Int ⊕ Nat) × zt_S) :=
  zt_bx (F_C_needCard v1 σ) (fun a1 s2 =>
  zt_bd (F_Su_rankOf 3 v1 s2) fun a3 s4 =>
  some (.inl a3, s4)) (fun E s2 => some (.inr E, s2))
def F_C_holder  (v1 : Int) (σ : zt_S) : Option ((Int ⊕ Nat) × zt_S) :=
  zt_bx (F_C_needCard v1 σ) (fun a1 s2 =>
  zt_bd (F_Tb_holderOf 6 v1 s2) fun a3 s4 =>
  some (.inl a3, s4)) (fun E s2 => some (.inr E, s2))
def F_C_needPlayer_15    (σ : zt_S) : Option ((Unit ⊕ Nat) × zt_S) :=
  some (.inr 0, zt_nx σ)
def F_C_needPlayer  (v1 : Int) (σ : zt_S) : Option ((Unit ⊕ Nat) × zt_S) :=
  zt_ck (zt_in v1) <| if v1 < (0 : Int) then
    F_C_needPlayer_15 σ
  else
    zt_ck (zt_in v1 ∧ zt_in (σ.1 3 1)) <| if v1 < (σ.1 3 1) then
      some (.inl (), σ)
    else
      F_C_needPlayer_15 σ
def F_C_held  (v1 : Int) (σ : zt_S) : Option ((Int ⊕ Nat) × zt_S) :=
  zt_bx (F_C_needPlayer v1 σ) (fun a1 s2 =>
  zt_bd (F_Tb_handOf 6 v1 s2) fun a3 s4 =>
  zt_bd (F_J_bitCount a3 s4) fun a5 s6 =>
  some (.inl a5, s6)) (fun E s2 => some (.inr E, s2))
def F_C_inHand_26    (σ : zt_S) : Option ((Int ⊕ Nat) × zt_S) :=
  some (.inr 0, zt_nx σ)
def F_C_inHand_68  (r40 : Int → Int64 → Int → Int → zt_S → Option ((Int ⊕ Nat) × zt_S)) (v2 : Int) (v3 : Int64) (v5 : Int) (v6 : Int) (σ : zt_S) : Option ((Int ⊕ Nat) × zt_S) :=
  r40 v2 v3 v5 (v6 + (1 : Int)) σ
def F_C_inHand_40   : Nat → Int → Int64 → Int → Int → zt_S → Option ((Int ⊕ Nat) × zt_S)
  | 0, _, _, _, _, _ => none
  | n + 1, v2, v3, v5, v6, σ =>
  zt_ck (zt_in v6) <| if v6 < (52 : Int) then
    zt_bd (F_Rw_has v3 v6 σ) fun a7 s8 =>
    zt_ck (zt_in a7) <| if a7 = (0 : Int) then
      F_C_inHand_68 (F_C_inHand_40 n) v2 v3 v5 v6 s8
    else
      zt_ck (zt_in v5 ∧ zt_in v2) <| if v5 = v2 then
        some (.inl v6, s8)
      else
        F_C_inHand_68 (F_C_inHand_40 n) v2 v3 (v5 + (1 : Int)) v6 s8
  else
    some (.inl (-1 : Int), σ)
def F_C_inHand  (v1 : Int) (v2 : Int) (σ : zt_S) : Option ((Int ⊕ Nat) × zt_S) :=
  zt_bx (F_C_needPlayer v1 σ) (fun a1 s2 =>
  zt_bd (F_Tb_handOf 6 v1 s2) fun a3 s4 =>
  zt_ck (zt_in v2) <| if v2 < (0 : Int) then
    F_C_inHand_26 s4
  else
    zt_bd (F_J_bitCount a3 s4) fun a5 s6 =>
    zt_ck (zt_in v2 ∧ zt_in a5) <| if v2 < a5 then
      F_C_inHand_40 zt_N v2 a3 (0 : Int) (0 : Int) s6
    else
      F_C_inHand_26 s6) (fun E s2 => some (.inr E, s2))
def F_C_needSuit_9    (σ : zt_S) : Option ((Unit ⊕ Nat) × zt_S) :=
  some (.inr 0, zt_nx σ)
def F_C_needSuit  (v1 : Int) (σ : zt_S) : Option ((Unit ⊕ Nat) × zt_S) :=
  zt_ck (zt_in v1) <| if v1 < (0 : Int) then
    F_C_needSuit_9 σ
  else
    zt_ck (zt_in v1) <| if v1 < (4 : Int) then
      some (.inl (), σ)
    else
      F_C_needSuit_9 σ
def F_C_ofSuit  (v1 : Int) (v2 : Int) (σ : zt_S) : Option ((Int ⊕ Nat) × zt_S) :=
  zt_bx (F_C_needPlayer v1 σ) (fun a1 s2 =>
  zt_bx (F_C_needSuit v2 s2) (fun a3 s4 =>
  zt_bd (F_Tb_handOf 6 v1 s4) fun a5 s6 =>
  zt_bd (F_Su_cardsOf 3 v2 s6) fun a7 s8 =>
  zt_bd (F_J_bitCount (a5 &&& a7) s8) fun a9 s10 =>
  some (.inl a9, s10)) (fun E s4 => some (.inr E, s4))) (fun E s2 => some (.inr E, s2))
def F_C_isLegal  (v1 : Int) (σ : zt_S) : Option ((Int ⊕ Nat) × zt_S) :=
  zt_bx (F_C_needCard v1 σ) (fun a1 s2 =>
  zt_bd (F_Tb_allowedCards 6 s2) fun a3 s4 =>
  zt_bd (F_Rw_has a3 v1 s4) fun a5 s6 =>
  zt_ck (a5 = 0 ∨ a5 = 1) <| some (.inl a5, s6)) (fun E s2 => some (.inr E, s2))
def F_C_legal   (σ : zt_S) : Option (Int × zt_S) :=
  zt_bd (F_Tb_allowedCards 6 σ) fun a1 s2 =>
  zt_bd (F_J_bitCount a1 s2) fun a3 s4 =>
  some (a3, s4)
def F_C_power  (v1 : Int) (σ : zt_S) : Option ((Int ⊕ Nat) × zt_S) :=
  zt_bx (F_C_needCard v1 σ) (fun a1 s2 =>
  zt_bd (F_Tr_powerOf 7 3 v1 s2) fun a3 s4 =>
  some (.inl a3, s4)) (fun E s2 => some (.inr E, s2))
def F_C_led   (σ : zt_S) : Option (Int × zt_S) :=
  some ((σ.1 7 3), σ)
def F_C_winning   (σ : zt_S) : Option (Int × zt_S) :=
  some ((σ.1 7 6), σ)
def F_C_wouldLead  (v1 : Int) (σ : zt_S) : Option ((Int ⊕ Nat) × zt_S) :=
  zt_bx (F_C_needCard v1 σ) (fun a1 s2 =>
  zt_bd (F_Tr_wouldBeBest 7 3 v1 s2) fun a3 s4 =>
  zt_ck (a3 = 0 ∨ a3 = 1) <| some (.inl a3, s4)) (fun E s2 => some (.inr E, s2))
def F_C_played_15    (σ : zt_S) : Option ((Int ⊕ Nat) × zt_S) :=
  some (.inr 0, zt_nx σ)
def F_C_played  (v1 : Int) (v2 : Int) (σ : zt_S) : Option ((Int ⊕ Nat) × zt_S) :=
  zt_ck (zt_in v1) <| if v1 < (0 : Int) then
    F_C_played_15 σ
  else
    zt_ck (zt_in v1 ∧ zt_in (σ.1 6 16)) <| if v1 < (σ.1 6 16) then
      zt_ck (zt_in v2) <| if v2 = (0 : Int) then
        zt_bd (F_Rw_at 13 52 v1 σ) fun a1 s2 =>
        some (.inl a1, s2)
      else if v2 = (1 : Int) then
        zt_bd (F_Rw_at 14 52 v1 σ) fun a3 s4 =>
        some (.inl a3, s4)
      else if v2 = (2 : Int) then
        zt_bd (F_Su_trickOf 3 v1 σ) fun a5 s6 =>
        some (.inl a5, s6)
      else 
      some (.inr 0, zt_nx σ)
    else
      F_C_played_15 σ
def F_C_trick_25    (σ : zt_S) : Option ((Int ⊕ Nat) × zt_S) :=
  some (.inr 0, zt_nx σ)
def F_C_trick  (v1 : Int) (v2 : Int) (σ : zt_S) : Option ((Int ⊕ Nat) × zt_S) :=
  zt_ck (zt_in v1) <| if v1 < (0 : Int) then
    F_C_trick_25 σ
  else
    zt_ck (zt_in v1 ∧ zt_in (σ.1 6 17)) <| if v1 < (σ.1 6 17) then
      zt_ck (zt_in v2) <| if v2 < (0 : Int) then
        F_C_trick_25 σ
      else
        zt_ck (zt_in v2) <| if v2 < (6 : Int) then
          zt_bd (F_Rw_at 15 78 ((v1 * (6 : Int)) + v2) σ) fun a1 s2 =>
          some (.inl a1, s2)
        else
          F_C_trick_25 σ
    else
      F_C_trick_25 σ
def F_C_tricks  (v1 : Int) (σ : zt_S) : Option ((Int ⊕ Nat) × zt_S) :=
  zt_bx (F_C_needPlayer v1 σ) (fun a1 s2 =>
  zt_bd (F_Rw_at 10 4 v1 s2) fun a3 s4 =>
  some (.inl a3, s4)) (fun E s2 => some (.inr E, s2))
def F_C_told  (v1 : Int) (σ : zt_S) : Option ((Int ⊕ Nat) × zt_S) :=
  zt_bx (F_C_needPlayer v1 σ) (fun a1 s2 =>
  zt_bd (F_Rw_at 9 4 v1 s2) fun a3 s4 =>
  some (.inl a3, s4)) (fun E s2 => some (.inr E, s2))
def F_C_result  (v1 : Int) (σ : zt_S) : Option ((Int ⊕ Nat) × zt_S) :=
  zt_bx (F_C_needPlayer v1 σ) (fun a1 s2 =>
  zt_bd (F_Tb_resultOf 6 v1 s2) fun a3 s4 =>
  some (.inl a3, s4)) (fun E s2 => some (.inr E, s2))
def F_C_points  (v1 : Int) (σ : zt_S) : Option ((Int ⊕ Nat) × zt_S) :=
  zt_bx (F_C_needPlayer v1 σ) (fun a1 s2 =>
  zt_bd (F_Rw_at 12 4 v1 s2) fun a3 s4 =>
  some (.inl a3, s4)) (fun E s2 => some (.inr E, s2))
def F_C_ranking_7   : Nat → Int → Int → zt_S → Option ((Int ⊕ Nat) × zt_S)
  | 0, _, _, _ => none
  | n + 1, v1, v2, σ =>
  zt_ck (zt_in v2 ∧ zt_in (σ.1 3 1)) <| if v2 < (σ.1 3 1) then
    zt_bd (F_Tb_playersAhead 6 v2 σ) fun a3 s4 =>
    zt_ck (zt_in a3 ∧ zt_in v1) <| if a3 = v1 then
      some (.inl v2, s4)
    else
      F_C_ranking_7 n v1 (v2 + (1 : Int)) s4
  else
    some (.inl (-1 : Int), σ)
def F_C_ranking  (v1 : Int) (σ : zt_S) : Option ((Int ⊕ Nat) × zt_S) :=
  zt_bx (F_C_needPlayer v1 σ) (fun a1 s2 =>
  F_C_ranking_7 zt_N v1 (0 : Int) s2) (fun E s2 => some (.inr E, s2))
def F_C_lacks  (v1 : Int) (v2 : Int) (σ : zt_S) : Option ((Int ⊕ Nat) × zt_S) :=
  zt_bx (F_C_needPlayer v1 σ) (fun a1 s2 =>
  zt_bx (F_C_needSuit v2 s2) (fun a3 s4 =>
  zt_bd (F_Tb_isKnownToLack 6 v1 v2 s4) fun a5 s6 =>
  zt_ck (a5 = 0 ∨ a5 = 1) <| some (.inl a5, s6)) (fun E s4 => some (.inr E, s4))) (fun E s2 => some (.inr E, s2))
def F_C_could_61   (x0 : Int) (σ : zt_S) : Option ((Int ⊕ Nat) × zt_S) :=
  zt_ck (x0 = 0 ∨ x0 = 1) <| some (.inl x0, σ)
def F_C_could_60    (σ : zt_S) : Option ((Int ⊕ Nat) × zt_S) :=
  F_C_could_61 (0 : Int) σ
def F_C_could  (v1 : Int) (v2 : Int) (σ : zt_S) : Option ((Int ⊕ Nat) × zt_S) :=
  zt_bx (F_C_needPlayer v1 σ) (fun a1 s2 =>
  zt_bx (F_C_needCard v2 s2) (fun a3 s4 =>
  zt_bd (F_Tb_handOf 6 v1 s4) fun a5 s6 =>
  if (zt_lc a5 (0 : Int64)) = (0 : Int) then
    F_C_could_60 s6
  else
    zt_bd (F_Rw_has (s6.2.1 6 10) v2 s6) fun a7 s8 =>
    zt_ck (zt_in a7) <| if a7 = (0 : Int) then
      zt_bd (F_Su_suitOf 3 v2 s8) fun a9 s10 =>
      zt_bd (F_Tb_isKnownToLack 6 v1 a9 s10) fun a11 s12 =>
      zt_ck (zt_in a11) <| if a11 = (0 : Int) then
        F_C_could_61 (1 : Int) s12
      else
        F_C_could_60 s12
    else
      F_C_could_60 s8) (fun E s4 => some (.inr E, s4))) (fun E s2 => some (.inr E, s2))
def F_C_unseen  (v1 : Int) (σ : zt_S) : Option ((Int ⊕ Nat) × zt_S) :=
  zt_bx (F_C_needPlayer v1 σ) (fun a1 s2 =>
  zt_bd (F_Su_cardCount 3 s2) fun a3 s4 =>
  zt_bd (F_Tb_handOf 6 v1 s4) fun a5 s6 =>
  zt_bd (F_J_bitCount a5 s6) fun a7 s8 =>
  some (.inl ((a3 - (s4.1 6 16)) - a7), s8)) (fun E s2 => some (.inr E, s2))
def F_C_isMaster  (v1 : Int) (σ : zt_S) : Option ((Int ⊕ Nat) × zt_S) :=
  zt_bx (F_C_needCard v1 σ) (fun a1 s2 =>
  zt_bd (F_Tb_isBestOfHands 6 v1 s2) fun a3 s4 =>
  zt_ck (a3 = 0 ∨ a3 = 1) <| some (.inl a3, s4)) (fun E s2 => some (.inr E, s2))
def F_C_masters_46  (r9 : Int → Int → Int → zt_S → Option ((Int ⊕ Nat) × zt_S)) (v1 : Int) (v2 : Int) (v3 : Int) (σ : zt_S) : Option ((Int ⊕ Nat) × zt_S) :=
  r9 v1 v2 (v3 + (1 : Int)) σ
def F_C_masters_9   : Nat → Int → Int → Int → zt_S → Option ((Int ⊕ Nat) × zt_S)
  | 0, _, _, _, _ => none
  | n + 1, v1, v2, v3, σ =>
  zt_bd (F_Su_cardCount 3 σ) fun a3 s4 =>
  zt_ck (zt_in v3 ∧ zt_in a3) <| if v3 < a3 then
    zt_bd (F_Tb_holderOf 6 v3 s4) fun a5 s6 =>
    zt_ck (zt_in a5 ∧ zt_in v1) <| if a5 = v1 then
      zt_bd (F_Tb_isBestOfHands 6 v3 s6) fun a7 s8 =>
      zt_ck (zt_in a7) <| if a7 = (0 : Int) then
        F_C_masters_46 (F_C_masters_9 n) v1 v2 v3 s8
      else
        F_C_masters_46 (F_C_masters_9 n) v1 (v2 + (1 : Int)) v3 s8
    else
      F_C_masters_46 (F_C_masters_9 n) v1 v2 v3 s6
  else
    some (.inl v2, s4)
def F_C_masters  (v1 : Int) (σ : zt_S) : Option ((Int ⊕ Nat) × zt_S) :=
  zt_bx (F_C_needPlayer v1 σ) (fun a1 s2 =>
  F_C_masters_9 zt_N v1 (0 : Int) (0 : Int) s2) (fun E s2 => some (.inr E, s2))
def F_C_darkIn_40   (x0 : Int) (σ : zt_S) : Option (Int × zt_S) :=
  some (x0, σ)
def F_C_darkIn   (σ : zt_S) : Option (Int × zt_S) :=
  zt_ck (zt_in (σ.1 7 8)) <| if (σ.1 7 8) = (0 : Int) then
    some ((0 : Int), σ)
  else
    zt_ck (zt_in (σ.1 6 12)) <| if (0 : Int) < (σ.1 6 12) then
      zt_ck ((0 ≤ (((σ.1 7 8) + (σ.1 6 12)) - (1 : Int)) ∧ (((σ.1 7 8) + (σ.1 6 12)) - (1 : Int)) < 2147483648) ∧ (0 < (σ.1 6 12) ∧ (σ.1 6 12) < 2147483648)) <| F_C_darkIn_40 ((((σ.1 7 8) + (σ.1 6 12)) - (1 : Int)) / (σ.1 6 12)) σ
    else
      F_C_darkIn_40 (-1 : Int) σ
def F_C_sure_21   (x0 : Int) (σ : zt_S) : Option (Int × zt_S) :=
  some (x0, σ)
def F_C_sure   (σ : zt_S) : Option (Int × zt_S) :=
  zt_bd (F_SS_isOpen σ) fun a1 s2 =>
  zt_ck (zt_in a1) <| if a1 = (0 : Int) then
    F_C_sure_21 (-1 : Int) s2
  else
    zt_bd (F_SS_mostTricks s2) fun a3 s4 =>
    F_C_sure_21 a3 s4
def F_C_sureCard   (σ : zt_S) : Option (Int × zt_S) :=
  zt_bd (F_SS_isOpen σ) fun a1 s2 =>
  zt_ck (zt_in a1) <| if a1 = (0 : Int) then
    some ((-1 : Int), s2)
  else
    zt_bd (F_SS_mostTricks s2) fun a3 s4 =>
    some ((s4.1 144 8), s4)
def F_C_meanRank_55  (r20 : Int64 → Int → Int → zt_S → Option ((UInt64 ⊕ Nat) × zt_S)) (v2 : Int64) (v4 : Int) (v5 : Int) (σ : zt_S) : Option ((UInt64 ⊕ Nat) × zt_S) :=
  r20 v2 v4 (v5 + (1 : Int)) σ
def F_C_meanRank_80   (x0 : UInt64) (σ : zt_S) : Option ((UInt64 ⊕ Nat) × zt_S) :=
  some (.inl x0, σ)
def F_C_meanRank_61   (v2 : Int64) (v4 : Int) (σ : zt_S) : Option ((UInt64 ⊕ Nat) × zt_S) :=
  if (zt_lc v2 (0 : Int64)) = (0 : Int) then
    F_C_meanRank_80 FP.dconst0 σ
  else
    zt_bd (F_J_bitCount v2 σ) fun a11 s12 =>
    zt_ck ((FP.ddiv (zt_id v4) (zt_id a11)) &&& 0x7fffffffffffffff ≤ 0x7ff0000000000000) <| F_C_meanRank_80 (FP.ddiv (zt_id v4) (zt_id a11)) s12
def F_C_meanRank_20   : Nat → Int64 → Int → Int → zt_S → Option ((UInt64 ⊕ Nat) × zt_S)
  | 0, _, _, _, _ => none
  | n + 1, v2, v4, v5, σ =>
  zt_bd (F_Su_cardCount 3 σ) fun a5 s6 =>
  zt_ck (zt_in v5 ∧ zt_in a5) <| if v5 < a5 then
    zt_bd (F_Rw_has v2 v5 s6) fun a7 s8 =>
    zt_ck (zt_in a7) <| if a7 = (0 : Int) then
      F_C_meanRank_55 (F_C_meanRank_20 n) v2 v4 v5 s8
    else
      zt_bd (F_Su_rankOf 3 v5 s8) fun a9 s10 =>
      F_C_meanRank_55 (F_C_meanRank_20 n) v2 (v4 + a9) v5 s10
  else
    F_C_meanRank_61 v2 v4 s6
def F_C_meanRank  (v1 : Int) (σ : zt_S) : Option ((UInt64 ⊕ Nat) × zt_S) :=
  zt_bx (F_C_needPlayer v1 σ) (fun a1 s2 =>
  zt_bd (F_Tb_handOf 6 v1 s2) fun a3 s4 =>
  F_C_meanRank_20 zt_N a3 (0 : Int) (0 : Int) s4) (fun E s2 => some (.inr E, s2))
def F_C_share_40   (x0 : UInt32) (σ : zt_S) : Option ((UInt32 ⊕ Nat) × zt_S) :=
  some (.inl x0, σ)
def F_C_share  (v1 : Int) (σ : zt_S) : Option ((UInt32 ⊕ Nat) × zt_S) :=
  zt_bx (F_C_needPlayer v1 σ) (fun a1 s2 =>
  zt_ck (zt_in (s2.1 6 17)) <| if (0 : Int) < (s2.1 6 17) then
    zt_bd (F_Rw_at 10 4 v1 s2) fun a3 s4 =>
    zt_ck ((FP.fdiv (zt_if a3) (zt_if (s4.1 6 17))) &&& 0x7fffffff ≤ 0x7f800000) <| F_C_share_40 (FP.fdiv (zt_if a3) (zt_if (s4.1 6 17))) s4
  else
    F_C_share_40 FP.fconst0 s2) (fun E s2 => some (.inr E, s2))
def F_C_play_122   (x0 : Int) (σ : zt_S) : Option ((Int ⊕ Nat) × zt_S) :=
  some (.inl x0, σ)
def F_C_play  (v1 : Int) (σ : zt_S) : Option ((Int ⊕ Nat) × zt_S) :=
  zt_bx (F_C_needCard v1 σ) (fun a1 s2 =>
  zt_bd (F_Tb_isOver 6 s2) fun a3 s4 =>
  zt_ck (zt_in a3) <| if a3 = (0 : Int) then
    zt_bd (F_Tb_holderOf 6 v1 s4) fun a5 s6 =>
    zt_ck (zt_in a5 ∧ zt_in (s6.1 7 1)) <| if a5 = (s6.1 7 1) then
      zt_bd (F_Tb_allowedCards 6 s6) fun a7 s8 =>
      zt_bd (F_Rw_has a7 v1 s8) fun a9 s10 =>
      zt_ck (zt_in a9) <| if a9 = (0 : Int) then
        some (.inl (-4 : Int), s10)
      else
        zt_bd (F_Hi_keep 6 s10) fun _ s12 =>
        zt_bd (F_Tb_putDown 6 v1 s12) fun _ s14 =>
        zt_ck (zt_in (s14.1 7 2)) <| if (s14.1 7 2) = (0 : Int) then
          F_C_play_122 (s14.1 7 0) s14
        else
          F_C_play_122 ((s14.1 3 1) + (s14.1 7 1)) s14
    else
      some (.inl (-3 : Int), s6)
  else
    some (.inl (-2 : Int), s4)) (fun E s2 => some (.inr E, s2))
def F_C_needRange_10    (σ : zt_S) : Option ((Unit ⊕ Nat) × zt_S) :=
  some (.inr 1, zt_nx σ)
def F_C_needRange  (v1 : Int) (v2 : Int) (v3 : Int) (σ : zt_S) : Option ((Unit ⊕ Nat) × zt_S) :=
  zt_ck (zt_in v1 ∧ zt_in v2) <| if v1 < v2 then
    F_C_needRange_10 σ
  else
    zt_ck (zt_in v1 ∧ zt_in v3) <| if v3 < v1 then
      F_C_needRange_10 σ
    else
      some (.inl (), σ)
def F_C_auto_69   (v2 : Int) (σ : zt_S) : Option ((Int ⊕ Nat) × zt_S) :=
  some (.inl v2, σ)
def F_C_auto_34   : Nat → Int → Int → zt_S → Option ((Int ⊕ Nat) × zt_S)
  | 0, _, _, _ => none
  | n + 1, v1, v2, σ =>
  zt_ck (zt_in v2 ∧ zt_in v1) <| if v2 < v1 then
    zt_bd (F_Tb_isOver 6 σ) fun a7 s8 =>
    zt_ck (zt_in a7) <| if a7 = (0 : Int) then
      zt_bd (F_Tb_choice 6 s8) fun a9 s10 =>
      zt_bd (F_Tb_putDown 6 a9 s10) fun _ s12 =>
      F_C_auto_34 n v1 (v2 + (1 : Int)) s12
    else
      F_C_auto_69 v2 s8
  else
    F_C_auto_69 v2 σ
def F_C_auto  (v1 : Int) (σ : zt_S) : Option ((Int ⊕ Nat) × zt_S) :=
  zt_bx (F_C_needRange v1 (1 : Int) (52 : Int) σ) (fun a1 s2 =>
  zt_bd (F_Tb_isOver 6 s2) fun a3 s4 =>
  zt_ck (zt_in a3) <| if a3 = (0 : Int) then
    zt_bd (F_Hi_keep 6 s4) fun _ s6 =>
    F_C_auto_34 zt_N v1 (0 : Int) s6
  else
    some (.inl (-2 : Int), s4)) (fun E s2 => some (.inr E, s2))
def F_C_tell  (v1 : Int) (v2 : Int) (σ : zt_S) : Option ((Int ⊕ Nat) × zt_S) :=
  zt_bx (F_C_needPlayer v1 σ) (fun a1 s2 =>
  zt_bx (F_C_needRange v2 (0 : Int) (s2.1 3 2) s2) (fun a3 s4 =>
  zt_ck (zt_in (s4.1 6 16)) <| if (0 : Int) < (s4.1 6 16) then
    some (.inl (-2 : Int), s4)
  else
    zt_bd (F_Hi_keep 6 s4) fun _ s6 =>
    zt_bd (F_Rw_at 9 4 v1 s6) fun a7 s8 =>
    zt_bd (F_Rw_set 9 4 v1 v2 s8) fun _ s10 =>
    some (.inl (a7 + (1 : Int)), s10)) (fun E s4 => some (.inr E, s4))) (fun E s2 => some (.inr E, s2))
def F_C_deal  (v1 : Int) (σ : zt_S) : Option ((Int ⊕ Nat) × zt_S) :=
  zt_bx (F_C_needRange v1 (0 : Int) (99999 : Int) σ) (fun a1 s2 =>
  zt_bd (F_Tb_isOver 6 s2) fun a3 s4 =>
  zt_ck (zt_in a3) <| if a3 = (0 : Int) then
    some (.inl (-2 : Int), s4)
  else
    zt_bd (F_Hi_keep 6 s4) fun _ s6 =>
    zt_bd (F_Su_cardCount 3 s6) fun a7 s8 =>
    zt_bd (F_Pk_mix v1 a7 s8) fun _ s10 =>
    zt_bd (F_Tb_clearHand 6 s10) fun _ s12 =>
    zt_bd (F_Su_behind 3 (s12.1 6 15) s12) fun a13 s14 =>
    zt_let (zt_up s14 6 15 a13) fun s15 =>
    zt_bd (F_Tb_handOutInTurn 6 s15) fun _ s17 =>
    zt_bd (F_Tb_openHand 6 s17) fun _ s19 =>
    some (.inl (s19.1 7 0), s19)) (fun E s2 => some (.inr E, s2))
def F_C_setTrump  (v1 : Int) (σ : zt_S) : Option ((Int ⊕ Nat) × zt_S) :=
  zt_bx (F_C_needRange v1 (-1 : Int) (3 : Int) σ) (fun a1 s2 =>
  zt_ck (zt_in (s2.1 6 16)) <| if (0 : Int) < (s2.1 6 16) then
    some (.inl (-2 : Int), s2)
  else
    zt_bd (F_Hi_keep 6 s2) fun _ s4 =>
    zt_let (zt_up s4 6 14 v1) fun s5 =>
    zt_bd (F_Tb_lightTrump 6 s5) fun _ s7 =>
    some (.inl ((s4.1 6 14) + (1 : Int)), s7)) (fun E s2 => some (.inr E, s2))
def F_C_setRule  (v1 : Int) (σ : zt_S) : Option ((Int ⊕ Nat) × zt_S) :=
  zt_bx (F_C_needRange v1 (0 : Int) (3 : Int) σ) (fun a1 s2 =>
  zt_ck (zt_in (s2.1 7 2)) <| if (0 : Int) < (s2.1 7 2) then
    some (.inl (-2 : Int), s2)
  else
    zt_bd (F_Hi_keep 6 s2) fun _ s4 =>
    zt_let (zt_up s4 6 11 v1) fun s5 =>
    some (.inl (s4.1 6 11), s5)) (fun E s2 => some (.inr E, s2))
def F_C_setFade  (v1 : Int) (σ : zt_S) : Option ((Int ⊕ Nat) × zt_S) :=
  zt_bx (F_C_needRange v1 (0 : Int) (9 : Int) σ) (fun a1 s2 =>
  zt_bd (F_Hi_keep 6 s2) fun _ s4 =>
  zt_let (zt_up s4 6 12 v1) fun s5 =>
  some (.inl (s4.1 6 12), s5)) (fun E s2 => some (.inr E, s2))
def F_C_setRevive_36   (x0 : Int) (σ : zt_S) : Option (Int × zt_S) :=
  some (x0, σ)
def F_C_setRevive  (v1 : Int) (σ : zt_S) : Option (Int × zt_S) :=
  zt_bd (F_Hi_keep 6 σ) fun _ s2 =>
  zt_ck (v1 = 0 ∨ v1 = 1) <| zt_let (zt_up s2 6 13 v1) fun s3 =>
  zt_ck (zt_in (s2.1 6 13)) <| if (s2.1 6 13) = (0 : Int) then
    F_C_setRevive_36 (0 : Int) s3
  else
    F_C_setRevive_36 (1 : Int) s3
def F_C_format  (v1 : Int) (σ : zt_S) : Option ((Int ⊕ Nat) × zt_S) :=
  zt_bx (F_C_needPlayer v1 σ) (fun a1 s2 =>
  zt_bd (F_Tb_handOf 6 v1 s2) fun a3 s4 =>
  zt_bd (F_HT_write 3 a3 s4) fun a5 s6 =>
  some (.inl a5, s6)) (fun E s2 => some (.inr E, s2))
def F_C_formattedByte  (v1 : Int) (σ : zt_S) : Option (Int × zt_S) :=
  zt_bd (F_HT_byteAt v1 σ) fun a1 s2 =>
  some (a1, s2)
def F_C_undoCount   (σ : zt_S) : Option (Int × zt_S) :=
  some ((σ.1 16 2), σ)
def F_C_undo   (σ : zt_S) : Option (Int × zt_S) :=
  zt_ck (zt_in (σ.1 16 2)) <| if (0 : Int) < (σ.1 16 2) then
    zt_bd (F_Hi_takeBack 6 σ) fun _ s2 =>
    some ((s2.1 16 2), s2)
  else
    some ((-1 : Int), σ)
def F_C_saveSnapshot   (σ : zt_S) : Option (Unit × zt_S) :=
  zt_bd (F_Tb_copyFrom 118 6 σ) fun _ s2 =>
  zt_let (zt_up s2 0 8 (1 : Int)) fun s3 =>
  some ((), s3)
def F_C_restoreSnapshot   (σ : zt_S) : Option (Int × zt_S) :=
  zt_ck (zt_in (σ.1 0 8)) <| if (σ.1 0 8) = (0 : Int) then
    some ((0 : Int), σ)
  else
    zt_bd (F_Tb_copyFrom 6 118 σ) fun _ s2 =>
    zt_bd (F_Hi_clear s2) fun _ s4 =>
    some ((1 : Int), s4)
def F_M_thrown   (σ : zt_S) : Option (Int × zt_S) :=
  some ((σ.1 163 0), σ)
def F_M_in_18   (x0 : Int) (σ : zt_S) : Option (Int × zt_S) :=
  zt_ck (x0 = 0 ∨ x0 = 1) <| some (x0, σ)
def F_M_in_17    (σ : zt_S) : Option (Int × zt_S) :=
  F_M_in_18 (0 : Int) σ
def F_M_in  (v0 : Int64) (v2 : Int64) (v4 : Int64) (σ : zt_S) : Option (Int × zt_S) :=
  if (zt_lc v0 v2) < (0 : Int) then
    F_M_in_17 σ
  else
    if (0 : Int) < (zt_lc v0 v4) then
      F_M_in_17 σ
    else
      F_M_in_18 (1 : Int) σ
def F_M_lesser_10   (x0 : Int) (σ : zt_S) : Option (Int × zt_S) :=
  some (x0, σ)
def F_M_lesser  (v0 : Int) (v1 : Int) (σ : zt_S) : Option (Int × zt_S) :=
  zt_ck (zt_in v0 ∧ zt_in v1) <| if v0 < v1 then
    F_M_lesser_10 v0 σ
  else
    F_M_lesser_10 v1 σ
def F_M_greater_10   (x0 : Int) (σ : zt_S) : Option (Int × zt_S) :=
  some (x0, σ)
def F_M_greater  (v0 : Int) (v1 : Int) (σ : zt_S) : Option (Int × zt_S) :=
  zt_ck (zt_in v0 ∧ zt_in v1) <| if v1 < v0 then
    F_M_greater_10 v0 σ
  else
    F_M_greater_10 v1 σ
def F_M_fails_28   (x0 : Int) (σ : zt_S) : Option (Int × zt_S) :=
  zt_ck (x0 = 0 ∨ x0 = 1) <| some (x0, σ)
def F_M_fails_16    (σ : zt_S) : Option (Int × zt_S) :=
  zt_ck (zt_in (σ.1 163 0)) <| if (σ.1 163 0) = (0 : Int) then
    F_M_fails_28 (0 : Int) σ
  else
    F_M_fails_28 (1 : Int) σ
def F_M_fails  (v1 : Int) (v2 : Int) (σ : zt_S) : Option (Int × zt_S) :=
  zt_ck (zt_in v1) <| if v1 = (0 : Int) then
    zt_ck (zt_in (σ.1 163 0)) <| if (σ.1 163 0) = (0 : Int) then
      zt_let (zt_up σ 163 0 v2) fun s1 =>
      F_M_fails_16 s1
    else
      F_M_fails_16 σ
  else
    F_M_fails_16 σ
def F_M_copies_3 (c0 : Nat) (n0 : Nat) (c2 : Nat) (n2 : Nat)  : Nat → Int → Int → Int → zt_S → Option (Unit × zt_S)
  | 0, _, _, _, _ => none
  | n + 1, v1, v3, v4, σ =>
  zt_ck (zt_in v4) <| if v4 < (274 : Int) then
    zt_ck (0 ≤ (v1 + v4) ∧ (v1 + v4) < ((n0 : Nat) : Int)) <| zt_ck (0 ≤ (v3 + v4) ∧ (v3 + v4) < ((n2 : Nat) : Int)) <| zt_let (zt_up σ c2 (v3 + v4) (σ.1 c0 (v1 + v4))) fun s1 =>
    F_M_copies_3 c0 n0 c2 n2 n v1 v3 (v4 + (1 : Int)) s1
  else
    some ((), σ)
def F_M_copies (c0 : Nat) (n0 : Nat) (c2 : Nat) (n2 : Nat) (v1 : Int) (v3 : Int) (σ : zt_S) : Option (Unit × zt_S) :=
  F_M_copies_3 c0 n0 c2 n2 zt_N v1 v3 (0 : Int) σ
def F_M_lights_25 (c0 : Nat) (n0 : Nat)  (x0 : Int) (x1 : Int) (σ : zt_S) : Option (Unit × zt_S) :=
  zt_ck (0 ≤ x1 ∧ x1 < ((n0 : Nat) : Int)) <| zt_let (zt_up σ c0 x1 x0) fun s2 =>
  some ((), s2)
def F_M_lights (c0 : Nat) (n0 : Nat)  (σ : zt_S) : Option (Unit × zt_S) :=
  zt_ck (0 ≤ (4 : Int) ∧ (4 : Int) < ((n0 : Nat) : Int)) <| zt_ck (0 ≤ (10 : Int) ∧ (10 : Int) < ((n0 : Nat) : Int)) <| zt_let (zt_up σ c0 (10 : Int) (σ.1 c0 (4 : Int))) fun s1 =>
  zt_ck (0 ≤ (10 : Int) ∧ (10 : Int) < ((n0 : Nat) : Int)) <| zt_ck (zt_in (s1.1 c0 (10 : Int))) <| if (s1.1 c0 (10 : Int)) = (-1 : Int) then
    F_M_lights_25 c0 n0 (0 : Int) (11 : Int) s1
  else
    zt_ck (0 ≤ (5 : Int) ∧ (5 : Int) < ((n0 : Nat) : Int)) <| F_M_lights_25 c0 n0 (s1.1 c0 (5 : Int)) (11 : Int) s1
def F_M_starts0_62 (c0 : Nat) (n0 : Nat)   (σ : zt_S) : Option (Unit × zt_S) :=
  zt_ck (0 ≤ (8 : Int) ∧ (8 : Int) < ((n0 : Nat) : Int)) <| zt_ck (0 ≤ (9 : Int) ∧ (9 : Int) < ((n0 : Nat) : Int)) <| zt_let (zt_up σ c0 (9 : Int) (σ.1 c0 (8 : Int))) fun s4 =>
  zt_ck (0 ≤ (12 : Int) ∧ (12 : Int) < ((n0 : Nat) : Int)) <| zt_let (zt_up s4 c0 (12 : Int) (0 : Int)) fun s5 =>
  zt_ck (0 ≤ (13 : Int) ∧ (13 : Int) < ((n0 : Nat) : Int)) <| zt_let (zt_up s5 c0 (13 : Int) (0 : Int)) fun s6 =>
  zt_bd (F_M_lights c0 n0 s6) fun _ s8 =>
  some ((), s8)
def F_M_starts0_43 (c0 : Nat) (n0 : Nat)  : Nat → Int → zt_S → Option (Unit × zt_S)
  | 0, _, _ => none
  | n + 1, v1, σ =>
  zt_ck (zt_in v1) <| if v1 < (52 : Int) then
    zt_ck (0 ≤ ((40 : Int) + v1) ∧ ((40 : Int) + v1) < ((n0 : Nat) : Int)) <| zt_let (zt_up σ c0 ((40 : Int) + v1) (-1 : Int)) fun s3 =>
    F_M_starts0_43 c0 n0 n (v1 + (1 : Int)) s3
  else
    F_M_starts0_62 c0 n0 σ
def F_M_starts0_22 (c0 : Nat) (n0 : Nat)  : Nat → Int → zt_S → Option (Unit × zt_S)
  | 0, _, _ => none
  | n + 1, v1, σ =>
  zt_ck (zt_in v1) <| if v1 < (16 : Int) then
    zt_ck (0 ≤ ((24 : Int) + v1) ∧ ((24 : Int) + v1) < ((n0 : Nat) : Int)) <| zt_let (zt_up σ c0 ((24 : Int) + v1) (0 : Int)) fun s2 =>
    F_M_starts0_22 c0 n0 n (v1 + (1 : Int)) s2
  else
    F_M_starts0_43 c0 n0 zt_N (0 : Int) σ
def F_M_starts0_2 (c0 : Nat) (n0 : Nat)  : Nat → Int → zt_S → Option (Unit × zt_S)
  | 0, _, _ => none
  | n + 1, v1, σ =>
  zt_ck (zt_in v1) <| if v1 < (4 : Int) then
    zt_ck (0 ≤ ((16 : Int) + v1) ∧ ((16 : Int) + v1) < ((n0 : Nat) : Int)) <| zt_let (zt_up σ c0 ((16 : Int) + v1) (-1 : Int)) fun s1 =>
    F_M_starts0_2 c0 n0 n (v1 + (1 : Int)) s1
  else
    F_M_starts0_22 c0 n0 zt_N (0 : Int) σ
def F_M_starts0 (c0 : Nat) (n0 : Nat)  (σ : zt_S) : Option (Unit × zt_S) :=
  F_M_starts0_2 c0 n0 zt_N (0 : Int) σ
def F_M_begins_25   (v1 : Int) (v2 : Int) (v3 : Int) (σ : zt_S) : Option (Unit × zt_S) :=
  zt_let (zt_up σ 165 (0 : Int) v1) fun s2 =>
  zt_let (zt_up s2 165 (1 : Int) v2) fun s3 =>
  zt_let (zt_up s3 165 (2 : Int) v3) fun s4 =>
  zt_let (zt_up s4 165 (3 : Int) (1 : Int)) fun s5 =>
  zt_let (zt_up s5 165 (4 : Int) (-1 : Int)) fun s6 =>
  zt_let (zt_up s6 165 (5 : Int) (10 : Int)) fun s7 =>
  zt_let (zt_up s7 165 (6 : Int) (2 : Int)) fun s8 =>
  zt_bd (F_M_starts0 165 274 s8) fun _ s10 =>
  some ((), s10)
def F_M_begins_3   : Nat → Int → Int → Int → Int → zt_S → Option (Unit × zt_S)
  | 0, _, _, _, _, _ => none
  | n + 1, v1, v2, v3, v4, σ =>
  zt_ck (zt_in v4) <| if v4 < (274 : Int) then
    zt_ck (0 ≤ v4 ∧ v4 < ((274 : Nat) : Int)) <| zt_let (zt_up σ 165 v4 (0 : Int)) fun s1 =>
    F_M_begins_3 n v1 v2 v3 (v4 + (1 : Int)) s1
  else
    F_M_begins_25 v1 v2 v3 σ
def F_M_begins  (v1 : Int) (v2 : Int) (v3 : Int) (σ : zt_S) : Option (Unit × zt_S) :=
  F_M_begins_3 zt_N v1 v2 v3 (0 : Int) σ
def F_M_piles_27   : Nat → Int → Int → zt_S → Option (Unit × zt_S)
  | 0, _, _, _ => none
  | n + 1, v3, v4, σ =>
  zt_ck (zt_in v4) <| if (0 : Int) < v4 then
    zt_ck (0 ≤ ((v3 * (1103 : Int)) + (12345 : Int)) ∧ ((v3 * (1103 : Int)) + (12345 : Int)) < 2147483648) <| zt_ck ((0 ≤ (((v3 * (1103 : Int)) + (12345 : Int)) % (100003 : Int)) ∧ (((v3 * (1103 : Int)) + (12345 : Int)) % (100003 : Int)) < 2147483648) ∧ (0 < (v4 + (1 : Int)) ∧ (v4 + (1 : Int)) < 2147483648)) <| zt_ck (0 ≤ v4 ∧ v4 < ((52 : Nat) : Int)) <| zt_ck (0 ≤ ((((v3 * (1103 : Int)) + (12345 : Int)) % (100003 : Int)) % (v4 + (1 : Int))) ∧ ((((v3 * (1103 : Int)) + (12345 : Int)) % (100003 : Int)) % (v4 + (1 : Int))) < ((52 : Nat) : Int)) <| zt_ck (0 ≤ v4 ∧ v4 < ((52 : Nat) : Int)) <| zt_let (zt_up σ 168 v4 (σ.1 168 ((((v3 * (1103 : Int)) + (12345 : Int)) % (100003 : Int)) % (v4 + (1 : Int))))) fun s2 =>
    zt_ck (0 ≤ ((((v3 * (1103 : Int)) + (12345 : Int)) % (100003 : Int)) % (v4 + (1 : Int))) ∧ ((((v3 * (1103 : Int)) + (12345 : Int)) % (100003 : Int)) % (v4 + (1 : Int))) < ((52 : Nat) : Int)) <| zt_let (zt_up s2 168 ((((v3 * (1103 : Int)) + (12345 : Int)) % (100003 : Int)) % (v4 + (1 : Int))) (σ.1 168 v4)) fun s3 =>
    F_M_piles_27 n (((v3 * (1103 : Int)) + (12345 : Int)) % (100003 : Int)) (v4 + (-1 : Int)) s3
  else
    some ((), σ)
def F_M_piles_2   : Nat → Int → Int → Int → zt_S → Option (Unit × zt_S)
  | 0, _, _, _, _ => none
  | n + 1, v1, v2, v3, σ =>
  zt_ck (zt_in v3 ∧ zt_in v1) <| if v3 < v1 then
    zt_ck (0 ≤ v3 ∧ v3 < ((52 : Nat) : Int)) <| zt_let (zt_up σ 168 v3 v3) fun s1 =>
    F_M_piles_2 n v1 v2 (v3 + (1 : Int)) s1
  else
    F_M_piles_27 zt_N v2 (v1 - (1 : Int)) σ
def F_M_piles  (v1 : Int) (v2 : Int) (σ : zt_S) : Option (Unit × zt_S) :=
  F_M_piles_2 zt_N v1 v2 (0 : Int) σ
def F_M_deals_12 (c1 : Nat) (n1 : Nat)  : Nat → Int → zt_S → Option (Unit × zt_S)
  | 0, _, _ => none
  | n + 1, v3, σ =>
  zt_ck (0 ≤ (1 : Int) ∧ (1 : Int) < ((n1 : Nat) : Int)) <| zt_ck (0 ≤ (2 : Int) ∧ (2 : Int) < ((n1 : Nat) : Int)) <| zt_ck (zt_in v3 ∧ zt_in ((σ.1 c1 (1 : Int)) * (σ.1 c1 (2 : Int)))) <| if v3 < ((σ.1 c1 (1 : Int)) * (σ.1 c1 (2 : Int))) then
    zt_ck (0 ≤ v3 ∧ v3 < ((52 : Nat) : Int)) <| zt_ck (0 ≤ (1 : Int) ∧ (1 : Int) < ((n1 : Nat) : Int)) <| zt_ck ((0 ≤ v3 ∧ v3 < 2147483648) ∧ (0 < (σ.1 c1 (1 : Int)) ∧ (σ.1 c1 (1 : Int)) < 2147483648)) <| zt_ck (0 ≤ ((40 : Int) + (σ.1 168 v3)) ∧ ((40 : Int) + (σ.1 168 v3)) < ((n1 : Nat) : Int)) <| zt_let (zt_up σ c1 ((40 : Int) + (σ.1 168 v3)) (v3 % (σ.1 c1 (1 : Int)))) fun s3 =>
    F_M_deals_12 c1 n1 n (v3 + (1 : Int)) s3
  else
    some ((), σ)
def F_M_deals (c1 : Nat) (n1 : Nat) (v2 : Int) (σ : zt_S) : Option (Unit × zt_S) :=
  zt_ck (0 ≤ (0 : Int) ∧ (0 : Int) < ((n1 : Nat) : Int)) <| zt_bd (F_M_piles ((4 : Int) * (σ.1 c1 (0 : Int))) v2 σ) fun _ s2 =>
  F_M_deals_12 c1 n1 zt_N (0 : Int) s2
def F_M_lays_3   : Nat → Int → Int → zt_S → Option (Unit × zt_S)
  | 0, _, _, _ => none
  | n + 1, v1, v2, σ =>
  zt_ck (zt_in v2) <| if v2 < (0 : Int) then
    some ((), σ)
  else
    zt_ck (0 ≤ (σ.1 163 9) ∧ (σ.1 163 9) < ((500 : Nat) : Int)) <| zt_let (zt_up σ 169 (σ.1 163 9) (zt_and (zt_shr v1 v2) (255 : Int))) fun s1 =>
    zt_let (zt_up s1 163 9 ((s1.1 163 9) + (1 : Int))) fun s2 =>
    F_M_lays_3 n v1 (v2 + (-8 : Int)) s2
def F_M_lays  (v1 : Int) (σ : zt_S) : Option (Unit × zt_S) :=
  F_M_lays_3 zt_N v1 (24 : Int) σ
def F_M_feed  (v1 : Int) (v2 : Int) (v3 : Int) (v4 : Int) (v5 : Int) (σ : zt_S) : Option (Int × zt_S) :=
  zt_let (zt_up σ 163 0 (0 : Int)) fun s1 =>
  zt_ck (zt_in ((s1.1 163 9) + (20 : Int))) <| if (500 : Int) < ((s1.1 163 9) + (20 : Int)) then
    some ((-1 : Int), s1)
  else
    zt_bd (F_M_lays v1 s1) fun _ s3 =>
    zt_bd (F_M_lays v2 s3) fun _ s5 =>
    zt_bd (F_M_lays v3 s5) fun _ s7 =>
    zt_bd (F_M_lays v4 s7) fun _ s9 =>
    zt_bd (F_M_lays v5 s9) fun _ s11 =>
    some ((s11.1 163 9), s11)
def F_M_errorPosition   (σ : zt_S) : Option (Int × zt_S) :=
  zt_let (zt_up σ 163 0 (0 : Int)) fun s1 =>
  some ((s1.1 163 17), s1)
def F_M_byteAt_18   (x0 : Int) (σ : zt_S) : Option (Int × zt_S) :=
  some (x0, σ)
def F_M_byteAt  (v1 : Int) (σ : zt_S) : Option (Int × zt_S) :=
  zt_ck (zt_in v1 ∧ zt_in (σ.1 163 10)) <| if v1 < (σ.1 163 10) then
    zt_ck (0 ≤ v1 ∧ v1 < ((500 : Nat) : Int)) <| F_M_byteAt_18 (σ.1 169 v1) σ
  else
    F_M_byteAt_18 (-1 : Int) σ
def F_M_isLetter_17   (x0 : Int) (σ : zt_S) : Option (Int × zt_S) :=
  zt_ck (x0 = 0 ∨ x0 = 1) <| some (x0, σ)
def F_M_isLetter_16    (σ : zt_S) : Option (Int × zt_S) :=
  F_M_isLetter_17 (0 : Int) σ
def F_M_isLetter  (v0 : Int) (σ : zt_S) : Option (Int × zt_S) :=
  zt_ck (zt_in v0) <| if v0 < (97 : Int) then
    F_M_isLetter_16 σ
  else
    zt_ck (zt_in v0) <| if (122 : Int) < v0 then
      F_M_isLetter_16 σ
    else
      F_M_isLetter_17 (1 : Int) σ
def F_M_isFigure_17   (x0 : Int) (σ : zt_S) : Option (Int × zt_S) :=
  zt_ck (x0 = 0 ∨ x0 = 1) <| some (x0, σ)
def F_M_isFigure_16    (σ : zt_S) : Option (Int × zt_S) :=
  F_M_isFigure_17 (0 : Int) σ
def F_M_isFigure  (v0 : Int) (σ : zt_S) : Option (Int × zt_S) :=
  zt_ck (zt_in v0) <| if v0 < (48 : Int) then
    F_M_isFigure_16 σ
  else
    zt_ck (zt_in v0) <| if (57 : Int) < v0 then
      F_M_isFigure_16 σ
    else
      F_M_isFigure_17 (1 : Int) σ
def F_M_readsWord_73    (σ : zt_S) : Option (Unit × zt_S) :=
  zt_let (zt_up σ 163 13 (1 : Int)) fun s6 =>
  some ((), s6)
def F_M_readsWord_60  (r5 : zt_S → Option (Unit × zt_S))  (σ : zt_S) : Option (Unit × zt_S) :=
  zt_let (zt_up σ 163 11 ((σ.1 163 11) + (1 : Int))) fun s8 =>
  r5 s8
def F_M_readsWord_5   : Nat → zt_S → Option (Unit × zt_S)
  | 0, _ => none
  | n + 1, σ =>
  zt_bd (F_M_byteAt (σ.1 163 11) σ) fun a2 s3 =>
  zt_bd (F_M_isLetter a2 s3) fun a4 s5 =>
  zt_ck (zt_in a4) <| if a4 = (0 : Int) then
    F_M_readsWord_73 s5
  else
    zt_ck (zt_in ((s5.1 163 11) - (s5.1 163 12))) <| if ((s5.1 163 11) - (s5.1 163 12)) < (10 : Int) then
      zt_ck (0 ≤ (s5.1 163 11) ∧ (s5.1 163 11) < ((500 : Nat) : Int)) <| zt_let (zt_uL s5 163 15 ((((27 : Int64) * (s5.2.1 163 15)) + (zt_l (s5.1 169 (s5.1 163 11)))) - (96 : Int64))) fun s7 =>
      F_M_readsWord_60 (F_M_readsWord_5 n) s7
    else
      F_M_readsWord_60 (F_M_readsWord_5 n) s5
def F_M_readsWord   (σ : zt_S) : Option (Unit × zt_S) :=
  zt_let (zt_uL σ 163 15 (0 : Int64)) fun s1 =>
  F_M_readsWord_5 zt_N s1
def F_M_readsNumber_72    (σ : zt_S) : Option (Unit × zt_S) :=
  zt_let (zt_up σ 163 13 (2 : Int)) fun s6 =>
  some ((), s6)
def F_M_readsNumber_56  (r5 : zt_S → Option (Unit × zt_S)) (x0 : Int) (σ : zt_S) : Option (Unit × zt_S) :=
  zt_let (zt_up σ 163 14 x0) fun s7 =>
  zt_let (zt_up s7 163 11 ((s7.1 163 11) + (1 : Int))) fun s8 =>
  r5 s8
def F_M_readsNumber_5   : Nat → zt_S → Option (Unit × zt_S)
  | 0, _ => none
  | n + 1, σ =>
  zt_bd (F_M_byteAt (σ.1 163 11) σ) fun a2 s3 =>
  zt_bd (F_M_isFigure a2 s3) fun a4 s5 =>
  zt_ck (zt_in a4) <| if a4 = (0 : Int) then
    F_M_readsNumber_72 s5
  else
    zt_ck (zt_in (s5.1 163 14)) <| if (9999999 : Int) < (s5.1 163 14) then
      F_M_readsNumber_56 (F_M_readsNumber_5 n) (s5.1 163 14) s5
    else
      zt_ck (0 ≤ (s5.1 163 11) ∧ (s5.1 163 11) < ((500 : Nat) : Int)) <| F_M_readsNumber_56 (F_M_readsNumber_5 n) ((((10 : Int) * (s5.1 163 14)) + (s5.1 169 (s5.1 163 11))) - (48 : Int)) s5
def F_M_readsNumber   (σ : zt_S) : Option (Unit × zt_S) :=
  zt_let (zt_up σ 163 14 (0 : Int)) fun s1 =>
  F_M_readsNumber_5 zt_N s1
def F_M_next_26  (r0 : zt_S → Option (Unit × zt_S))  (σ : zt_S) : Option (Unit × zt_S) :=
  zt_let (zt_up σ 163 11 ((σ.1 163 11) + (1 : Int))) fun s3 =>
  r0 s3
def F_M_next_125    (σ : zt_S) : Option (Unit × zt_S) :=
  some ((), σ)
def F_M_next_39    (σ : zt_S) : Option (Unit × zt_S) :=
  zt_let (zt_up σ 163 12 (σ.1 163 11)) fun s6 =>
  zt_ck (zt_in (s6.1 163 11) ∧ zt_in (s6.1 163 10)) <| if (s6.1 163 11) < (s6.1 163 10) then
    zt_ck (0 ≤ (s6.1 163 11) ∧ (s6.1 163 11) < ((500 : Nat) : Int)) <| zt_bd (F_M_isLetter (s6.1 169 (s6.1 163 11)) s6) fun a7 s8 =>
    zt_ck (zt_in a7) <| if a7 = (0 : Int) then
      zt_ck (0 ≤ (s8.1 163 11) ∧ (s8.1 163 11) < ((500 : Nat) : Int)) <| zt_bd (F_M_isFigure (s8.1 169 (s8.1 163 11)) s8) fun a9 s10 =>
      zt_ck (zt_in a9) <| if a9 = (0 : Int) then
        zt_let (zt_up s10 163 13 (3 : Int)) fun s11 =>
        zt_let (zt_up s11 163 11 ((s11.1 163 11) + (1 : Int))) fun s12 =>
        F_M_next_125 s12
      else
        zt_bd (F_M_readsNumber s10) fun _ s14 =>
        F_M_next_125 s14
    else
      zt_bd (F_M_readsWord s8) fun _ s16 =>
      F_M_next_125 s16
  else
    zt_let (zt_up s6 163 13 (0 : Int)) fun s17 =>
    F_M_next_125 s17
def F_M_next_0   : Nat → zt_S → Option (Unit × zt_S)
  | 0, _ => none
  | n + 1, σ =>
  zt_bd (F_M_byteAt (σ.1 163 11) σ) fun a1 s2 =>
  zt_ck (zt_in a1) <| if a1 = (32 : Int) then
    F_M_next_26 (F_M_next_0 n) s2
  else
    zt_bd (F_M_byteAt (s2.1 163 11) s2) fun a4 s5 =>
    zt_ck (zt_in a4) <| if a4 = (10 : Int) then
      F_M_next_26 (F_M_next_0 n) s5
    else
      F_M_next_39 s5
def F_M_next   (σ : zt_S) : Option (Unit × zt_S) :=
  F_M_next_0 zt_N σ
def F_M_starts  (v1 : Int) (σ : zt_S) : Option (Unit × zt_S) :=
  zt_let (zt_up σ 163 10 v1) fun s1 =>
  zt_let (zt_up s1 163 9 (0 : Int)) fun s2 =>
  zt_let (zt_up s2 163 11 (0 : Int)) fun s3 =>
  zt_let (zt_up s3 163 16 (0 : Int)) fun s4 =>
  zt_let (zt_up s4 163 17 (-1 : Int)) fun s5 =>
  zt_bd (F_M_next s5) fun _ s7 =>
  some ((), s7)
def F_M_wrongs_20    (σ : zt_S) : Option (Int × zt_S) :=
  some ((0 : Int), σ)
def F_M_wrongs  (v1 : Int) (σ : zt_S) : Option (Int × zt_S) :=
  zt_ck (zt_in (σ.1 163 16)) <| if (σ.1 163 16) = (0 : Int) then
    zt_let (zt_up σ 163 16 v1) fun s1 =>
    zt_let (zt_up s1 163 17 (s1.1 163 12)) fun s2 =>
    F_M_wrongs_20 s2
  else
    F_M_wrongs_20 σ
def F_M_isGood_12   (x0 : Int) (σ : zt_S) : Option (Int × zt_S) :=
  zt_ck (x0 = 0 ∨ x0 = 1) <| some (x0, σ)
def F_M_isGood   (σ : zt_S) : Option (Int × zt_S) :=
  zt_ck (zt_in (σ.1 163 16)) <| if (σ.1 163 16) = (0 : Int) then
    F_M_isGood_12 (1 : Int) σ
  else
    F_M_isGood_12 (0 : Int) σ
def F_M_isWord_43   (x0 : Int) (σ : zt_S) : Option (Int × zt_S) :=
  zt_ck (x0 = 0 ∨ x0 = 1) <| some (x0, σ)
def F_M_isWord_42    (σ : zt_S) : Option (Int × zt_S) :=
  F_M_isWord_43 (0 : Int) σ
def F_M_isWord  (v1 : Int64) (σ : zt_S) : Option (Int × zt_S) :=
  zt_bd (F_M_isGood σ) fun a1 s2 =>
  zt_ck (zt_in a1) <| if a1 = (0 : Int) then
    F_M_isWord_42 s2
  else
    zt_ck (zt_in (s2.1 163 13)) <| if (s2.1 163 13) = (1 : Int) then
      zt_ck (zt_in ((s2.1 163 11) - (s2.1 163 12))) <| if (10 : Int) < ((s2.1 163 11) - (s2.1 163 12)) then
        F_M_isWord_42 s2
      else
        if (zt_lc (s2.2.1 163 15) v1) = (0 : Int) then
          F_M_isWord_43 (1 : Int) s2
        else
          F_M_isWord_42 s2
    else
      F_M_isWord_42 s2
def F_M_passes  (v1 : Int64) (σ : zt_S) : Option (Int × zt_S) :=
  zt_bd (F_M_isWord v1 σ) fun a1 s2 =>
  zt_ck (zt_in a1) <| if a1 = (0 : Int) then
    some ((0 : Int), s2)
  else
    zt_bd (F_M_next s2) fun _ s4 =>
    some ((1 : Int), s4)
def F_M_isByte_33   (x0 : Int) (σ : zt_S) : Option (Int × zt_S) :=
  zt_ck (x0 = 0 ∨ x0 = 1) <| some (x0, σ)
def F_M_isByte_32    (σ : zt_S) : Option (Int × zt_S) :=
  F_M_isByte_33 (0 : Int) σ
def F_M_isByte  (v1 : Int) (σ : zt_S) : Option (Int × zt_S) :=
  zt_bd (F_M_isGood σ) fun a1 s2 =>
  zt_ck (zt_in a1) <| if a1 = (0 : Int) then
    F_M_isByte_32 s2
  else
    zt_ck (zt_in (s2.1 163 13)) <| if (s2.1 163 13) = (3 : Int) then
      zt_ck (0 ≤ (s2.1 163 12) ∧ (s2.1 163 12) < ((500 : Nat) : Int)) <| zt_ck (zt_in (s2.1 169 (s2.1 163 12)) ∧ zt_in v1) <| if (s2.1 169 (s2.1 163 12)) = v1 then
        F_M_isByte_33 (1 : Int) s2
      else
        F_M_isByte_32 s2
    else
      F_M_isByte_32 s2
def F_M_must_29    (σ : zt_S) : Option (Unit × zt_S) :=
  some ((), σ)
def F_M_must  (v1 : Int) (σ : zt_S) : Option (Unit × zt_S) :=
  zt_bd (F_M_isGood σ) fun a1 s2 =>
  zt_ck (zt_in a1) <| if a1 = (0 : Int) then
    some ((), s2)
  else
    zt_bd (F_M_isByte v1 s2) fun a3 s4 =>
    zt_ck (zt_in a3) <| if a3 = (0 : Int) then
      zt_bd (F_M_wrongs (1 : Int) s4) fun a5 s6 =>
      F_M_must_29 s6
    else
      zt_bd (F_M_next s4) fun _ s8 =>
      F_M_must_29 s8
def F_M_number_47   (v1 : Int) (σ : zt_S) : Option (Int × zt_S) :=
  zt_bd (F_M_isGood σ) fun a7 s8 =>
  zt_ck (zt_in a7) <| if a7 = (0 : Int) then
    some (v1, s8)
  else
    zt_bd (F_M_next s8) fun _ s10 =>
    some ((s8.1 163 14), s10)
def F_M_number  (v1 : Int) (v2 : Int) (σ : zt_S) : Option (Int × zt_S) :=
  zt_bd (F_M_isGood σ) fun a1 s2 =>
  zt_ck (zt_in a1) <| if a1 = (0 : Int) then
    some (v1, s2)
  else
    zt_ck (zt_in (s2.1 163 13)) <| if (s2.1 163 13) = (2 : Int) then
      zt_bd (F_M_in (zt_l (s2.1 163 14)) (zt_l v1) (zt_l v2) s2) fun a3 s4 =>
      zt_ck (zt_in a3) <| if a3 = (0 : Int) then
        zt_bd (F_M_wrongs (2 : Int) s4) fun a5 s6 =>
        F_M_number_47 v1 s6
      else
        F_M_number_47 v1 s4
    else
      zt_bd (F_M_wrongs (1 : Int) s2) fun a11 s12 =>
      F_M_number_47 v1 s12
def F_M_heldBy_29 (c1 : Nat) (n1 : Nat) (r5 : Int → Int → Int → zt_S → Option (Int × zt_S)) (v2 : Int) (v4 : Int) (x0 : Int) (x1 : Int) (σ : zt_S) : Option (Int × zt_S) :=
  r5 v2 (x1 + x0) (v4 + (1 : Int)) σ
def F_M_heldBy_5 (c1 : Nat) (n1 : Nat)  : Nat → Int → Int → Int → zt_S → Option (Int × zt_S)
  | 0, _, _, _, _ => none
  | n + 1, v2, v3, v4, σ =>
  zt_ck (zt_in v4) <| if v4 < (52 : Int) then
    zt_ck (0 ≤ ((40 : Int) + v4) ∧ ((40 : Int) + v4) < ((n1 : Nat) : Int)) <| zt_ck (zt_in (σ.1 c1 ((40 : Int) + v4)) ∧ zt_in v2) <| if (σ.1 c1 ((40 : Int) + v4)) = v2 then
      F_M_heldBy_29 c1 n1 (F_M_heldBy_5 c1 n1 n) v2 v4 (1 : Int) v3 σ
    else
      F_M_heldBy_29 c1 n1 (F_M_heldBy_5 c1 n1 n) v2 v4 (0 : Int) v3 σ
  else
    some (v3, σ)
def F_M_heldBy (c1 : Nat) (n1 : Nat) (v2 : Int) (σ : zt_S) : Option (Int × zt_S) :=
  F_M_heldBy_5 c1 n1 zt_N v2 (0 : Int) (0 : Int) σ
def F_M_readsHand_111  (r14 : Int → zt_S → Option (Unit × zt_S)) (v1 : Int) (σ : zt_S) : Option (Unit × zt_S) :=
  zt_bd (F_M_isGood σ) fun a9 s10 =>
  zt_ck (zt_in a9) <| if a9 = (0 : Int) then
    some ((), s10)
  else
    zt_ck (0 ≤ ((40 : Int) + (s10.1 163 14)) ∧ ((40 : Int) + (s10.1 163 14)) < ((274 : Nat) : Int)) <| zt_let (zt_up s10 165 ((40 : Int) + (s10.1 163 14)) v1) fun s11 =>
    zt_bd (F_M_next s11) fun _ s13 =>
    zt_ck (zt_in (s13.1 163 13)) <| if (s13.1 163 13) = (2 : Int) then
      r14 v1 s13
    else
      some ((), s13)
def F_M_readsHand_105  (r14 : Int → zt_S → Option (Unit × zt_S)) (v1 : Int) (σ : zt_S) : Option (Unit × zt_S) :=
  zt_bd (F_M_wrongs (3 : Int) σ) fun a16 s17 =>
  F_M_readsHand_111 r14 v1 s17
def F_M_readsHand_14   : Nat → Int → zt_S → Option (Unit × zt_S)
  | 0, _, _ => none
  | n + 1, v1, σ =>
  zt_bd (F_M_isGood σ) fun a3 s4 =>
  zt_ck (zt_in a3) <| if a3 = (0 : Int) then
    some ((), s4)
  else
    zt_ck (zt_in (s4.1 163 13)) <| if (s4.1 163 13) = (2 : Int) then
      zt_bd (F_M_in (zt_l (s4.1 163 14)) (0 : Int64) (zt_l (((4 : Int) * (s4.1 165 (0 : Int))) - (1 : Int))) s4) fun a5 s6 =>
      zt_ck (zt_in a5) <| if a5 = (0 : Int) then
        zt_bd (F_M_wrongs (2 : Int) s6) fun a7 s8 =>
        F_M_readsHand_111 (F_M_readsHand_14 n) v1 s8
      else
        zt_ck (0 ≤ ((40 : Int) + (s6.1 163 14)) ∧ ((40 : Int) + (s6.1 163 14)) < ((274 : Nat) : Int)) <| zt_ck (zt_in (s6.1 165 ((40 : Int) + (s6.1 163 14)))) <| if (s6.1 165 ((40 : Int) + (s6.1 163 14))) = (-1 : Int) then
          zt_bd (F_M_heldBy 165 274 v1 s6) fun a14 s15 =>
          zt_ck (zt_in a14 ∧ zt_in (s15.1 165 (2 : Int))) <| if a14 = (s15.1 165 (2 : Int)) then
            F_M_readsHand_105 (F_M_readsHand_14 n) v1 s15
          else
            F_M_readsHand_111 (F_M_readsHand_14 n) v1 s15
        else
          F_M_readsHand_105 (F_M_readsHand_14 n) v1 s6
    else
      zt_bd (F_M_wrongs (1 : Int) s4) fun a18 s19 =>
      F_M_readsHand_111 (F_M_readsHand_14 n) v1 s19
def F_M_readsHand   (σ : zt_S) : Option (Unit × zt_S) :=
  zt_bd (F_M_number (0 : Int) ((σ.1 165 (1 : Int)) - (1 : Int)) σ) fun a1 s2 =>
  F_M_readsHand_14 zt_N a1 s2
def F_M_readsTell_123    (σ : zt_S) : Option (Unit × zt_S) :=
  some ((), σ)
def F_M_readsTell_77    (σ : zt_S) : Option (Unit × zt_S) :=
  zt_bd (F_M_isGood σ) fun a7 s8 =>
  zt_ck (zt_in a7) <| if a7 = (0 : Int) then
    some ((), s8)
  else
    zt_bd (F_M_next s8) fun _ s10 =>
    zt_bd (F_M_number (0 : Int) (s10.1 165 (2 : Int)) s10) fun a11 s12 =>
    zt_bd (F_M_isGood s12) fun a13 s14 =>
    zt_ck (zt_in a13) <| if a13 = (0 : Int) then
      F_M_readsTell_123 s14
    else
      zt_ck (0 ≤ ((16 : Int) + (s8.1 163 14)) ∧ ((16 : Int) + (s8.1 163 14)) < ((274 : Nat) : Int)) <| zt_let (zt_up s14 165 ((16 : Int) + (s8.1 163 14)) a11) fun s15 =>
      F_M_readsTell_123 s15
def F_M_readsTell   (σ : zt_S) : Option (Unit × zt_S) :=
  zt_bd (F_M_isGood σ) fun a1 s2 =>
  zt_ck (zt_in a1) <| if a1 = (0 : Int) then
    some ((), s2)
  else
    zt_ck (zt_in (s2.1 163 13)) <| if (s2.1 163 13) = (2 : Int) then
      zt_bd (F_M_in (zt_l (s2.1 163 14)) (0 : Int64) (zt_l ((s2.1 165 (1 : Int)) - (1 : Int))) s2) fun a3 s4 =>
      zt_ck (zt_in a3) <| if a3 = (0 : Int) then
        zt_bd (F_M_wrongs (2 : Int) s4) fun a5 s6 =>
        F_M_readsTell_77 s6
      else
        zt_ck (0 ≤ ((16 : Int) + (s4.1 163 14)) ∧ ((16 : Int) + (s4.1 163 14)) < ((274 : Nat) : Int)) <| zt_ck (zt_in (s4.1 165 ((16 : Int) + (s4.1 163 14)))) <| if (s4.1 165 ((16 : Int) + (s4.1 163 14))) = (-1 : Int) then
          F_M_readsTell_77 s4
        else
          zt_bd (F_M_wrongs (3 : Int) s4) fun a16 s17 =>
          F_M_readsTell_77 s17
    else
      zt_bd (F_M_wrongs (1 : Int) s2) fun a18 s19 =>
      F_M_readsTell_77 s19
def F_M_readsTrump_77    (σ : zt_S) : Option (Unit × zt_S) :=
  some ((), σ)
def F_M_readsTrump_59    (σ : zt_S) : Option (Unit × zt_S) :=
  zt_bd (F_M_passes (261377717 : Int64) σ) fun a8 s9 =>
  zt_ck (zt_in a8) <| if a8 = (0 : Int) then
    F_M_readsTrump_77 s9
  else
    zt_let (zt_up s9 165 (7 : Int) (1 : Int)) fun s10 =>
    F_M_readsTrump_77 s10
def F_M_readsTrump_35    (σ : zt_S) : Option (Unit × zt_S) :=
  zt_bd (F_M_passes (118940 : Int64) σ) fun a6 s7 =>
  zt_ck (zt_in a6) <| if a6 = (0 : Int) then
    F_M_readsTrump_59 s7
  else
    zt_bd (F_M_number (0 : Int) (9 : Int) s7) fun a11 s12 =>
    zt_let (zt_up s12 165 (6 : Int) a11) fun s13 =>
    F_M_readsTrump_59 s13
def F_M_readsTrump   (σ : zt_S) : Option (Unit × zt_S) :=
  zt_bd (F_M_number (0 : Int) (3 : Int) σ) fun a1 s2 =>
  zt_let (zt_up s2 165 (4 : Int) a1) fun s3 =>
  zt_bd (F_M_passes (146957 : Int64) s3) fun a4 s5 =>
  zt_ck (zt_in a4) <| if a4 = (0 : Int) then
    F_M_readsTrump_35 s5
  else
    zt_bd (F_M_number (0 : Int) (30 : Int) s5) fun a14 s15 =>
    zt_let (zt_up s15 165 (5 : Int) a14) fun s16 =>
    F_M_readsTrump_35 s16
def F_M_readsHead_140    (σ : zt_S) : Option (Unit × zt_S) :=
  zt_bd (F_M_must (59 : Int) σ) fun _ s24 =>
  zt_let (zt_up s24 165 (9 : Int) (s24.1 165 (8 : Int))) fun s25 =>
  zt_bd (F_M_lights 165 274 s25) fun _ s27 =>
  some ((), s27)
def F_M_readsHead_116    (σ : zt_S) : Option (Unit × zt_S) :=
  zt_bd (F_M_passes (377761 : Int64) σ) fun a21 s22 =>
  zt_ck (zt_in a21) <| if a21 = (0 : Int) then
    F_M_readsHead_140 s22
  else
    zt_bd (F_M_number (0 : Int) (99999 : Int) s22) fun a28 s29 =>
    zt_let (zt_up s29 165 (15 : Int) a28) fun s30 =>
    F_M_readsHead_140 s30
def F_M_readsHead_91   (v2 : Int) (σ : zt_S) : Option (Unit × zt_S) :=
  zt_bd (F_M_passes (239872 : Int64) σ) fun a19 s20 =>
  zt_ck (zt_in a19) <| if a19 = (0 : Int) then
    F_M_readsHead_116 s20
  else
    zt_bd (F_M_number (0 : Int) (v2 - (1 : Int)) s20) fun a31 s32 =>
    zt_let (zt_up s32 165 (8 : Int) a31) fun s33 =>
    F_M_readsHead_116 s33
def F_M_readsHead_77   (v2 : Int) (σ : zt_S) : Option (Unit × zt_S) :=
  zt_bd (F_M_passes (10998790 : Int64) σ) fun a17 s18 =>
  zt_ck (zt_in a17) <| if a17 = (0 : Int) then
    F_M_readsHead_91 v2 s18
  else
    zt_bd (F_M_readsTrump s18) fun _ s35 =>
    F_M_readsHead_91 v2 s35
def F_M_readsHead   (σ : zt_S) : Option (Unit × zt_S) :=
  zt_bd (F_M_passes (48686 : Int64) σ) fun a1 s2 =>
  zt_ck (zt_in a1) <| if a1 = (0 : Int) then
    zt_bd (F_M_wrongs (1 : Int) s2) fun a3 s4 =>
    some ((), s4)
  else
    zt_bd (F_M_number (4 : Int) (13 : Int) s2) fun a5 s6 =>
    zt_bd (F_M_number (2 : Int) (4 : Int) s6) fun a7 s8 =>
    zt_ck ((0 ≤ ((4 : Int) * a5) ∧ ((4 : Int) * a5) < 2147483648) ∧ (0 < a7 ∧ a7 < 2147483648)) <| zt_bd (F_M_lesser (13 : Int) (((4 : Int) * a5) / a7) s8) fun a9 s10 =>
    zt_bd (F_M_number (1 : Int) a9 s10) fun a11 s12 =>
    zt_bd (F_M_begins a5 a7 a11 s12) fun _ s14 =>
    zt_bd (F_M_passes (369932 : Int64) s14) fun a15 s16 =>
    zt_ck (zt_in a15) <| if a15 = (0 : Int) then
      F_M_readsHead_77 a7 s16
    else
      zt_bd (F_M_number (0 : Int) (3 : Int) s16) fun a36 s37 =>
      zt_let (zt_up s37 165 (3 : Int) a36) fun s38 =>
      F_M_readsHead_77 a7 s38
def F_M_completes_90  (r23 : Int → Int → zt_S → Option (Unit × zt_S)) (r50 : Int → Int → Int → zt_S → Option (Unit × zt_S)) (v1 : Int) (v2 : Int) (v3 : Int) (σ : zt_S) : Option (Unit × zt_S) :=
  r50 (v1 + (1 : Int)) v2 v3 σ
def F_M_completes_50  (r23 : Int → Int → zt_S → Option (Unit × zt_S)) : Nat → Int → Int → Int → zt_S → Option (Unit × zt_S)
  | 0, _, _, _, _ => none
  | n + 1, v1, v2, v3, σ =>
  zt_ck (zt_in v3) <| if (0 : Int) < v3 then
    zt_ck (0 ≤ v1 ∧ v1 < ((52 : Nat) : Int)) <| zt_ck (0 ≤ ((40 : Int) + (σ.1 168 v1)) ∧ ((40 : Int) + (σ.1 168 v1)) < ((274 : Nat) : Int)) <| zt_ck (zt_in (σ.1 165 ((40 : Int) + (σ.1 168 v1)))) <| if (σ.1 165 ((40 : Int) + (σ.1 168 v1))) = (-1 : Int) then
      zt_ck (0 ≤ v1 ∧ v1 < ((52 : Nat) : Int)) <| zt_ck (0 ≤ ((40 : Int) + (σ.1 168 v1)) ∧ ((40 : Int) + (σ.1 168 v1)) < ((274 : Nat) : Int)) <| zt_let (zt_up σ 165 ((40 : Int) + (σ.1 168 v1)) v2) fun s5 =>
      F_M_completes_90 r23 (F_M_completes_50 r23 n) v1 v2 (v3 + (-1 : Int)) s5
    else
      F_M_completes_90 r23 (F_M_completes_50 r23 n) v1 v2 v3 σ
  else
    r23 v1 (v2 + (1 : Int)) σ
def F_M_completes_23   : Nat → Int → Int → zt_S → Option (Unit × zt_S)
  | 0, _, _, _ => none
  | n + 1, v1, v2, σ =>
  zt_ck (zt_in v2 ∧ zt_in (σ.1 165 (1 : Int))) <| if v2 < (σ.1 165 (1 : Int)) then
    zt_bd (F_M_heldBy 165 274 v2 σ) fun a3 s4 =>
    F_M_completes_50 (F_M_completes_23 n) zt_N v1 v2 ((σ.1 165 (2 : Int)) - a3) s4
  else
    some ((), σ)
def F_M_completes   (σ : zt_S) : Option (Unit × zt_S) :=
  zt_bd (F_M_piles ((4 : Int) * (σ.1 165 (0 : Int))) (σ.1 165 (15 : Int)) σ) fun _ s2 =>
  F_M_completes_23 zt_N (0 : Int) (0 : Int) s2
def F_M_readsAll_105    (σ : zt_S) : Option (Unit × zt_S) :=
  some ((), σ)
def F_M_readsAll_71   (v1 : Int) (σ : zt_S) : Option (Unit × zt_S) :=
  zt_bd (F_M_isGood σ) fun a5 s6 =>
  zt_ck (zt_in a5) <| if a5 = (0 : Int) then
    some ((), s6)
  else
    zt_ck (zt_in v1) <| if v1 = (0 : Int) then
      zt_bd (F_M_deals 165 274 (s6.1 165 (15 : Int)) s6) fun _ s8 =>
      F_M_readsAll_105 s8
    else
      zt_bd (F_M_completes s6) fun _ s10 =>
      F_M_readsAll_105 s10
def F_M_readsAll_62  (r6 : Int → zt_S → Option (Unit × zt_S)) (v1 : Int) (σ : zt_S) : Option (Unit × zt_S) :=
  zt_bd (F_M_must (59 : Int) σ) fun _ s18 =>
  r6 v1 s18
def F_M_readsAll_6   : Nat → Int → zt_S → Option (Unit × zt_S)
  | 0, _, _ => none
  | n + 1, v1, σ =>
  zt_bd (F_M_isGood σ) fun a3 s4 =>
  zt_ck (zt_in a3) <| if a3 = (0 : Int) then
    F_M_readsAll_71 v1 s4
  else
    zt_ck (zt_in (s4.1 163 13)) <| if (s4.1 163 13) = (0 : Int) then
      F_M_readsAll_71 v1 s4
    else
      zt_bd (F_M_passes (158575 : Int64) s4) fun a11 s12 =>
      zt_ck (zt_in a11) <| if a11 = (0 : Int) then
        zt_bd (F_M_passes (397641 : Int64) s12) fun a13 s14 =>
        zt_ck (zt_in a13) <| if a13 = (0 : Int) then
          zt_bd (F_M_wrongs (1 : Int) s14) fun a15 s16 =>
          F_M_readsAll_62 (F_M_readsAll_6 n) v1 s16
        else
          zt_bd (F_M_readsTell s14) fun _ s20 =>
          F_M_readsAll_62 (F_M_readsAll_6 n) v1 s20
      else
        zt_bd (F_M_readsHand s12) fun _ s22 =>
        F_M_readsAll_62 (F_M_readsAll_6 n) (1 : Int) s22
def F_M_readsAll   (σ : zt_S) : Option (Unit × zt_S) :=
  zt_bd (F_M_readsHead σ) fun _ s2 =>
  F_M_readsAll_6 zt_N (0 : Int) s2
def F_M_load  (v1 : Int) (σ : zt_S) : Option (Int × zt_S) :=
  zt_let (zt_up σ 163 0 (0 : Int)) fun s1 =>
  zt_bd (F_M_in (zt_l v1) (0 : Int64) (zt_l (s1.1 163 9)) s1) fun a2 s3 =>
  zt_bd (F_M_fails a2 (1 : Int) s3) fun a4 s5 =>
  zt_ck (zt_in a4) <| if a4 = (0 : Int) then
    zt_bd (F_M_starts v1 s5) fun _ s7 =>
    zt_bd (F_M_readsAll s7) fun _ s9 =>
    zt_bd (F_M_isGood s9) fun a10 s11 =>
    zt_ck (zt_in a10) <| if a10 = (0 : Int) then
      some (((-10 : Int) - (s11.1 163 16)), s11)
    else
      zt_bd (F_M_copies 165 274 164 274 (0 : Int) (0 : Int) s11) fun _ s13 =>
      zt_let (zt_up s13 163 5 (0 : Int)) fun s14 =>
      zt_let (zt_up s14 163 6 (0 : Int)) fun s15 =>
      some (((s15.1 164 (1 : Int)) * (s15.1 164 (2 : Int))), s15)
  else
    some ((0 : Int), s5)
def F_M_cards   (σ : zt_S) : Option (Int × zt_S) :=
  some (((4 : Int) * (σ.1 164 (0 : Int))), σ)
def F_M_isCard  (v1 : Int) (σ : zt_S) : Option (Int × zt_S) :=
  zt_bd (F_M_cards σ) fun a1 s2 =>
  zt_bd (F_M_in (zt_l v1) (0 : Int64) (zt_l (a1 - (1 : Int))) s2) fun a3 s4 =>
  zt_ck (a3 = 0 ∨ a3 = 1) <| some (a3, s4)
def F_M_suitOf  (v1 : Int) (σ : zt_S) : Option (Int × zt_S) :=
  zt_ck ((0 ≤ v1 ∧ v1 < 2147483648) ∧ (0 < (σ.1 164 (0 : Int)) ∧ (σ.1 164 (0 : Int)) < 2147483648)) <| some ((v1 / (σ.1 164 (0 : Int))), σ)
def F_M_rankOf  (v1 : Int) (σ : zt_S) : Option (Int × zt_S) :=
  zt_ck ((0 ≤ v1 ∧ v1 < 2147483648) ∧ (0 < (σ.1 164 (0 : Int)) ∧ (σ.1 164 (0 : Int)) < 2147483648)) <| some (((v1 % (σ.1 164 (0 : Int))) + (1 : Int)), σ)
def F_M_isOver_28   (x0 : Int) (σ : zt_S) : Option (Int × zt_S) :=
  zt_ck (x0 = 0 ∨ x0 = 1) <| some (x0, σ)
def F_M_isOver   (σ : zt_S) : Option (Int × zt_S) :=
  zt_ck (zt_in (σ.1 164 (12 : Int)) ∧ zt_in ((σ.1 164 (1 : Int)) * (σ.1 164 (2 : Int)))) <| if (σ.1 164 (12 : Int)) = ((σ.1 164 (1 : Int)) * (σ.1 164 (2 : Int))) then
    F_M_isOver_28 (1 : Int) σ
  else
    F_M_isOver_28 (0 : Int) σ
def F_M_inTrick   (σ : zt_S) : Option (Int × zt_S) :=
  some (((σ.1 164 (12 : Int)) - ((σ.1 164 (13 : Int)) * (σ.1 164 (1 : Int)))), σ)
def F_M_cardInTrick  (v1 : Int) (σ : zt_S) : Option (Int × zt_S) :=
  zt_ck (0 ≤ (((92 : Int) + ((σ.1 164 (13 : Int)) * (σ.1 164 (1 : Int)))) + v1) ∧ (((92 : Int) + ((σ.1 164 (13 : Int)) * (σ.1 164 (1 : Int)))) + v1) < ((274 : Nat) : Int)) <| some ((σ.1 164 (((92 : Int) + ((σ.1 164 (13 : Int)) * (σ.1 164 (1 : Int)))) + v1)), σ)
def F_M_turn_30   (x0 : Int) (σ : zt_S) : Option (Int × zt_S) :=
  some (x0, σ)
def F_M_turn   (σ : zt_S) : Option (Int × zt_S) :=
  zt_bd (F_M_isOver σ) fun a1 s2 =>
  zt_ck (zt_in a1) <| if a1 = (0 : Int) then
    zt_bd (F_M_inTrick s2) fun a3 s4 =>
    zt_ck ((0 ≤ ((s2.1 164 (9 : Int)) + a3) ∧ ((s2.1 164 (9 : Int)) + a3) < 2147483648) ∧ (0 < (s4.1 164 (1 : Int)) ∧ (s4.1 164 (1 : Int)) < 2147483648)) <| F_M_turn_30 (((s2.1 164 (9 : Int)) + a3) % (s4.1 164 (1 : Int))) s4
  else
    F_M_turn_30 (-1 : Int) s2
def F_M_ledSuit_20   (x0 : Int) (σ : zt_S) : Option (Int × zt_S) :=
  some (x0, σ)
def F_M_ledSuit   (σ : zt_S) : Option (Int × zt_S) :=
  zt_bd (F_M_inTrick σ) fun a1 s2 =>
  zt_ck (zt_in a1) <| if a1 = (0 : Int) then
    F_M_ledSuit_20 (-1 : Int) s2
  else
    zt_bd (F_M_cardInTrick (0 : Int) s2) fun a3 s4 =>
    zt_bd (F_M_suitOf a3 s4) fun a5 s6 =>
    F_M_ledSuit_20 a5 s6
def F_M_powerWith_47   (x0 : Int) (σ : zt_S) : Option (Int × zt_S) :=
  some (x0, σ)
def F_M_powerWith  (v1 : Int) (v2 : Int) (σ : zt_S) : Option (Int × zt_S) :=
  zt_bd (F_M_suitOf v1 σ) fun a1 s2 =>
  zt_ck (zt_in a1 ∧ zt_in (s2.1 164 (10 : Int))) <| if a1 = (s2.1 164 (10 : Int)) then
    zt_bd (F_M_rankOf v1 s2) fun a3 s4 =>
    F_M_powerWith_47 (a3 + (s4.1 164 (11 : Int))) s4
  else
    zt_ck (zt_in a1 ∧ zt_in v2) <| if a1 = v2 then
      zt_bd (F_M_rankOf v1 s2) fun a5 s6 =>
      F_M_powerWith_47 a5 s6
    else
      F_M_powerWith_47 (0 : Int) s2
def F_M_powerNow_21   (x0 : Int) (x1 : Int) (σ : zt_S) : Option (Int × zt_S) :=
  zt_bd (F_M_powerWith x1 x0 σ) fun a5 s6 =>
  some (a5, s6)
def F_M_powerNow  (v1 : Int) (σ : zt_S) : Option (Int × zt_S) :=
  zt_bd (F_M_inTrick σ) fun a1 s2 =>
  zt_ck (zt_in a1) <| if a1 = (0 : Int) then
    zt_bd (F_M_suitOf v1 s2) fun a3 s4 =>
    F_M_powerNow_21 a3 v1 s4
  else
    zt_bd (F_M_ledSuit s2) fun a7 s8 =>
    F_M_powerNow_21 a7 v1 s8
def F_M_bestPlace_40  (r4 : Int → Int → zt_S → Option (Int × zt_S)) (v1 : Int) (v2 : Int) (σ : zt_S) : Option (Int × zt_S) :=
  r4 v1 (v2 + (1 : Int)) σ
def F_M_bestPlace_38  (r4 : Int → Int → zt_S → Option (Int × zt_S)) (v2 : Int) (σ : zt_S) : Option (Int × zt_S) :=
  F_M_bestPlace_40 r4 v2 v2 σ
def F_M_bestPlace_4   : Nat → Int → Int → zt_S → Option (Int × zt_S)
  | 0, _, _, _ => none
  | n + 1, v1, v2, σ =>
  zt_bd (F_M_inTrick σ) fun a1 s2 =>
  zt_ck (zt_in v2 ∧ zt_in a1) <| if v2 < a1 then
    zt_ck (zt_in v1) <| if v1 = (-1 : Int) then
      F_M_bestPlace_38 (F_M_bestPlace_4 n) v2 s2
    else
      zt_bd (F_M_cardInTrick v2 s2) fun a3 s4 =>
      zt_bd (F_M_powerNow a3 s4) fun a5 s6 =>
      zt_bd (F_M_cardInTrick v1 s6) fun a7 s8 =>
      zt_bd (F_M_powerNow a7 s8) fun a9 s10 =>
      zt_ck (zt_in a5 ∧ zt_in a9) <| if a9 < a5 then
        F_M_bestPlace_38 (F_M_bestPlace_4 n) v2 s10
      else
        F_M_bestPlace_40 (F_M_bestPlace_4 n) v1 v2 s10
  else
    some (v1, s2)
def F_M_bestPlace   (σ : zt_S) : Option (Int × zt_S) :=
  F_M_bestPlace_4 zt_N (-1 : Int) (0 : Int) σ
def F_M_isBetter_32   (x0 : Int) (σ : zt_S) : Option (Int × zt_S) :=
  zt_ck (x0 = 0 ∨ x0 = 1) <| some (x0, σ)
def F_M_isBetter_27    (σ : zt_S) : Option (Int × zt_S) :=
  F_M_isBetter_32 (1 : Int) σ
def F_M_isBetter  (v1 : Int) (σ : zt_S) : Option (Int × zt_S) :=
  zt_bd (F_M_inTrick σ) fun a1 s2 =>
  zt_ck (zt_in a1) <| if a1 = (0 : Int) then
    F_M_isBetter_27 s2
  else
    zt_bd (F_M_powerNow v1 s2) fun a3 s4 =>
    zt_bd (F_M_bestPlace s4) fun a5 s6 =>
    zt_bd (F_M_cardInTrick a5 s6) fun a7 s8 =>
    zt_bd (F_M_powerNow a7 s8) fun a9 s10 =>
    zt_ck (zt_in a3 ∧ zt_in a9) <| if a9 < a3 then
      F_M_isBetter_27 s10
    else
      F_M_isBetter_32 (0 : Int) s10
def F_M_holderOf  (v1 : Int) (σ : zt_S) : Option (Int × zt_S) :=
  zt_ck (0 ≤ ((40 : Int) + v1) ∧ ((40 : Int) + v1) < ((274 : Nat) : Int)) <| some ((σ.1 164 ((40 : Int) + v1)), σ)
def F_M_suitOfPlayer_43  (r12 : Int → Int → Int → Int → zt_S → Option (Int × zt_S)) (v1 : Int) (v2 : Int) (v4 : Int) (x0 : Int) (x1 : Int) (σ : zt_S) : Option (Int × zt_S) :=
  r12 v1 v2 (x1 + x0) (v4 + (1 : Int)) σ
def F_M_suitOfPlayer_12   : Nat → Int → Int → Int → Int → zt_S → Option (Int × zt_S)
  | 0, _, _, _, _, _ => none
  | n + 1, v1, v2, v3, v4, σ =>
  zt_ck (zt_in v4 ∧ zt_in ((v2 + (1 : Int)) * (σ.1 164 (0 : Int)))) <| if v4 < ((v2 + (1 : Int)) * (σ.1 164 (0 : Int))) then
    zt_bd (F_M_holderOf v4 σ) fun a1 s2 =>
    zt_ck (zt_in a1 ∧ zt_in v1) <| if a1 = v1 then
      F_M_suitOfPlayer_43 (F_M_suitOfPlayer_12 n) v1 v2 v4 (1 : Int) v3 s2
    else
      F_M_suitOfPlayer_43 (F_M_suitOfPlayer_12 n) v1 v2 v4 (0 : Int) v3 s2
  else
    some (v3, σ)
def F_M_suitOfPlayer  (v1 : Int) (v2 : Int) (σ : zt_S) : Option (Int × zt_S) :=
  F_M_suitOfPlayer_12 zt_N v1 v2 (0 : Int) (v2 * (σ.1 164 (0 : Int))) σ
def F_M_hasBetter_42  (r9 : Int → Int → Int → zt_S → Option (Int × zt_S)) (v1 : Int) (v2 : Int) (v3 : Int) (σ : zt_S) : Option (Int × zt_S) :=
  r9 v1 v2 (v3 + (1 : Int)) σ
def F_M_hasBetter_9   : Nat → Int → Int → Int → zt_S → Option (Int × zt_S)
  | 0, _, _, _, _ => none
  | n + 1, v1, v2, v3, σ =>
  zt_ck (zt_in v3 ∧ zt_in ((v2 + (1 : Int)) * (σ.1 164 (0 : Int)))) <| if v3 < ((v2 + (1 : Int)) * (σ.1 164 (0 : Int))) then
    zt_bd (F_M_holderOf v3 σ) fun a1 s2 =>
    zt_ck (zt_in a1 ∧ zt_in v1) <| if a1 = v1 then
      zt_bd (F_M_isBetter v3 s2) fun a3 s4 =>
      zt_ck (zt_in a3) <| if a3 = (0 : Int) then
        F_M_hasBetter_42 (F_M_hasBetter_9 n) v1 v2 v3 s4
      else
        some ((1 : Int), s4)
    else
      F_M_hasBetter_42 (F_M_hasBetter_9 n) v1 v2 v3 s2
  else
    some ((0 : Int), σ)
def F_M_hasBetter  (v1 : Int) (v2 : Int) (σ : zt_S) : Option (Int × zt_S) :=
  F_M_hasBetter_9 zt_N v1 v2 (v2 * (σ.1 164 (0 : Int))) σ
def F_M_mayPlay_16    (σ : zt_S) : Option (Int × zt_S) :=
  some ((1 : Int), σ)
def F_M_mayPlay_73   (x0 : Int) (σ : zt_S) : Option (Int × zt_S) :=
  zt_ck (x0 = 0 ∨ x0 = 1) <| some (x0, σ)
def F_M_mayPlay_68    (σ : zt_S) : Option (Int × zt_S) :=
  F_M_mayPlay_73 (1 : Int) σ
def F_M_mayPlay_72    (σ : zt_S) : Option (Int × zt_S) :=
  F_M_mayPlay_73 (0 : Int) σ
def F_M_mayPlay_142   (x0 : Int) (σ : zt_S) : Option (Int × zt_S) :=
  zt_ck (x0 = 0 ∨ x0 = 1) <| some (x0, σ)
def F_M_mayPlay_137    (σ : zt_S) : Option (Int × zt_S) :=
  F_M_mayPlay_142 (1 : Int) σ
def F_M_mayPlay_115   (v2 : Int) (x0 : Int) (σ : zt_S) : Option (Int × zt_S) :=
  zt_ck (zt_in x0) <| if x0 = (0 : Int) then
    F_M_mayPlay_137 σ
  else
    zt_bd (F_M_suitOf v2 σ) fun a13 s14 =>
    zt_ck (zt_in a13 ∧ zt_in (s14.1 164 (10 : Int))) <| if a13 = (s14.1 164 (10 : Int)) then
      F_M_mayPlay_137 s14
    else
      F_M_mayPlay_142 (0 : Int) s14
def F_M_mayPlay_114   (v2 : Int) (σ : zt_S) : Option (Int × zt_S) :=
  F_M_mayPlay_115 v2 (0 : Int) σ
def F_M_mayPlay  (v1 : Int) (v2 : Int) (σ : zt_S) : Option (Int × zt_S) :=
  zt_ck (zt_in (σ.1 164 (3 : Int))) <| if (σ.1 164 (3 : Int)) = (0 : Int) then
    F_M_mayPlay_16 σ
  else
    zt_bd (F_M_inTrick σ) fun a1 s2 =>
    zt_ck (zt_in a1) <| if a1 = (0 : Int) then
      F_M_mayPlay_16 s2
    else
      zt_bd (F_M_ledSuit s2) fun a3 s4 =>
      zt_bd (F_M_suitOfPlayer v1 a3 s4) fun a5 s6 =>
      zt_ck (zt_in a5) <| if (0 : Int) < a5 then
        zt_bd (F_M_suitOf v2 s6) fun a7 s8 =>
        zt_ck (zt_in a7 ∧ zt_in a3) <| if a7 = a3 then
          zt_ck (zt_in (s8.1 164 (3 : Int))) <| if (s8.1 164 (3 : Int)) = (2 : Int) then
            zt_bd (F_M_isBetter v2 s8) fun a9 s10 =>
            zt_ck (zt_in a9) <| if a9 = (0 : Int) then
              zt_bd (F_M_hasBetter v1 a3 s10) fun a11 s12 =>
              zt_ck (zt_in a11) <| if a11 = (0 : Int) then
                F_M_mayPlay_68 s12
              else
                F_M_mayPlay_72 s12
            else
              F_M_mayPlay_68 s10
          else
            F_M_mayPlay_68 s8
        else
          F_M_mayPlay_72 s8
      else
        zt_ck (zt_in (s6.1 164 (3 : Int))) <| if (s6.1 164 (3 : Int)) = (3 : Int) then
          zt_ck (zt_in (s6.1 164 (10 : Int))) <| if (s6.1 164 (10 : Int)) = (-1 : Int) then
            F_M_mayPlay_114 v2 s6
          else
            zt_bd (F_M_suitOfPlayer v1 (s6.1 164 (10 : Int)) s6) fun a15 s16 =>
            zt_ck (zt_in a15) <| if (0 : Int) < a15 then
              F_M_mayPlay_115 v2 (1 : Int) s16
            else
              F_M_mayPlay_114 v2 s16
        else
          F_M_mayPlay_114 v2 s6
def F_M_isLegalNow_33   (x0 : Int) (σ : zt_S) : Option (Int × zt_S) :=
  zt_ck (x0 = 0 ∨ x0 = 1) <| some (x0, σ)
def F_M_isLegalNow_32    (σ : zt_S) : Option (Int × zt_S) :=
  F_M_isLegalNow_33 (0 : Int) σ
def F_M_isLegalNow  (v1 : Int) (σ : zt_S) : Option (Int × zt_S) :=
  zt_bd (F_M_turn σ) fun a1 s2 =>
  zt_ck (zt_in a1) <| if a1 = (-1 : Int) then
    F_M_isLegalNow_32 s2
  else
    zt_bd (F_M_holderOf v1 s2) fun a3 s4 =>
    zt_ck (zt_in a3 ∧ zt_in a1) <| if a3 = a1 then
      zt_bd (F_M_mayPlay a1 v1 s4) fun a5 s6 =>
      zt_ck (zt_in a5) <| if a5 = (0 : Int) then
        F_M_isLegalNow_32 s6
      else
        F_M_isLegalNow_33 (1 : Int) s6
    else
      F_M_isLegalNow_32 s4
def F_M_trickCell  (v1 : Int) (v2 : Int) (σ : zt_S) : Option (Int × zt_S) :=
  some ((((196 : Int) + ((6 : Int) * v1)) + v2), σ)
def F_M_fades_42    (σ : zt_S) : Option (Unit × zt_S) :=
  some ((), σ)
def F_M_fades_93   (x0 : Int) (x1 : Int) (σ : zt_S) : Option (Unit × zt_S) :=
  zt_ck (0 ≤ x1 ∧ x1 < ((274 : Nat) : Int)) <| zt_let (zt_up σ 164 x1 x0) fun s5 =>
  some ((), s5)
def F_M_fades_65   (x0 : Int) (x1 : Int) (σ : zt_S) : Option (Unit × zt_S) :=
  zt_ck (0 ≤ x1 ∧ x1 < ((274 : Nat) : Int)) <| zt_let (zt_up σ 164 x1 x0) fun s4 =>
  zt_ck (zt_in (s4.1 164 (7 : Int))) <| if (s4.1 164 (7 : Int)) = (1 : Int) then
    F_M_fades_93 (s4.1 164 (5 : Int)) (11 : Int) s4
  else
    F_M_fades_93 (0 : Int) (11 : Int) s4
def F_M_fades  (v1 : Int) (σ : zt_S) : Option (Unit × zt_S) :=
  zt_bd (F_M_greater (0 : Int) ((σ.1 164 (11 : Int)) - (σ.1 164 (6 : Int))) σ) fun a1 s2 =>
  zt_let (zt_up s2 164 (11 : Int) a1) fun s3 =>
  zt_ck (zt_in (σ.1 164 (11 : Int))) <| if (σ.1 164 (11 : Int)) = (0 : Int) then
    F_M_fades_42 s3
  else
    zt_ck (zt_in (s3.1 164 (11 : Int))) <| if (0 : Int) < (s3.1 164 (11 : Int)) then
      F_M_fades_42 s3
    else
      zt_ck (zt_in (s3.1 164 (7 : Int))) <| if (s3.1 164 (7 : Int)) = (1 : Int) then
        F_M_fades_65 v1 (10 : Int) s3
      else
        F_M_fades_65 (-1 : Int) (10 : Int) s3
def F_M_endsTrick   (σ : zt_S) : Option (Unit × zt_S) :=
  zt_bd (F_M_bestPlace σ) fun a1 s2 =>
  zt_bd (F_M_cardInTrick a1 s2) fun a3 s4 =>
  zt_ck ((0 ≤ ((s4.1 164 (9 : Int)) + a1) ∧ ((s4.1 164 (9 : Int)) + a1) < 2147483648) ∧ (0 < (s4.1 164 (1 : Int)) ∧ (s4.1 164 (1 : Int)) < 2147483648)) <| zt_bd (F_M_trickCell (s4.1 164 (13 : Int)) (0 : Int) s4) fun a5 s6 =>
  zt_ck (0 ≤ a5 ∧ a5 < ((274 : Nat) : Int)) <| zt_let (zt_up s6 164 a5 (s6.1 164 (9 : Int))) fun s7 =>
  zt_bd (F_M_trickCell (s4.1 164 (13 : Int)) (1 : Int) s7) fun a8 s9 =>
  zt_ck (0 ≤ a8 ∧ a8 < ((274 : Nat) : Int)) <| zt_let (zt_up s9 164 a8 (((s4.1 164 (9 : Int)) + a1) % (s4.1 164 (1 : Int)))) fun s10 =>
  zt_bd (F_M_trickCell (s4.1 164 (13 : Int)) (2 : Int) s10) fun a11 s12 =>
  zt_ck (0 ≤ a11 ∧ a11 < ((274 : Nat) : Int)) <| zt_let (zt_up s12 164 a11 a3) fun s13 =>
  zt_bd (F_M_trickCell (s4.1 164 (13 : Int)) (3 : Int) s13) fun a14 s15 =>
  zt_bd (F_M_ledSuit s15) fun a16 s17 =>
  zt_ck (0 ≤ a14 ∧ a14 < ((274 : Nat) : Int)) <| zt_let (zt_up s17 164 a14 a16) fun s18 =>
  zt_bd (F_M_trickCell (s4.1 164 (13 : Int)) (4 : Int) s18) fun a19 s20 =>
  zt_ck (0 ≤ a19 ∧ a19 < ((274 : Nat) : Int)) <| zt_let (zt_up s20 164 a19 (s20.1 164 (10 : Int))) fun s21 =>
  zt_bd (F_M_trickCell (s4.1 164 (13 : Int)) (5 : Int) s21) fun a22 s23 =>
  zt_ck (0 ≤ a22 ∧ a22 < ((274 : Nat) : Int)) <| zt_let (zt_up s23 164 a22 (s23.1 164 (11 : Int))) fun s24 =>
  zt_let (zt_up s24 164 (13 : Int) ((s4.1 164 (13 : Int)) + (1 : Int))) fun s25 =>
  zt_let (zt_up s25 164 (9 : Int) (((s4.1 164 (9 : Int)) + a1) % (s4.1 164 (1 : Int)))) fun s26 =>
  zt_bd (F_M_suitOf a3 s26) fun a27 s28 =>
  zt_bd (F_M_fades a27 s28) fun _ s30 =>
  some ((), s30)
def F_M_plays_121    (σ : zt_S) : Option (Unit × zt_S) :=
  some ((), σ)
def F_M_plays_50   (v1 : Int) (v2 : Int) (σ : zt_S) : Option (Unit × zt_S) :=
  zt_ck (0 ≤ ((40 : Int) + v1) ∧ ((40 : Int) + v1) < ((274 : Nat) : Int)) <| zt_let (zt_up σ 164 ((40 : Int) + v1) (-1 : Int)) fun s3 =>
  zt_ck (0 ≤ ((92 : Int) + (s3.1 164 (12 : Int))) ∧ ((92 : Int) + (s3.1 164 (12 : Int))) < ((274 : Nat) : Int)) <| zt_let (zt_up s3 164 ((92 : Int) + (s3.1 164 (12 : Int))) v1) fun s4 =>
  zt_ck (0 ≤ ((144 : Int) + (s4.1 164 (12 : Int))) ∧ ((144 : Int) + (s4.1 164 (12 : Int))) < ((274 : Nat) : Int)) <| zt_let (zt_up s4 164 ((144 : Int) + (s4.1 164 (12 : Int))) v2) fun s5 =>
  zt_let (zt_up s5 164 (12 : Int) ((s5.1 164 (12 : Int)) + (1 : Int))) fun s6 =>
  zt_bd (F_M_inTrick s6) fun a7 s8 =>
  zt_ck (zt_in a7 ∧ zt_in (s8.1 164 (1 : Int))) <| if a7 = (s8.1 164 (1 : Int)) then
    zt_bd (F_M_endsTrick s8) fun _ s10 =>
    F_M_plays_121 s10
  else
    F_M_plays_121 s8
def F_M_plays  (v1 : Int) (σ : zt_S) : Option (Unit × zt_S) :=
  zt_bd (F_M_turn σ) fun a1 s2 =>
  zt_ck (zt_in (s2.1 164 (3 : Int))) <| if (s2.1 164 (3 : Int)) = (0 : Int) then
    F_M_plays_50 v1 a1 s2
  else
    zt_bd (F_M_inTrick s2) fun a11 s12 =>
    zt_ck (zt_in a11) <| if (0 : Int) < a11 then
      zt_bd (F_M_suitOf v1 s12) fun a13 s14 =>
      zt_bd (F_M_ledSuit s14) fun a15 s16 =>
      zt_ck (zt_in a13 ∧ zt_in a15) <| if a13 = a15 then
        F_M_plays_50 v1 a1 s16
      else
        zt_bd (F_M_ledSuit s16) fun a17 s18 =>
        zt_ck (0 ≤ (((24 : Int) + ((4 : Int) * a1)) + a17) ∧ (((24 : Int) + ((4 : Int) * a1)) + a17) < ((274 : Nat) : Int)) <| zt_let (zt_up s18 164 (((24 : Int) + ((4 : Int) * a1)) + a17) (1 : Int)) fun s19 =>
        F_M_plays_50 v1 a1 s19
    else
      F_M_plays_50 v1 a1 s12
def F_M_tricksOf_36  (r4 : Int → Int → Int → zt_S → Option (Int × zt_S)) (v1 : Int) (v3 : Int) (x0 : Int) (x1 : Int) (σ : zt_S) : Option (Int × zt_S) :=
  r4 v1 (x1 + x0) (v3 + (1 : Int)) σ
def F_M_tricksOf_4   : Nat → Int → Int → Int → zt_S → Option (Int × zt_S)
  | 0, _, _, _, _ => none
  | n + 1, v1, v2, v3, σ =>
  zt_ck (zt_in v3 ∧ zt_in (σ.1 164 (13 : Int))) <| if v3 < (σ.1 164 (13 : Int)) then
    zt_bd (F_M_trickCell v3 (1 : Int) σ) fun a1 s2 =>
    zt_ck (0 ≤ a1 ∧ a1 < ((274 : Nat) : Int)) <| zt_ck (zt_in (s2.1 164 a1) ∧ zt_in v1) <| if (s2.1 164 a1) = v1 then
      F_M_tricksOf_36 (F_M_tricksOf_4 n) v1 v3 (1 : Int) v2 s2
    else
      F_M_tricksOf_36 (F_M_tricksOf_4 n) v1 v3 (0 : Int) v2 s2
  else
    some (v2, σ)
def F_M_tricksOf  (v1 : Int) (σ : zt_S) : Option (Int × zt_S) :=
  F_M_tricksOf_4 zt_N v1 (0 : Int) (0 : Int) σ
def F_M_resultOf_49   (x0 : Int) (σ : zt_S) : Option (Int × zt_S) :=
  some (x0, σ)
def F_M_resultOf  (v1 : Int) (σ : zt_S) : Option (Int × zt_S) :=
  zt_bd (F_M_tricksOf v1 σ) fun a1 s2 =>
  zt_ck (0 ≤ ((16 : Int) + v1) ∧ ((16 : Int) + v1) < ((274 : Nat) : Int)) <| zt_ck (zt_in (s2.1 164 ((16 : Int) + v1))) <| if (s2.1 164 ((16 : Int) + v1)) = (-1 : Int) then
    some (a1, s2)
  else
    zt_ck (zt_in (s2.1 164 ((16 : Int) + v1)) ∧ zt_in a1) <| if (s2.1 164 ((16 : Int) + v1)) = a1 then
      F_M_resultOf_49 ((10 : Int) + (s2.1 164 ((16 : Int) + v1))) s2
    else
      zt_ck (zt_in (s2.1 164 ((16 : Int) + v1)) ∧ zt_in a1) <| if a1 < (s2.1 164 ((16 : Int) + v1)) then
        F_M_resultOf_49 (a1 - (s2.1 164 ((16 : Int) + v1))) s2
      else
        F_M_resultOf_49 ((s2.1 164 ((16 : Int) + v1)) - a1) s2
def F_M_counts_43    (σ : zt_S) : Option (Unit × zt_S) :=
  zt_let (zt_up σ 164 (14 : Int) ((σ.1 164 (14 : Int)) + (1 : Int))) fun s6 =>
  some ((), s6)
def F_M_counts_10   : Nat → Int → zt_S → Option (Unit × zt_S)
  | 0, _, _ => none
  | n + 1, v1, σ =>
  zt_ck (zt_in v1 ∧ zt_in (σ.1 164 (1 : Int))) <| if v1 < (σ.1 164 (1 : Int)) then
    zt_ck (0 ≤ ((20 : Int) + v1) ∧ ((20 : Int) + v1) < ((274 : Nat) : Int)) <| zt_bd (F_M_resultOf v1 σ) fun a3 s4 =>
    zt_ck (0 ≤ ((20 : Int) + v1) ∧ ((20 : Int) + v1) < ((274 : Nat) : Int)) <| zt_let (zt_up s4 164 ((20 : Int) + v1) ((σ.1 164 ((20 : Int) + v1)) + a3)) fun s5 =>
    F_M_counts_10 n (v1 + (1 : Int)) s5
  else
    F_M_counts_43 σ
def F_M_counts   (σ : zt_S) : Option (Unit × zt_S) :=
  zt_bd (F_M_isOver σ) fun a1 s2 =>
  zt_ck (zt_in a1) <| if a1 = (0 : Int) then
    some ((), s2)
  else
    F_M_counts_10 zt_N (0 : Int) s2
def F_M_size  (v1 : Int) (σ : zt_S) : Option (Int × zt_S) :=
  zt_let (zt_up σ 163 0 (0 : Int)) fun s1 =>
  zt_bd (F_M_in (zt_l v1) (0 : Int64) (13 : Int64) s1) fun a2 s3 =>
  zt_bd (F_M_fails a2 (1 : Int) s3) fun a4 s5 =>
  zt_ck (zt_in a4) <| if a4 = (0 : Int) then
    zt_ck (zt_in v1) <| if v1 = (0 : Int) then
      some ((s5.1 164 (0 : Int)), s5)
    else if v1 = (1 : Int) then
      some ((s5.1 164 (1 : Int)), s5)
    else if v1 = (2 : Int) then
      some ((s5.1 164 (2 : Int)), s5)
    else if v1 = (3 : Int) then
      some ((s5.1 164 (3 : Int)), s5)
    else if v1 = (4 : Int) then
      some ((s5.1 164 (10 : Int)), s5)
    else if v1 = (5 : Int) then
      some ((s5.1 164 (11 : Int)), s5)
    else if v1 = (6 : Int) then
      some ((s5.1 164 (5 : Int)), s5)
    else if v1 = (7 : Int) then
      some ((s5.1 164 (6 : Int)), s5)
    else if v1 = (8 : Int) then
      some ((s5.1 164 (7 : Int)), s5)
    else if v1 = (9 : Int) then
      zt_bd (F_M_turn s5) fun a6 s7 =>
      some (a6, s7)
    else if v1 = (10 : Int) then
      some ((s5.1 164 (9 : Int)), s5)
    else if v1 = (11 : Int) then
      some ((s5.1 164 (13 : Int)), s5)
    else if v1 = (12 : Int) then
      some ((s5.1 164 (12 : Int)), s5)
    else 
    some ((s5.1 164 (14 : Int)), s5)
  else
    some ((0 : Int), s5)
def F_M_suit_27   (x0 : Int) (σ : zt_S) : Option (Int × zt_S) :=
  some (x0, σ)
def F_M_suit  (v1 : Int) (σ : zt_S) : Option (Int × zt_S) :=
  zt_let (zt_up σ 163 0 (0 : Int)) fun s1 =>
  zt_bd (F_M_isCard v1 s1) fun a2 s3 =>
  zt_bd (F_M_fails a2 (1 : Int) s3) fun a4 s5 =>
  zt_ck (zt_in a4) <| if a4 = (0 : Int) then
    zt_bd (F_M_suitOf v1 s5) fun a6 s7 =>
    F_M_suit_27 a6 s7
  else
    F_M_suit_27 (0 : Int) s5
def F_M_rank_27   (x0 : Int) (σ : zt_S) : Option (Int × zt_S) :=
  some (x0, σ)
def F_M_rank  (v1 : Int) (σ : zt_S) : Option (Int × zt_S) :=
  zt_let (zt_up σ 163 0 (0 : Int)) fun s1 =>
  zt_bd (F_M_isCard v1 s1) fun a2 s3 =>
  zt_bd (F_M_fails a2 (1 : Int) s3) fun a4 s5 =>
  zt_ck (zt_in a4) <| if a4 = (0 : Int) then
    zt_bd (F_M_rankOf v1 s5) fun a6 s7 =>
    F_M_rank_27 a6 s7
  else
    F_M_rank_27 (0 : Int) s5
def F_M_holder_27   (x0 : Int) (σ : zt_S) : Option (Int × zt_S) :=
  some (x0, σ)
def F_M_holder  (v1 : Int) (σ : zt_S) : Option (Int × zt_S) :=
  zt_let (zt_up σ 163 0 (0 : Int)) fun s1 =>
  zt_bd (F_M_isCard v1 s1) fun a2 s3 =>
  zt_bd (F_M_fails a2 (1 : Int) s3) fun a4 s5 =>
  zt_ck (zt_in a4) <| if a4 = (0 : Int) then
    zt_bd (F_M_holderOf v1 s5) fun a6 s7 =>
    F_M_holder_27 a6 s7
  else
    F_M_holder_27 (0 : Int) s5
def F_M_isPlayer  (v1 : Int) (σ : zt_S) : Option (Int × zt_S) :=
  zt_bd (F_M_in (zt_l v1) (0 : Int64) (zt_l ((σ.1 164 (1 : Int)) - (1 : Int))) σ) fun a1 s2 =>
  zt_ck (a1 = 0 ∨ a1 = 1) <| some (a1, s2)
def F_M_isSuit  (v0 : Int) (σ : zt_S) : Option (Int × zt_S) :=
  zt_bd (F_M_in (zt_l v0) (0 : Int64) (3 : Int64) σ) fun a1 s2 =>
  zt_ck (a1 = 0 ∨ a1 = 1) <| some (a1, s2)
def F_M_held_31   (x0 : Int) (σ : zt_S) : Option (Int × zt_S) :=
  some (x0, σ)
def F_M_held  (v1 : Int) (σ : zt_S) : Option (Int × zt_S) :=
  zt_let (zt_up σ 163 0 (0 : Int)) fun s1 =>
  zt_bd (F_M_isPlayer v1 s1) fun a2 s3 =>
  zt_bd (F_M_fails a2 (1 : Int) s3) fun a4 s5 =>
  zt_ck (zt_in a4) <| if a4 = (0 : Int) then
    zt_bd (F_M_heldBy 164 274 v1 s5) fun a6 s7 =>
    F_M_held_31 a6 s7
  else
    F_M_held_31 (0 : Int) s5
def F_M_inHand_57  (r25 : Int → Int → Int → zt_S → Option (Int × zt_S)) (v1 : Int) (v3 : Int) (v4 : Int) (σ : zt_S) : Option (Int × zt_S) :=
  r25 v1 v3 (v4 + (1 : Int)) σ
def F_M_inHand_63    (σ : zt_S) : Option (Int × zt_S) :=
  zt_let (zt_up σ 163 0 (1 : Int)) fun s10 =>
  some ((0 : Int), s10)
def F_M_inHand_25   : Nat → Int → Int → Int → zt_S → Option (Int × zt_S)
  | 0, _, _, _, _ => none
  | n + 1, v1, v3, v4, σ =>
  zt_bd (F_M_cards σ) fun a6 s7 =>
  zt_ck (zt_in v4 ∧ zt_in a6) <| if v4 < a6 then
    zt_bd (F_M_holderOf v4 s7) fun a8 s9 =>
    zt_ck (zt_in a8 ∧ zt_in v1) <| if a8 = v1 then
      zt_ck (zt_in v3) <| if v3 = (0 : Int) then
        some (v4, s9)
      else
        F_M_inHand_57 (F_M_inHand_25 n) v1 (zt_w (v3 + (-1 : Int))) v4 s9
    else
      F_M_inHand_57 (F_M_inHand_25 n) v1 v3 v4 s9
  else
    F_M_inHand_63 s7
def F_M_inHand  (v1 : Int) (v2 : Int) (σ : zt_S) : Option (Int × zt_S) :=
  zt_let (zt_up σ 163 0 (0 : Int)) fun s1 =>
  zt_bd (F_M_isPlayer v1 s1) fun a2 s3 =>
  zt_bd (F_M_fails a2 (1 : Int) s3) fun a4 s5 =>
  zt_ck (zt_in a4) <| if a4 = (0 : Int) then
    F_M_inHand_25 zt_N v1 v2 (0 : Int) s5
  else
    some ((0 : Int), s5)
def F_M_ofSuit_43   (x0 : Int) (σ : zt_S) : Option (Int × zt_S) :=
  some (x0, σ)
def F_M_ofSuit_26   (v1 : Int) (v2 : Int) (x0 : Int) (σ : zt_S) : Option (Int × zt_S) :=
  zt_bd (F_M_fails x0 (1 : Int) σ) fun a4 s5 =>
  zt_ck (zt_in a4) <| if a4 = (0 : Int) then
    zt_bd (F_M_suitOfPlayer v1 v2 s5) fun a6 s7 =>
    F_M_ofSuit_43 a6 s7
  else
    F_M_ofSuit_43 (0 : Int) s5
def F_M_ofSuit_25   (v1 : Int) (v2 : Int) (σ : zt_S) : Option (Int × zt_S) :=
  F_M_ofSuit_26 v1 v2 (0 : Int) σ
def F_M_ofSuit  (v1 : Int) (v2 : Int) (σ : zt_S) : Option (Int × zt_S) :=
  zt_let (zt_up σ 163 0 (0 : Int)) fun s1 =>
  zt_bd (F_M_isPlayer v1 s1) fun a2 s3 =>
  zt_ck (zt_in a2) <| if a2 = (0 : Int) then
    F_M_ofSuit_25 v1 v2 s3
  else
    zt_bd (F_M_isSuit v2 s3) fun a8 s9 =>
    zt_ck (zt_in a8) <| if a8 = (0 : Int) then
      F_M_ofSuit_25 v1 v2 s9
    else
      F_M_ofSuit_26 v1 v2 (1 : Int) s9
def F_M_isLegal_31   (x0 : Int) (σ : zt_S) : Option (Int × zt_S) :=
  zt_ck (x0 = 0 ∨ x0 = 1) <| some (x0, σ)
def F_M_isLegal_30    (σ : zt_S) : Option (Int × zt_S) :=
  F_M_isLegal_31 (0 : Int) σ
def F_M_isLegal  (v1 : Int) (σ : zt_S) : Option (Int × zt_S) :=
  zt_let (zt_up σ 163 0 (0 : Int)) fun s1 =>
  zt_bd (F_M_isCard v1 s1) fun a2 s3 =>
  zt_bd (F_M_fails a2 (1 : Int) s3) fun a4 s5 =>
  zt_ck (zt_in a4) <| if a4 = (0 : Int) then
    zt_bd (F_M_isLegalNow v1 s5) fun a6 s7 =>
    zt_ck (zt_in a6) <| if a6 = (0 : Int) then
      F_M_isLegal_30 s7
    else
      F_M_isLegal_31 (1 : Int) s7
  else
    F_M_isLegal_30 s5
def F_M_legal_31  (r9 : Int → Int → zt_S → Option (Int × zt_S)) (v2 : Int) (x0 : Int) (x1 : Int) (σ : zt_S) : Option (Int × zt_S) :=
  r9 (x1 + x0) (v2 + (1 : Int)) σ
def F_M_legal_9   : Nat → Int → Int → zt_S → Option (Int × zt_S)
  | 0, _, _, _ => none
  | n + 1, v1, v2, σ =>
  zt_bd (F_M_cards σ) fun a2 s3 =>
  zt_ck (zt_in v2 ∧ zt_in a2) <| if v2 < a2 then
    zt_bd (F_M_isLegalNow v2 s3) fun a4 s5 =>
    zt_ck (zt_in a4) <| if a4 = (0 : Int) then
      F_M_legal_31 (F_M_legal_9 n) v2 (0 : Int) v1 s5
    else
      F_M_legal_31 (F_M_legal_9 n) v2 (1 : Int) v1 s5
  else
    some (v1, s3)
def F_M_legal   (σ : zt_S) : Option (Int × zt_S) :=
  zt_let (zt_up σ 163 0 (0 : Int)) fun s1 =>
  F_M_legal_9 zt_N (0 : Int) (0 : Int) s1
def F_M_power_27   (x0 : Int) (σ : zt_S) : Option (Int × zt_S) :=
  some (x0, σ)
def F_M_power  (v1 : Int) (σ : zt_S) : Option (Int × zt_S) :=
  zt_let (zt_up σ 163 0 (0 : Int)) fun s1 =>
  zt_bd (F_M_isCard v1 s1) fun a2 s3 =>
  zt_bd (F_M_fails a2 (1 : Int) s3) fun a4 s5 =>
  zt_ck (zt_in a4) <| if a4 = (0 : Int) then
    zt_bd (F_M_powerNow v1 s5) fun a6 s7 =>
    F_M_power_27 a6 s7
  else
    F_M_power_27 (0 : Int) s5
def F_M_led   (σ : zt_S) : Option (Int × zt_S) :=
  zt_let (zt_up σ 163 0 (0 : Int)) fun s1 =>
  zt_bd (F_M_ledSuit s1) fun a2 s3 =>
  some (a2, s3)
def F_M_winning_35   (x0 : Int) (σ : zt_S) : Option (Int × zt_S) :=
  some (x0, σ)
def F_M_winning   (σ : zt_S) : Option (Int × zt_S) :=
  zt_let (zt_up σ 163 0 (0 : Int)) fun s1 =>
  zt_bd (F_M_bestPlace s1) fun a2 s3 =>
  zt_ck (zt_in a2) <| if a2 = (-1 : Int) then
    F_M_winning_35 (-1 : Int) s3
  else
    zt_ck ((0 ≤ ((s3.1 164 (9 : Int)) + a2) ∧ ((s3.1 164 (9 : Int)) + a2) < 2147483648) ∧ (0 < (s3.1 164 (1 : Int)) ∧ (s3.1 164 (1 : Int)) < 2147483648)) <| F_M_winning_35 (((s3.1 164 (9 : Int)) + a2) % (s3.1 164 (1 : Int))) s3
def F_M_wouldLead_31   (x0 : Int) (σ : zt_S) : Option (Int × zt_S) :=
  zt_ck (x0 = 0 ∨ x0 = 1) <| some (x0, σ)
def F_M_wouldLead_30    (σ : zt_S) : Option (Int × zt_S) :=
  F_M_wouldLead_31 (0 : Int) σ
def F_M_wouldLead  (v1 : Int) (σ : zt_S) : Option (Int × zt_S) :=
  zt_let (zt_up σ 163 0 (0 : Int)) fun s1 =>
  zt_bd (F_M_isCard v1 s1) fun a2 s3 =>
  zt_bd (F_M_fails a2 (1 : Int) s3) fun a4 s5 =>
  zt_ck (zt_in a4) <| if a4 = (0 : Int) then
    zt_bd (F_M_isBetter v1 s5) fun a6 s7 =>
    zt_ck (zt_in a6) <| if a6 = (0 : Int) then
      F_M_wouldLead_30 s7
    else
      F_M_wouldLead_31 (1 : Int) s7
  else
    F_M_wouldLead_30 s5
def F_M_played_93   (x0 : Int) (σ : zt_S) : Option (Int × zt_S) :=
  some (x0, σ)
def F_M_played_42   (v1 : Int) (v2 : Int) (x0 : Int) (σ : zt_S) : Option (Int × zt_S) :=
  zt_bd (F_M_fails x0 (1 : Int) σ) fun a4 s5 =>
  zt_ck (zt_in a4) <| if a4 = (0 : Int) then
    zt_ck (zt_in v2) <| if v2 = (0 : Int) then
      zt_ck (0 ≤ ((92 : Int) + v1) ∧ ((92 : Int) + v1) < ((274 : Nat) : Int)) <| F_M_played_93 (s5.1 164 ((92 : Int) + v1)) s5
    else
      zt_ck (zt_in v2) <| if v2 = (1 : Int) then
        zt_ck (0 ≤ ((144 : Int) + v1) ∧ ((144 : Int) + v1) < ((274 : Nat) : Int)) <| F_M_played_93 (s5.1 164 ((144 : Int) + v1)) s5
      else
        zt_ck ((0 ≤ v1 ∧ v1 < 2147483648) ∧ (0 < (s5.1 164 (1 : Int)) ∧ (s5.1 164 (1 : Int)) < 2147483648)) <| F_M_played_93 (v1 / (s5.1 164 (1 : Int))) s5
  else
    some ((0 : Int), s5)
def F_M_played_41   (v1 : Int) (v2 : Int) (σ : zt_S) : Option (Int × zt_S) :=
  F_M_played_42 v1 v2 (0 : Int) σ
def F_M_played  (v1 : Int) (v2 : Int) (σ : zt_S) : Option (Int × zt_S) :=
  zt_let (zt_up σ 163 0 (0 : Int)) fun s1 =>
  zt_bd (F_M_in (zt_l v1) (0 : Int64) (zt_l ((s1.1 164 (12 : Int)) - (1 : Int))) s1) fun a2 s3 =>
  zt_ck (zt_in a2) <| if a2 = (0 : Int) then
    F_M_played_41 v1 v2 s3
  else
    zt_bd (F_M_in (zt_l v2) (0 : Int64) (2 : Int64) s3) fun a6 s7 =>
    zt_ck (zt_in a6) <| if a6 = (0 : Int) then
      F_M_played_41 v1 v2 s7
    else
      F_M_played_42 v1 v2 (1 : Int) s7
def F_M_trick_64   (x0 : Int) (σ : zt_S) : Option (Int × zt_S) :=
  some (x0, σ)
def F_M_trick_42   (v1 : Int) (v2 : Int) (x0 : Int) (σ : zt_S) : Option (Int × zt_S) :=
  zt_bd (F_M_fails x0 (1 : Int) σ) fun a4 s5 =>
  zt_ck (zt_in a4) <| if a4 = (0 : Int) then
    zt_bd (F_M_trickCell v1 v2 s5) fun a6 s7 =>
    zt_ck (0 ≤ a6 ∧ a6 < ((274 : Nat) : Int)) <| F_M_trick_64 (s7.1 164 a6) s7
  else
    F_M_trick_64 (0 : Int) s5
def F_M_trick_41   (v1 : Int) (v2 : Int) (σ : zt_S) : Option (Int × zt_S) :=
  F_M_trick_42 v1 v2 (0 : Int) σ
def F_M_trick  (v1 : Int) (v2 : Int) (σ : zt_S) : Option (Int × zt_S) :=
  zt_let (zt_up σ 163 0 (0 : Int)) fun s1 =>
  zt_bd (F_M_in (zt_l v1) (0 : Int64) (zt_l ((s1.1 164 (13 : Int)) - (1 : Int))) s1) fun a2 s3 =>
  zt_ck (zt_in a2) <| if a2 = (0 : Int) then
    F_M_trick_41 v1 v2 s3
  else
    zt_bd (F_M_in (zt_l v2) (0 : Int64) (5 : Int64) s3) fun a8 s9 =>
    zt_ck (zt_in a8) <| if a8 = (0 : Int) then
      F_M_trick_41 v1 v2 s9
    else
      F_M_trick_42 v1 v2 (1 : Int) s9
def F_M_tricks_27   (x0 : Int) (σ : zt_S) : Option (Int × zt_S) :=
  some (x0, σ)
def F_M_tricks  (v1 : Int) (σ : zt_S) : Option (Int × zt_S) :=
  zt_let (zt_up σ 163 0 (0 : Int)) fun s1 =>
  zt_bd (F_M_isPlayer v1 s1) fun a2 s3 =>
  zt_bd (F_M_fails a2 (1 : Int) s3) fun a4 s5 =>
  zt_ck (zt_in a4) <| if a4 = (0 : Int) then
    zt_bd (F_M_tricksOf v1 s5) fun a6 s7 =>
    F_M_tricks_27 a6 s7
  else
    F_M_tricks_27 (0 : Int) s5
def F_M_told_31   (x0 : Int) (σ : zt_S) : Option (Int × zt_S) :=
  some (x0, σ)
def F_M_told  (v1 : Int) (σ : zt_S) : Option (Int × zt_S) :=
  zt_let (zt_up σ 163 0 (0 : Int)) fun s1 =>
  zt_bd (F_M_isPlayer v1 s1) fun a2 s3 =>
  zt_bd (F_M_fails a2 (1 : Int) s3) fun a4 s5 =>
  zt_ck (zt_in a4) <| if a4 = (0 : Int) then
    zt_ck (0 ≤ ((16 : Int) + v1) ∧ ((16 : Int) + v1) < ((274 : Nat) : Int)) <| F_M_told_31 (s5.1 164 ((16 : Int) + v1)) s5
  else
    F_M_told_31 (0 : Int) s5
def F_M_result_27   (x0 : Int) (σ : zt_S) : Option (Int × zt_S) :=
  some (x0, σ)
def F_M_result  (v1 : Int) (σ : zt_S) : Option (Int × zt_S) :=
  zt_let (zt_up σ 163 0 (0 : Int)) fun s1 =>
  zt_bd (F_M_isPlayer v1 s1) fun a2 s3 =>
  zt_bd (F_M_fails a2 (1 : Int) s3) fun a4 s5 =>
  zt_ck (zt_in a4) <| if a4 = (0 : Int) then
    zt_bd (F_M_resultOf v1 s5) fun a6 s7 =>
    F_M_result_27 a6 s7
  else
    F_M_result_27 (0 : Int) s5
def F_M_points_31   (x0 : Int) (σ : zt_S) : Option (Int × zt_S) :=
  some (x0, σ)
def F_M_points  (v1 : Int) (σ : zt_S) : Option (Int × zt_S) :=
  zt_let (zt_up σ 163 0 (0 : Int)) fun s1 =>
  zt_bd (F_M_isPlayer v1 s1) fun a2 s3 =>
  zt_bd (F_M_fails a2 (1 : Int) s3) fun a4 s5 =>
  zt_ck (zt_in a4) <| if a4 = (0 : Int) then
    zt_ck (0 ≤ ((20 : Int) + v1) ∧ ((20 : Int) + v1) < ((274 : Nat) : Int)) <| F_M_points_31 (s5.1 164 ((20 : Int) + v1)) s5
  else
    F_M_points_31 (0 : Int) s5
def F_M_ranking_104  (r22 : Int → Int → zt_S → Option (Int × zt_S)) (r37 : Int → Int → Int → Int → zt_S → Option (Int × zt_S)) (v1 : Int) (v2 : Int) (v4 : Int) (x0 : Int) (x1 : Int) (σ : zt_S) : Option (Int × zt_S) :=
  r37 v1 v2 (x1 + x0) (v4 + (1 : Int)) σ
def F_M_ranking_99  (r22 : Int → Int → zt_S → Option (Int × zt_S)) (r37 : Int → Int → Int → Int → zt_S → Option (Int × zt_S)) (v1 : Int) (v2 : Int) (v4 : Int) (x0 : Int) (σ : zt_S) : Option (Int × zt_S) :=
  F_M_ranking_104 r22 r37 v1 v2 v4 (1 : Int) x0 σ
def F_M_ranking_103  (r22 : Int → Int → zt_S → Option (Int × zt_S)) (r37 : Int → Int → Int → Int → zt_S → Option (Int × zt_S)) (v1 : Int) (v2 : Int) (v4 : Int) (x0 : Int) (σ : zt_S) : Option (Int × zt_S) :=
  F_M_ranking_104 r22 r37 v1 v2 v4 (0 : Int) x0 σ
def F_M_ranking_112  (r22 : Int → Int → zt_S → Option (Int × zt_S)) (v1 : Int) (v2 : Int) (v3 : Int) (σ : zt_S) : Option (Int × zt_S) :=
  zt_ck (zt_in v3 ∧ zt_in v1) <| if v3 = v1 then
    some (v2, σ)
  else
    r22 v1 (v2 + (1 : Int)) σ
def F_M_ranking_37  (r22 : Int → Int → zt_S → Option (Int × zt_S)) : Nat → Int → Int → Int → Int → zt_S → Option (Int × zt_S)
  | 0, _, _, _, _, _ => none
  | n + 1, v1, v2, v3, v4, σ =>
  zt_ck (zt_in v4 ∧ zt_in (σ.1 164 (1 : Int))) <| if v4 < (σ.1 164 (1 : Int)) then
    zt_ck (0 ≤ ((20 : Int) + v4) ∧ ((20 : Int) + v4) < ((274 : Nat) : Int)) <| zt_ck (0 ≤ ((20 : Int) + v2) ∧ ((20 : Int) + v2) < ((274 : Nat) : Int)) <| zt_ck (zt_in (σ.1 164 ((20 : Int) + v4)) ∧ zt_in (σ.1 164 ((20 : Int) + v2))) <| if (σ.1 164 ((20 : Int) + v2)) < (σ.1 164 ((20 : Int) + v4)) then
      F_M_ranking_99 r22 (F_M_ranking_37 r22 n) v1 v2 v4 v3 σ
    else
      zt_ck (0 ≤ ((20 : Int) + v4) ∧ ((20 : Int) + v4) < ((274 : Nat) : Int)) <| zt_ck (0 ≤ ((20 : Int) + v2) ∧ ((20 : Int) + v2) < ((274 : Nat) : Int)) <| zt_ck (zt_in (σ.1 164 ((20 : Int) + v4)) ∧ zt_in (σ.1 164 ((20 : Int) + v2))) <| if (σ.1 164 ((20 : Int) + v4)) = (σ.1 164 ((20 : Int) + v2)) then
        zt_ck (zt_in v4 ∧ zt_in v2) <| if v4 < v2 then
          F_M_ranking_99 r22 (F_M_ranking_37 r22 n) v1 v2 v4 v3 σ
        else
          F_M_ranking_103 r22 (F_M_ranking_37 r22 n) v1 v2 v4 v3 σ
      else
        F_M_ranking_103 r22 (F_M_ranking_37 r22 n) v1 v2 v4 v3 σ
  else
    F_M_ranking_112 r22 v1 v2 v3 σ
def F_M_ranking_22   : Nat → Int → Int → zt_S → Option (Int × zt_S)
  | 0, _, _, _ => none
  | n + 1, v1, v2, σ =>
  zt_ck (zt_in v2 ∧ zt_in (σ.1 164 (1 : Int))) <| if v2 < (σ.1 164 (1 : Int)) then
    F_M_ranking_37 (F_M_ranking_22 n) zt_N v1 v2 (0 : Int) (0 : Int) σ
  else
    some ((-1 : Int), σ)
def F_M_ranking  (v1 : Int) (σ : zt_S) : Option (Int × zt_S) :=
  zt_let (zt_up σ 163 0 (0 : Int)) fun s1 =>
  zt_bd (F_M_isPlayer v1 s1) fun a2 s3 =>
  zt_bd (F_M_fails a2 (1 : Int) s3) fun a4 s5 =>
  zt_ck (zt_in a4) <| if a4 = (0 : Int) then
    F_M_ranking_22 zt_N v1 (0 : Int) s5
  else
    some ((0 : Int), s5)
def F_M_lacks_55   (x0 : Int) (σ : zt_S) : Option (Int × zt_S) :=
  zt_ck (x0 = 0 ∨ x0 = 1) <| some (x0, σ)
def F_M_lacks_54    (σ : zt_S) : Option (Int × zt_S) :=
  F_M_lacks_55 (0 : Int) σ
def F_M_lacks_26   (v1 : Int) (v2 : Int) (x0 : Int) (σ : zt_S) : Option (Int × zt_S) :=
  zt_bd (F_M_fails x0 (1 : Int) σ) fun a4 s5 =>
  zt_ck (zt_in a4) <| if a4 = (0 : Int) then
    zt_ck (0 ≤ (((24 : Int) + ((4 : Int) * v1)) + v2) ∧ (((24 : Int) + ((4 : Int) * v1)) + v2) < ((274 : Nat) : Int)) <| zt_ck (zt_in (s5.1 164 (((24 : Int) + ((4 : Int) * v1)) + v2))) <| if (s5.1 164 (((24 : Int) + ((4 : Int) * v1)) + v2)) = (1 : Int) then
      F_M_lacks_55 (1 : Int) s5
    else
      F_M_lacks_54 s5
  else
    F_M_lacks_54 s5
def F_M_lacks_25   (v1 : Int) (v2 : Int) (σ : zt_S) : Option (Int × zt_S) :=
  F_M_lacks_26 v1 v2 (0 : Int) σ
def F_M_lacks  (v1 : Int) (v2 : Int) (σ : zt_S) : Option (Int × zt_S) :=
  zt_let (zt_up σ 163 0 (0 : Int)) fun s1 =>
  zt_bd (F_M_isPlayer v1 s1) fun a2 s3 =>
  zt_ck (zt_in a2) <| if a2 = (0 : Int) then
    F_M_lacks_25 v1 v2 s3
  else
    zt_bd (F_M_isSuit v2 s3) fun a6 s7 =>
    zt_ck (zt_in a6) <| if a6 = (0 : Int) then
      F_M_lacks_25 v1 v2 s7
    else
      F_M_lacks_26 v1 v2 (1 : Int) s7
def F_M_wasPlayed_2   : Nat → Int → Int → zt_S → Option (Int × zt_S)
  | 0, _, _, _ => none
  | n + 1, v1, v2, σ =>
  zt_ck (zt_in v2 ∧ zt_in (σ.1 164 (12 : Int))) <| if v2 < (σ.1 164 (12 : Int)) then
    zt_ck (0 ≤ ((92 : Int) + v2) ∧ ((92 : Int) + v2) < ((274 : Nat) : Int)) <| zt_ck (zt_in (σ.1 164 ((92 : Int) + v2)) ∧ zt_in v1) <| if (σ.1 164 ((92 : Int) + v2)) = v1 then
      some ((1 : Int), σ)
    else
      F_M_wasPlayed_2 n v1 (v2 + (1 : Int)) σ
  else
    some ((0 : Int), σ)
def F_M_wasPlayed  (v1 : Int) (σ : zt_S) : Option (Int × zt_S) :=
  F_M_wasPlayed_2 zt_N v1 (0 : Int) σ
def F_M_could_81   (x0 : Int) (σ : zt_S) : Option (Int × zt_S) :=
  zt_ck (x0 = 0 ∨ x0 = 1) <| some (x0, σ)
def F_M_could_80    (σ : zt_S) : Option (Int × zt_S) :=
  F_M_could_81 (0 : Int) σ
def F_M_could_27   (v1 : Int) (v2 : Int) (x0 : Int) (σ : zt_S) : Option (Int × zt_S) :=
  zt_bd (F_M_fails x0 (1 : Int) σ) fun a4 s5 =>
  zt_ck (zt_in a4) <| if a4 = (0 : Int) then
    zt_bd (F_M_heldBy 164 274 v1 s5) fun a6 s7 =>
    zt_ck (zt_in a6) <| if (0 : Int) < a6 then
      zt_bd (F_M_wasPlayed v2 s7) fun a8 s9 =>
      zt_ck (zt_in a8) <| if a8 = (0 : Int) then
        zt_bd (F_M_suitOf v2 s9) fun a10 s11 =>
        zt_ck (0 ≤ (((24 : Int) + ((4 : Int) * v1)) + a10) ∧ (((24 : Int) + ((4 : Int) * v1)) + a10) < ((274 : Nat) : Int)) <| zt_ck (zt_in (s11.1 164 (((24 : Int) + ((4 : Int) * v1)) + a10))) <| if (s11.1 164 (((24 : Int) + ((4 : Int) * v1)) + a10)) = (0 : Int) then
          F_M_could_81 (1 : Int) s11
        else
          F_M_could_80 s11
      else
        F_M_could_80 s9
    else
      F_M_could_80 s7
  else
    some ((0 : Int), s5)
def F_M_could_26   (v1 : Int) (v2 : Int) (σ : zt_S) : Option (Int × zt_S) :=
  F_M_could_27 v1 v2 (0 : Int) σ
def F_M_could  (v1 : Int) (v2 : Int) (σ : zt_S) : Option (Int × zt_S) :=
  zt_let (zt_up σ 163 0 (0 : Int)) fun s1 =>
  zt_bd (F_M_isPlayer v1 s1) fun a2 s3 =>
  zt_ck (zt_in a2) <| if a2 = (0 : Int) then
    F_M_could_26 v1 v2 s3
  else
    zt_bd (F_M_isCard v2 s3) fun a12 s13 =>
    zt_ck (zt_in a12) <| if a12 = (0 : Int) then
      F_M_could_26 v1 v2 s13
    else
      F_M_could_27 v1 v2 (1 : Int) s13
def F_M_unseen_44   (x0 : Int) (σ : zt_S) : Option (Int × zt_S) :=
  some (x0, σ)
def F_M_unseen  (v1 : Int) (σ : zt_S) : Option (Int × zt_S) :=
  zt_let (zt_up σ 163 0 (0 : Int)) fun s1 =>
  zt_bd (F_M_isPlayer v1 s1) fun a2 s3 =>
  zt_bd (F_M_fails a2 (1 : Int) s3) fun a4 s5 =>
  zt_ck (zt_in a4) <| if a4 = (0 : Int) then
    zt_bd (F_M_cards s5) fun a6 s7 =>
    zt_bd (F_M_heldBy 164 274 v1 s7) fun a8 s9 =>
    F_M_unseen_44 ((a6 - (s7.1 164 (12 : Int))) - a8) s9
  else
    F_M_unseen_44 (0 : Int) s5
def F_M_isMasterOf_69    (σ : zt_S) : Option (Int × zt_S) :=
  some ((0 : Int), σ)
def F_M_isMasterOf_71  (r20 : Int → Int → Int → Int → zt_S → Option (Int × zt_S)) (v1 : Int) (v2 : Int) (v3 : Int) (v4 : Int) (σ : zt_S) : Option (Int × zt_S) :=
  r20 v1 v2 v3 (v4 + (1 : Int)) σ
def F_M_isMasterOf_20   : Nat → Int → Int → Int → Int → zt_S → Option (Int × zt_S)
  | 0, _, _, _, _, _ => none
  | n + 1, v1, v2, v3, v4, σ =>
  zt_bd (F_M_cards σ) fun a7 s8 =>
  zt_ck (zt_in v4 ∧ zt_in a7) <| if v4 < a7 then
    zt_ck (zt_in v2) <| if v2 = (-1 : Int) then
      F_M_isMasterOf_69 s8
    else
      zt_bd (F_M_holderOf v4 s8) fun a9 s10 =>
      zt_ck (zt_in a9) <| if a9 = (-1 : Int) then
        F_M_isMasterOf_71 (F_M_isMasterOf_20 n) v1 v2 v3 v4 s10
      else
        zt_bd (F_M_holderOf v4 s10) fun a11 s12 =>
        zt_ck (zt_in a11 ∧ zt_in v2) <| if a11 = v2 then
          F_M_isMasterOf_71 (F_M_isMasterOf_20 n) v1 v2 v3 v4 s12
        else
          zt_bd (F_M_suitOf v1 s12) fun a13 s14 =>
          zt_bd (F_M_powerWith v4 a13 s14) fun a15 s16 =>
          zt_ck (zt_in a15 ∧ zt_in v3) <| if a15 < v3 then
            F_M_isMasterOf_71 (F_M_isMasterOf_20 n) v1 v2 v3 v4 s16
          else
            F_M_isMasterOf_69 s16
  else
    some ((1 : Int), s8)
def F_M_isMasterOf  (v1 : Int) (σ : zt_S) : Option (Int × zt_S) :=
  zt_bd (F_M_holderOf v1 σ) fun a1 s2 =>
  zt_bd (F_M_suitOf v1 s2) fun a3 s4 =>
  zt_bd (F_M_powerWith v1 a3 s4) fun a5 s6 =>
  F_M_isMasterOf_20 zt_N v1 a1 a5 (0 : Int) s6
def F_M_isMaster_31   (x0 : Int) (σ : zt_S) : Option (Int × zt_S) :=
  zt_ck (x0 = 0 ∨ x0 = 1) <| some (x0, σ)
def F_M_isMaster_30    (σ : zt_S) : Option (Int × zt_S) :=
  F_M_isMaster_31 (0 : Int) σ
def F_M_isMaster  (v1 : Int) (σ : zt_S) : Option (Int × zt_S) :=
  zt_let (zt_up σ 163 0 (0 : Int)) fun s1 =>
  zt_bd (F_M_isCard v1 s1) fun a2 s3 =>
  zt_bd (F_M_fails a2 (1 : Int) s3) fun a4 s5 =>
  zt_ck (zt_in a4) <| if a4 = (0 : Int) then
    zt_bd (F_M_isMasterOf v1 s5) fun a6 s7 =>
    zt_ck (zt_in a6) <| if a6 = (0 : Int) then
      F_M_isMaster_30 s7
    else
      F_M_isMaster_31 (1 : Int) s7
  else
    F_M_isMaster_30 s5
def F_M_masters_55  (r24 : Int → Int → Int → zt_S → Option (Int × zt_S)) (v1 : Int) (v3 : Int) (x0 : Int) (x1 : Int) (σ : zt_S) : Option (Int × zt_S) :=
  r24 v1 (x1 + x0) (v3 + (1 : Int)) σ
def F_M_masters_54  (r24 : Int → Int → Int → zt_S → Option (Int × zt_S)) (v1 : Int) (v3 : Int) (x0 : Int) (σ : zt_S) : Option (Int × zt_S) :=
  F_M_masters_55 r24 v1 v3 (0 : Int) x0 σ
def F_M_masters_24   : Nat → Int → Int → Int → zt_S → Option (Int × zt_S)
  | 0, _, _, _, _ => none
  | n + 1, v1, v2, v3, σ =>
  zt_bd (F_M_cards σ) fun a6 s7 =>
  zt_ck (zt_in v3 ∧ zt_in a6) <| if v3 < a6 then
    zt_bd (F_M_holderOf v3 s7) fun a8 s9 =>
    zt_ck (zt_in a8 ∧ zt_in v1) <| if a8 = v1 then
      zt_bd (F_M_isMasterOf v3 s9) fun a10 s11 =>
      zt_ck (zt_in a10) <| if a10 = (0 : Int) then
        F_M_masters_54 (F_M_masters_24 n) v1 v3 v2 s11
      else
        F_M_masters_55 (F_M_masters_24 n) v1 v3 (1 : Int) v2 s11
    else
      F_M_masters_54 (F_M_masters_24 n) v1 v3 v2 s9
  else
    some (v2, s7)
def F_M_masters  (v1 : Int) (σ : zt_S) : Option (Int × zt_S) :=
  zt_let (zt_up σ 163 0 (0 : Int)) fun s1 =>
  zt_bd (F_M_isPlayer v1 s1) fun a2 s3 =>
  zt_bd (F_M_fails a2 (1 : Int) s3) fun a4 s5 =>
  zt_ck (zt_in a4) <| if a4 = (0 : Int) then
    F_M_masters_24 zt_N v1 (0 : Int) (0 : Int) s5
  else
    some ((0 : Int), s5)
def F_M_darkIn_56   (x0 : Int) (σ : zt_S) : Option (Int × zt_S) :=
  some (x0, σ)
def F_M_darkIn   (σ : zt_S) : Option (Int × zt_S) :=
  zt_let (zt_up σ 163 0 (0 : Int)) fun s1 =>
  zt_ck (zt_in (s1.1 164 (11 : Int))) <| if (s1.1 164 (11 : Int)) = (0 : Int) then
    some ((0 : Int), s1)
  else
    zt_ck (zt_in (s1.1 164 (6 : Int))) <| if (s1.1 164 (6 : Int)) = (0 : Int) then
      F_M_darkIn_56 (-1 : Int) s1
    else
      zt_ck ((0 ≤ (((s1.1 164 (11 : Int)) + (s1.1 164 (6 : Int))) - (1 : Int)) ∧ (((s1.1 164 (11 : Int)) + (s1.1 164 (6 : Int))) - (1 : Int)) < 2147483648) ∧ (0 < (s1.1 164 (6 : Int)) ∧ (s1.1 164 (6 : Int)) < 2147483648)) <| F_M_darkIn_56 ((((s1.1 164 (11 : Int)) + (s1.1 164 (6 : Int))) - (1 : Int)) / (s1.1 164 (6 : Int))) s1
def F_M_puts_113    (σ : zt_S) : Option (Unit × zt_S) :=
  some ((), σ)
def F_M_puts  (v1 : Int) (v2 : Int) (σ : zt_S) : Option (Unit × zt_S) :=
  zt_ck (0 ≤ v1 ∧ v1 < ((13 : Nat) : Int)) <| zt_let (zt_up σ 175 v1 v2) fun s1 =>
  zt_ck (0 ≤ v1 ∧ v1 < ((13 : Nat) : Int)) <| zt_let (zt_up s1 176 v1 (s1.1 164 (9 : Int))) fun s2 =>
  zt_ck (0 ≤ v1 ∧ v1 < ((13 : Nat) : Int)) <| zt_let (zt_up s2 177 v1 (s2.1 164 (10 : Int))) fun s3 =>
  zt_ck (0 ≤ v1 ∧ v1 < ((13 : Nat) : Int)) <| zt_let (zt_up s3 178 v1 (s3.1 164 (11 : Int))) fun s4 =>
  zt_ck (0 ≤ v1 ∧ v1 < ((13 : Nat) : Int)) <| zt_let (zt_up s4 179 v1 (s4.1 164 (13 : Int))) fun s5 =>
  zt_ck (0 ≤ ((40 : Int) + v2) ∧ ((40 : Int) + v2) < ((274 : Nat) : Int)) <| zt_let (zt_up s5 164 ((40 : Int) + v2) (-1 : Int)) fun s6 =>
  zt_ck (0 ≤ ((92 : Int) + (s6.1 164 (12 : Int))) ∧ ((92 : Int) + (s6.1 164 (12 : Int))) < ((274 : Nat) : Int)) <| zt_let (zt_up s6 164 ((92 : Int) + (s6.1 164 (12 : Int))) v2) fun s7 =>
  zt_let (zt_up s7 164 (12 : Int) ((s7.1 164 (12 : Int)) + (1 : Int))) fun s8 =>
  zt_bd (F_M_inTrick s8) fun a9 s10 =>
  zt_ck (zt_in a9 ∧ zt_in (s10.1 164 (1 : Int))) <| if a9 = (s10.1 164 (1 : Int)) then
    zt_bd (F_M_endsTrick s10) fun _ s12 =>
    F_M_puts_113 s12
  else
    F_M_puts_113 s10
def F_M_gains_44   (x0 : Int) (σ : zt_S) : Option (Int × zt_S) :=
  some (x0, σ)
def F_M_gains_43    (σ : zt_S) : Option (Int × zt_S) :=
  F_M_gains_44 (0 : Int) σ
def F_M_gains  (v1 : Int) (σ : zt_S) : Option (Int × zt_S) :=
  zt_ck (0 ≤ v1 ∧ v1 < ((13 : Nat) : Int)) <| zt_ck (zt_in (σ.1 164 (13 : Int)) ∧ zt_in (σ.1 179 v1)) <| if (σ.1 179 v1) < (σ.1 164 (13 : Int)) then
    zt_ck (0 ≤ v1 ∧ v1 < ((13 : Nat) : Int)) <| zt_bd (F_M_trickCell (σ.1 179 v1) (1 : Int) σ) fun a1 s2 =>
    zt_ck (0 ≤ a1 ∧ a1 < ((274 : Nat) : Int)) <| zt_ck (zt_in (s2.1 164 a1) ∧ zt_in (s2.1 163 28)) <| if (s2.1 164 a1) = (s2.1 163 28) then
      F_M_gains_44 (1 : Int) s2
    else
      F_M_gains_43 s2
  else
    F_M_gains_43 σ
def F_M_takesBack  (v1 : Int) (v2 : Int) (σ : zt_S) : Option (Int × zt_S) :=
  zt_bd (F_M_gains v1 σ) fun a1 s2 =>
  zt_ck (0 ≤ v1 ∧ v1 < ((13 : Nat) : Int)) <| zt_let (zt_up s2 164 (9 : Int) (s2.1 176 v1)) fun s3 =>
  zt_ck (0 ≤ v1 ∧ v1 < ((13 : Nat) : Int)) <| zt_let (zt_up s3 164 (10 : Int) (s3.1 177 v1)) fun s4 =>
  zt_ck (0 ≤ v1 ∧ v1 < ((13 : Nat) : Int)) <| zt_let (zt_up s4 164 (11 : Int) (s4.1 178 v1)) fun s5 =>
  zt_ck (0 ≤ v1 ∧ v1 < ((13 : Nat) : Int)) <| zt_let (zt_up s5 164 (13 : Int) (s5.1 179 v1)) fun s6 =>
  zt_let (zt_up s6 164 (12 : Int) ((s6.1 164 (12 : Int)) - (1 : Int))) fun s7 =>
  zt_ck (0 ≤ v1 ∧ v1 < ((13 : Nat) : Int)) <| zt_ck (0 ≤ ((40 : Int) + (s7.1 175 v1)) ∧ ((40 : Int) + (s7.1 175 v1)) < ((274 : Nat) : Int)) <| zt_let (zt_up s7 164 ((40 : Int) + (s7.1 175 v1)) v2) fun s8 =>
  some (a1, s8)
def F_M_weighs_162    (σ : zt_S) : Option (Unit × zt_S) :=
  some ((), σ)
def F_M_weighs_147   (v1 : Int) (x0 : Int) (σ : zt_S) : Option (Unit × zt_S) :=
  zt_ck (zt_in x0) <| if x0 = (0 : Int) then
    F_M_weighs_162 σ
  else
    zt_bd (F_M_cards σ) fun a3 s4 =>
    zt_ck (0 ≤ v1 ∧ v1 < ((13 : Nat) : Int)) <| zt_let (zt_up s4 173 v1 a3) fun s5 =>
    F_M_weighs_162 s5
def F_M_weighs_142   (v1 : Int) (σ : zt_S) : Option (Unit × zt_S) :=
  F_M_weighs_147 v1 (1 : Int) σ
def F_M_weighs_110   (v1 : Int) (σ : zt_S) : Option (Unit × zt_S) :=
  F_M_weighs_147 v1 (1 : Int) σ
def F_M_weighs_63   (v1 : Int) (σ : zt_S) : Option (Unit × zt_S) :=
  zt_ck (0 ≤ v1 ∧ v1 < ((13 : Nat) : Int)) <| zt_ck (zt_in (σ.1 172 v1)) <| if (σ.1 172 v1) = (0 : Int) then
    zt_ck (0 ≤ v1 ∧ v1 < ((13 : Nat) : Int)) <| zt_ck (0 ≤ v1 ∧ v1 < ((13 : Nat) : Int)) <| zt_ck (zt_in (σ.1 174 v1) ∧ zt_in (σ.1 170 v1)) <| if (σ.1 170 v1) < (σ.1 174 v1) then
      zt_ck (0 ≤ v1 ∧ v1 < ((13 : Nat) : Int)) <| zt_ck (zt_in (σ.1 174 v1)) <| if (σ.1 174 v1) = (0 : Int) then
        F_M_weighs_142 v1 σ
      else
        F_M_weighs_147 v1 (0 : Int) σ
    else
      F_M_weighs_142 v1 σ
  else
    zt_ck (0 ≤ v1 ∧ v1 < ((13 : Nat) : Int)) <| zt_ck (0 ≤ v1 ∧ v1 < ((13 : Nat) : Int)) <| zt_ck (zt_in (σ.1 174 v1) ∧ zt_in (σ.1 171 v1)) <| if (σ.1 174 v1) < (σ.1 171 v1) then
      zt_ck (0 ≤ v1 ∧ v1 < ((13 : Nat) : Int)) <| zt_ck (zt_in (σ.1 174 v1) ∧ zt_in ((σ.1 164 (2 : Int)) - (σ.1 164 (13 : Int)))) <| if (σ.1 174 v1) = ((σ.1 164 (2 : Int)) - (σ.1 164 (13 : Int))) then
        F_M_weighs_110 v1 σ
      else
        F_M_weighs_147 v1 (0 : Int) σ
    else
      F_M_weighs_110 v1 σ
def F_M_weighs_42   (v1 : Int) (v2 : Int) (σ : zt_S) : Option (Unit × zt_S) :=
  zt_ck (0 ≤ v1 ∧ v1 < ((13 : Nat) : Int)) <| zt_let (zt_up σ 174 v1 v2) fun s1 =>
  zt_ck (zt_in v1) <| if v1 = (0 : Int) then
    zt_let (zt_up s1 163 29 (s1.1 175 (0 : Int))) fun s2 =>
    F_M_weighs_63 v1 s2
  else
    F_M_weighs_63 v1 s1
def F_M_weighs  (v1 : Int) (v2 : Int) (σ : zt_S) : Option (Unit × zt_S) :=
  zt_ck (0 ≤ v1 ∧ v1 < ((13 : Nat) : Int)) <| zt_ck (zt_in (σ.1 174 v1)) <| if (σ.1 174 v1) = (-1 : Int) then
    F_M_weighs_42 v1 v2 σ
  else
    zt_ck (0 ≤ v1 ∧ v1 < ((13 : Nat) : Int)) <| zt_ck (zt_in (σ.1 172 v1)) <| if (σ.1 172 v1) = (0 : Int) then
      zt_ck (0 ≤ v1 ∧ v1 < ((13 : Nat) : Int)) <| zt_ck (zt_in v2 ∧ zt_in (σ.1 174 v1)) <| if v2 < (σ.1 174 v1) then
        F_M_weighs_42 v1 v2 σ
      else
        F_M_weighs_63 v1 σ
    else
      zt_ck (0 ≤ v1 ∧ v1 < ((13 : Nat) : Int)) <| zt_ck (zt_in v2 ∧ zt_in (σ.1 174 v1)) <| if (σ.1 174 v1) < v2 then
        F_M_weighs_42 v1 v2 σ
      else
        F_M_weighs_63 v1 σ
def F_M_opens_49   (x0 : Int) (x1 : Int) (σ : zt_S) : Option (Unit × zt_S) :=
  zt_ck ((0 ≤ x1 ∧ x1 < ((13 : Nat) : Int)) ∧ (x0 = 0 ∨ x0 = 1)) <| zt_let (zt_up σ 172 x1 x0) fun s7 =>
  some ((), s7)
def F_M_opens  (v1 : Int) (v2 : Int) (v3 : Int) (σ : zt_S) : Option (Unit × zt_S) :=
  zt_ck (0 ≤ v1 ∧ v1 < ((13 : Nat) : Int)) <| zt_let (zt_up σ 173 v1 (0 : Int)) fun s1 =>
  zt_ck (0 ≤ v1 ∧ v1 < ((13 : Nat) : Int)) <| zt_let (zt_up s1 174 v1 (-1 : Int)) fun s2 =>
  zt_ck (0 ≤ v1 ∧ v1 < ((13 : Nat) : Int)) <| zt_let (zt_up s2 170 v1 v2) fun s3 =>
  zt_ck (0 ≤ v1 ∧ v1 < ((13 : Nat) : Int)) <| zt_let (zt_up s3 171 v1 v3) fun s4 =>
  zt_bd (F_M_turn s4) fun a5 s6 =>
  zt_ck (zt_in a5 ∧ zt_in (s6.1 163 28)) <| if a5 = (s6.1 163 28) then
    F_M_opens_49 (1 : Int) v1 s6
  else
    F_M_opens_49 (0 : Int) v1 s6
def F_M_deepens_78   (v1 : Int) (v2 : Int) (v4 : Int) (x0 : Int) (σ : zt_S) : Option (Unit × zt_S) :=
  zt_bd (F_M_opens (v1 + (1 : Int)) (v4 - v2) (x0 - v2) σ) fun _ s4 =>
  some ((), s4)
def F_M_deepens_72   (v1 : Int) (v2 : Int) (v4 : Int) (σ : zt_S) : Option (Unit × zt_S) :=
  zt_ck (0 ≤ v1 ∧ v1 < ((13 : Nat) : Int)) <| F_M_deepens_78 v1 v2 v4 (σ.1 171 v1) σ
def F_M_deepens_42   (v1 : Int) (v2 : Int) (v3 : Int) (x0 : Int) (σ : zt_S) : Option (Unit × zt_S) :=
  zt_ck (0 ≤ v1 ∧ v1 < ((13 : Nat) : Int)) <| zt_ck (zt_in (σ.1 172 v1)) <| if (σ.1 172 v1) = (0 : Int) then
    zt_ck (zt_in v3) <| if v3 = (-1 : Int) then
      F_M_deepens_72 v1 v2 x0 σ
    else
      zt_ck (0 ≤ v1 ∧ v1 < ((13 : Nat) : Int)) <| zt_ck (zt_in v3 ∧ zt_in (σ.1 171 v1)) <| if v3 < (σ.1 171 v1) then
        F_M_deepens_78 v1 v2 x0 v3 σ
      else
        F_M_deepens_72 v1 v2 x0 σ
  else
    F_M_deepens_72 v1 v2 x0 σ
def F_M_deepens_36   (v1 : Int) (v2 : Int) (v3 : Int) (σ : zt_S) : Option (Unit × zt_S) :=
  zt_ck (0 ≤ v1 ∧ v1 < ((13 : Nat) : Int)) <| F_M_deepens_42 v1 v2 v3 (σ.1 170 v1) σ
def F_M_deepens  (v1 : Int) (σ : zt_S) : Option (Unit × zt_S) :=
  zt_bd (F_M_gains v1 σ) fun a1 s2 =>
  zt_ck (0 ≤ v1 ∧ v1 < ((13 : Nat) : Int)) <| zt_ck (0 ≤ v1 ∧ v1 < ((13 : Nat) : Int)) <| zt_ck (zt_in (s2.1 172 v1)) <| if (s2.1 172 v1) = (0 : Int) then
    F_M_deepens_36 v1 a1 (s2.1 174 v1) s2
  else
    zt_ck (0 ≤ v1 ∧ v1 < ((13 : Nat) : Int)) <| zt_ck (zt_in (s2.1 174 v1) ∧ zt_in (s2.1 170 v1)) <| if (s2.1 170 v1) < (s2.1 174 v1) then
      F_M_deepens_42 v1 a1 (s2.1 174 v1) (s2.1 174 v1) s2
    else
      F_M_deepens_36 v1 a1 (s2.1 174 v1) s2
def F_M_nextLegal_24   (v2 : Int) (σ : zt_S) : Option (Int × zt_S) :=
  some (v2, σ)
def F_M_nextLegal_2   : Nat → Int → zt_S → Option (Int × zt_S)
  | 0, _, _ => none
  | n + 1, v2, σ =>
  zt_bd (F_M_cards σ) fun a1 s2 =>
  zt_ck (zt_in v2 ∧ zt_in a1) <| if v2 < a1 then
    zt_bd (F_M_isLegalNow v2 s2) fun a3 s4 =>
    zt_ck (zt_in a3) <| if a3 = (0 : Int) then
      F_M_nextLegal_2 n (v2 + (1 : Int)) s4
    else
      F_M_nextLegal_24 v2 s4
  else
    F_M_nextLegal_24 v2 s2
def F_M_nextLegal  (v1 : Int) (σ : zt_S) : Option (Int × zt_S) :=
  F_M_nextLegal_2 zt_N v1 σ
def F_M_backs  (v1 : Int) (v2 : Int) (σ : zt_S) : Option (Unit × zt_S) :=
  zt_ck (0 ≤ v1 ∧ v1 < ((13 : Nat) : Int)) <| zt_ck (0 ≤ v1 ∧ v1 < ((13 : Nat) : Int)) <| zt_ck ((0 ≤ ((σ.1 176 v1) + (((σ.1 164 (12 : Int)) - (1 : Int)) - ((σ.1 179 v1) * (σ.1 164 (1 : Int))))) ∧ ((σ.1 176 v1) + (((σ.1 164 (12 : Int)) - (1 : Int)) - ((σ.1 179 v1) * (σ.1 164 (1 : Int))))) < 2147483648) ∧ (0 < (σ.1 164 (1 : Int)) ∧ (σ.1 164 (1 : Int)) < 2147483648)) <| zt_let (((σ.1 176 v1) + (((σ.1 164 (12 : Int)) - (1 : Int)) - ((σ.1 179 v1) * (σ.1 164 (1 : Int))))) % (σ.1 164 (1 : Int))) fun e1 =>
  zt_bd (F_M_takesBack v1 e1 σ) fun a2 s3 =>
  zt_bd (F_M_weighs v1 (a2 + v2) s3) fun _ s5 =>
  some ((), s5)
def F_M_searches_106  (r18 : Int → zt_S → Option (Int × zt_S)) (v1 : Int) (σ : zt_S) : Option (Int × zt_S) :=
  r18 v1 σ
def F_M_searches_18   : Nat → Int → zt_S → Option (Int × zt_S)
  | 0, _, _ => none
  | n + 1, v1, σ =>
  zt_ck (0 ≤ v1 ∧ v1 < ((13 : Nat) : Int)) <| zt_bd (F_M_nextLegal (σ.1 173 v1) σ) fun a6 s7 =>
  zt_bd (F_M_cards s7) fun a8 s9 =>
  zt_ck (zt_in a6 ∧ zt_in a8) <| if a6 < a8 then
    zt_ck (0 ≤ v1 ∧ v1 < ((13 : Nat) : Int)) <| zt_let (zt_up s9 173 v1 (a6 + (1 : Int))) fun s10 =>
    zt_bd (F_M_puts v1 a6 s10) fun _ s12 =>
    zt_bd (F_M_isOver s12) fun a13 s14 =>
    zt_ck (zt_in a13) <| if a13 = (0 : Int) then
      zt_bd (F_M_deepens v1 s14) fun _ s16 =>
      F_M_searches_18 n (v1 + (1 : Int)) s16
    else
      zt_bd (F_M_backs v1 (0 : Int) s14) fun _ s18 =>
      F_M_searches_106 (F_M_searches_18 n) v1 s18
  else
    zt_ck (zt_in v1) <| if v1 = (0 : Int) then
      some ((s9.1 174 (0 : Int)), s9)
    else
      zt_ck (0 ≤ ((v1 + (-1 : Int)) + (1 : Int)) ∧ ((v1 + (-1 : Int)) + (1 : Int)) < ((13 : Nat) : Int)) <| zt_bd (F_M_backs (v1 + (-1 : Int)) (s9.1 174 ((v1 + (-1 : Int)) + (1 : Int))) s9) fun _ s20 =>
      F_M_searches_106 (F_M_searches_18 n) (v1 + (-1 : Int)) s20
def F_M_searches   (σ : zt_S) : Option (Int × zt_S) :=
  zt_bd (F_M_turn σ) fun a1 s2 =>
  zt_let (zt_up s2 163 28 a1) fun s3 =>
  zt_bd (F_M_opens (0 : Int) (-1 : Int) (100 : Int) s3) fun _ s5 =>
  F_M_searches_18 zt_N (0 : Int) s5
def F_M_inHands   (σ : zt_S) : Option (Int × zt_S) :=
  some ((((σ.1 164 (1 : Int)) * (σ.1 164 (2 : Int))) - (σ.1 164 (12 : Int))), σ)
def F_M_sure_29   (x0 : Int) (σ : zt_S) : Option (Int × zt_S) :=
  some (x0, σ)
def F_M_sure_21    (σ : zt_S) : Option (Int × zt_S) :=
  F_M_sure_29 (-1 : Int) σ
def F_M_sure   (σ : zt_S) : Option (Int × zt_S) :=
  zt_let (zt_up σ 163 0 (0 : Int)) fun s1 =>
  zt_bd (F_M_isOver s1) fun a2 s3 =>
  zt_ck (zt_in a2) <| if a2 = (0 : Int) then
    zt_bd (F_M_inHands s3) fun a4 s5 =>
    zt_ck (zt_in a4) <| if (12 : Int) < a4 then
      F_M_sure_21 s5
    else
      zt_bd (F_M_searches s5) fun a6 s7 =>
      F_M_sure_29 a6 s7
  else
    F_M_sure_21 s3
def F_M_sureCard_21    (σ : zt_S) : Option (Int × zt_S) :=
  some ((-1 : Int), σ)
def F_M_sureCard   (σ : zt_S) : Option (Int × zt_S) :=
  zt_let (zt_up σ 163 0 (0 : Int)) fun s1 =>
  zt_bd (F_M_isOver s1) fun a2 s3 =>
  zt_ck (zt_in a2) <| if a2 = (0 : Int) then
    zt_bd (F_M_inHands s3) fun a4 s5 =>
    zt_ck (zt_in a4) <| if (12 : Int) < a4 then
      F_M_sureCard_21 s5
    else
      zt_bd (F_M_searches s5) fun a6 s7 =>
      some ((s7.1 163 29), s7)
  else
    F_M_sureCard_21 s3
def F_M_meanRank_51  (r24 : Int → Int → Int → zt_S → Option (UInt64 × zt_S)) (v1 : Int) (v3 : Int) (x0 : Int) (x1 : Int) (σ : zt_S) : Option (UInt64 × zt_S) :=
  r24 v1 (x1 + x0) (v3 + (1 : Int)) σ
def F_M_meanRank_88   (x0 : UInt64) (σ : zt_S) : Option (UInt64 × zt_S) :=
  some (x0, σ)
def F_M_meanRank_59   (v1 : Int) (v2 : Int) (σ : zt_S) : Option (UInt64 × zt_S) :=
  zt_bd (F_M_heldBy 164 274 v1 σ) fun a12 s13 =>
  zt_ck (zt_in a12) <| if a12 = (0 : Int) then
    F_M_meanRank_88 FP.dconst0 s13
  else
    zt_bd (F_M_heldBy 164 274 v1 s13) fun a14 s15 =>
    zt_ck ((FP.ddiv (zt_id v2) (zt_id a14)) &&& 0x7fffffffffffffff ≤ 0x7ff0000000000000) <| F_M_meanRank_88 (FP.ddiv (zt_id v2) (zt_id a14)) s15
def F_M_meanRank_24   : Nat → Int → Int → Int → zt_S → Option (UInt64 × zt_S)
  | 0, _, _, _, _ => none
  | n + 1, v1, v2, v3, σ =>
  zt_bd (F_M_cards σ) fun a6 s7 =>
  zt_ck (zt_in v3 ∧ zt_in a6) <| if v3 < a6 then
    zt_bd (F_M_holderOf v3 s7) fun a8 s9 =>
    zt_ck (zt_in a8 ∧ zt_in v1) <| if a8 = v1 then
      zt_bd (F_M_rankOf v3 s9) fun a10 s11 =>
      F_M_meanRank_51 (F_M_meanRank_24 n) v1 v3 a10 v2 s11
    else
      F_M_meanRank_51 (F_M_meanRank_24 n) v1 v3 (0 : Int) v2 s9
  else
    F_M_meanRank_59 v1 v2 s7
def F_M_meanRank  (v1 : Int) (σ : zt_S) : Option (UInt64 × zt_S) :=
  zt_let (zt_up σ 163 0 (0 : Int)) fun s1 =>
  zt_bd (F_M_isPlayer v1 s1) fun a2 s3 =>
  zt_bd (F_M_fails a2 (1 : Int) s3) fun a4 s5 =>
  zt_ck (zt_in a4) <| if a4 = (0 : Int) then
    F_M_meanRank_24 zt_N v1 (0 : Int) (0 : Int) s5
  else
    some (FP.dconst0, s5)
def F_M_share_49   (x0 : UInt32) (σ : zt_S) : Option (UInt32 × zt_S) :=
  some (x0, σ)
def F_M_share  (v1 : Int) (σ : zt_S) : Option (UInt32 × zt_S) :=
  zt_let (zt_up σ 163 0 (0 : Int)) fun s1 =>
  zt_bd (F_M_isPlayer v1 s1) fun a2 s3 =>
  zt_bd (F_M_fails a2 (1 : Int) s3) fun a4 s5 =>
  zt_ck (zt_in a4) <| if a4 = (0 : Int) then
    zt_ck (zt_in (s5.1 164 (13 : Int))) <| if (s5.1 164 (13 : Int)) = (0 : Int) then
      F_M_share_49 FP.fconst0 s5
    else
      zt_bd (F_M_tricksOf v1 s5) fun a6 s7 =>
      zt_ck ((FP.fdiv (zt_if a6) (zt_if (s7.1 164 (13 : Int)))) &&& 0x7fffffff ≤ 0x7f800000) <| F_M_share_49 (FP.fdiv (zt_if a6) (zt_if (s7.1 164 (13 : Int)))) s7
  else
    some (FP.fconst0, s5)
def F_M_keeps_58    (σ : zt_S) : Option (Unit × zt_S) :=
  zt_bd (F_M_copies 164 274 167 2740 (0 : Int) ((274 : Int) * (σ.1 163 5)) σ) fun _ s5 =>
  zt_let (zt_up s5 163 5 ((s5.1 163 5) + (1 : Int))) fun s6 =>
  some ((), s6)
def F_M_keeps_21   : Nat → Int → zt_S → Option (Unit × zt_S)
  | 0, _, _ => none
  | n + 1, v1, σ =>
  zt_ck (zt_in v1 ∧ zt_in (σ.1 163 5)) <| if v1 < (σ.1 163 5) then
    zt_bd (F_M_copies 167 2740 167 2740 ((274 : Int) * (v1 + (1 : Int))) ((274 : Int) * v1) σ) fun _ s3 =>
    F_M_keeps_21 n (v1 + (1 : Int)) s3
  else
    F_M_keeps_58 σ
def F_M_keeps   (σ : zt_S) : Option (Unit × zt_S) :=
  zt_ck (zt_in (σ.1 163 5)) <| if (σ.1 163 5) = (10 : Int) then
    zt_let (zt_up σ 163 5 ((σ.1 163 5) - (1 : Int))) fun s1 =>
    F_M_keeps_21 zt_N (0 : Int) s1
  else
    F_M_keeps_58 σ
def F_M_play_109   (x0 : Int) (σ : zt_S) : Option (Int × zt_S) :=
  some (x0, σ)
def F_M_play  (v1 : Int) (σ : zt_S) : Option (Int × zt_S) :=
  zt_let (zt_up σ 163 0 (0 : Int)) fun s1 =>
  zt_bd (F_M_isCard v1 s1) fun a2 s3 =>
  zt_bd (F_M_fails a2 (1 : Int) s3) fun a4 s5 =>
  zt_ck (zt_in a4) <| if a4 = (0 : Int) then
    zt_bd (F_M_isOver s5) fun a6 s7 =>
    zt_ck (zt_in a6) <| if a6 = (0 : Int) then
      zt_bd (F_M_holderOf v1 s7) fun a8 s9 =>
      zt_bd (F_M_turn s9) fun a10 s11 =>
      zt_ck (zt_in a8 ∧ zt_in a10) <| if a8 = a10 then
        zt_bd (F_M_isLegalNow v1 s11) fun a12 s13 =>
        zt_ck (zt_in a12) <| if a12 = (0 : Int) then
          some ((-4 : Int), s13)
        else
          zt_bd (F_M_keeps s13) fun _ s15 =>
          zt_bd (F_M_plays v1 s15) fun _ s17 =>
          zt_bd (F_M_counts s17) fun _ s19 =>
          zt_ck (zt_in (s19.1 164 (13 : Int)) ∧ zt_in (s15.1 164 (13 : Int))) <| if (s15.1 164 (13 : Int)) < (s19.1 164 (13 : Int)) then
            F_M_play_109 (s19.1 164 (9 : Int)) s19
          else
            zt_bd (F_M_turn s19) fun a20 s21 =>
            F_M_play_109 ((s19.1 164 (1 : Int)) + a20) s21
      else
        some ((-3 : Int), s11)
    else
      some ((-2 : Int), s7)
  else
    some ((0 : Int), s5)
def F_M_autoLead_46  (r9 : Int → Int → Int → zt_S → Option (Int × zt_S)) (v1 : Int) (v2 : Int) (v3 : Int) (σ : zt_S) : Option (Int × zt_S) :=
  r9 v1 v2 (v3 + (1 : Int)) σ
def F_M_autoLead_44  (r9 : Int → Int → Int → zt_S → Option (Int × zt_S)) (v1 : Int) (v3 : Int) (σ : zt_S) : Option (Int × zt_S) :=
  F_M_autoLead_46 r9 v1 v3 v3 σ
def F_M_autoLead_9   : Nat → Int → Int → Int → zt_S → Option (Int × zt_S)
  | 0, _, _, _, _ => none
  | n + 1, v1, v2, v3, σ =>
  zt_bd (F_M_cards σ) fun a3 s4 =>
  zt_ck (zt_in v3 ∧ zt_in a3) <| if v3 < a3 then
    zt_bd (F_M_holderOf v3 s4) fun a5 s6 =>
    zt_ck (zt_in a5 ∧ zt_in v1) <| if a5 = v1 then
      zt_ck (zt_in v2) <| if v2 = (-1 : Int) then
        F_M_autoLead_44 (F_M_autoLead_9 n) v1 v3 s6
      else
        zt_bd (F_M_powerNow v3 s6) fun a7 s8 =>
        zt_bd (F_M_powerNow v2 s8) fun a9 s10 =>
        zt_ck (zt_in a7 ∧ zt_in a9) <| if a9 < a7 then
          F_M_autoLead_44 (F_M_autoLead_9 n) v1 v3 s10
        else
          F_M_autoLead_46 (F_M_autoLead_9 n) v1 v2 v3 s10
    else
      F_M_autoLead_46 (F_M_autoLead_9 n) v1 v2 v3 s6
  else
    some (v2, s4)
def F_M_autoLead   (σ : zt_S) : Option (Int × zt_S) :=
  zt_bd (F_M_turn σ) fun a1 s2 =>
  F_M_autoLead_9 zt_N a1 (-1 : Int) (0 : Int) s2
def F_M_autoFollow_48  (r4 : Int → Int → zt_S → Option (Int × zt_S)) (v1 : Int) (v2 : Int) (σ : zt_S) : Option (Int × zt_S) :=
  r4 v1 (v2 + (1 : Int)) σ
def F_M_autoFollow_46  (r4 : Int → Int → zt_S → Option (Int × zt_S)) (v2 : Int) (σ : zt_S) : Option (Int × zt_S) :=
  F_M_autoFollow_48 r4 v2 v2 σ
def F_M_autoFollow_99  (r63 : Int → Int → zt_S → Option (Int × zt_S)) (v1 : Int) (v2 : Int) (σ : zt_S) : Option (Int × zt_S) :=
  r63 v1 (v2 + (1 : Int)) σ
def F_M_autoFollow_97  (r63 : Int → Int → zt_S → Option (Int × zt_S)) (v2 : Int) (σ : zt_S) : Option (Int × zt_S) :=
  F_M_autoFollow_99 r63 v2 v2 σ
def F_M_autoFollow_63   : Nat → Int → Int → zt_S → Option (Int × zt_S)
  | 0, _, _, _ => none
  | n + 1, v1, v2, σ =>
  zt_bd (F_M_cards σ) fun a11 s12 =>
  zt_ck (zt_in v2 ∧ zt_in a11) <| if v2 < a11 then
    zt_bd (F_M_isLegalNow v2 s12) fun a13 s14 =>
    zt_ck (zt_in a13) <| if a13 = (0 : Int) then
      F_M_autoFollow_99 (F_M_autoFollow_63 n) v1 v2 s14
    else
      zt_ck (zt_in v1) <| if v1 = (-1 : Int) then
        F_M_autoFollow_97 (F_M_autoFollow_63 n) v2 s14
      else
        zt_bd (F_M_rankOf v2 s14) fun a15 s16 =>
        zt_bd (F_M_rankOf v1 s16) fun a17 s18 =>
        zt_ck (zt_in a15 ∧ zt_in a17) <| if a15 < a17 then
          F_M_autoFollow_97 (F_M_autoFollow_63 n) v2 s18
        else
          F_M_autoFollow_99 (F_M_autoFollow_63 n) v1 v2 s18
  else
    some (v1, s12)
def F_M_autoFollow_54   (v1 : Int) (σ : zt_S) : Option (Int × zt_S) :=
  zt_ck (zt_in v1) <| if v1 = (-1 : Int) then
    F_M_autoFollow_63 zt_N v1 (0 : Int) σ
  else
    some (v1, σ)
def F_M_autoFollow_4   : Nat → Int → Int → zt_S → Option (Int × zt_S)
  | 0, _, _, _ => none
  | n + 1, v1, v2, σ =>
  zt_bd (F_M_cards σ) fun a1 s2 =>
  zt_ck (zt_in v2 ∧ zt_in a1) <| if v2 < a1 then
    zt_bd (F_M_isLegalNow v2 s2) fun a3 s4 =>
    zt_ck (zt_in a3) <| if a3 = (0 : Int) then
      F_M_autoFollow_48 (F_M_autoFollow_4 n) v1 v2 s4
    else
      zt_bd (F_M_isBetter v2 s4) fun a5 s6 =>
      zt_ck (zt_in a5) <| if a5 = (0 : Int) then
        F_M_autoFollow_48 (F_M_autoFollow_4 n) v1 v2 s6
      else
        zt_ck (zt_in v1) <| if v1 = (-1 : Int) then
          F_M_autoFollow_46 (F_M_autoFollow_4 n) v2 s6
        else
          zt_bd (F_M_powerNow v2 s6) fun a7 s8 =>
          zt_bd (F_M_powerNow v1 s8) fun a9 s10 =>
          zt_ck (zt_in a7 ∧ zt_in a9) <| if a7 < a9 then
            F_M_autoFollow_46 (F_M_autoFollow_4 n) v2 s10
          else
            F_M_autoFollow_48 (F_M_autoFollow_4 n) v1 v2 s10
  else
    F_M_autoFollow_54 v1 s2
def F_M_autoFollow   (σ : zt_S) : Option (Int × zt_S) :=
  F_M_autoFollow_4 zt_N (-1 : Int) (0 : Int) σ
def F_M_auto_71  (r40 : Int → Int → zt_S → Option (Int × zt_S)) (v1 : Int) (v2 : Int) (x0 : Int) (σ : zt_S) : Option (Int × zt_S) :=
  zt_bd (F_M_plays x0 σ) fun _ s17 =>
  zt_bd (F_M_counts s17) fun _ s19 =>
  r40 v1 (v2 + (1 : Int)) s19
def F_M_auto_84   (v2 : Int) (σ : zt_S) : Option (Int × zt_S) :=
  some (v2, σ)
def F_M_auto_40   : Nat → Int → Int → zt_S → Option (Int × zt_S)
  | 0, _, _, _ => none
  | n + 1, v1, v2, σ =>
  zt_ck (zt_in v2 ∧ zt_in v1) <| if v2 < v1 then
    zt_bd (F_M_isOver σ) fun a10 s11 =>
    zt_ck (zt_in a10) <| if a10 = (0 : Int) then
      zt_bd (F_M_inTrick s11) fun a12 s13 =>
      zt_ck (zt_in a12) <| if a12 = (0 : Int) then
        zt_bd (F_M_autoLead s13) fun a14 s15 =>
        F_M_auto_71 (F_M_auto_40 n) v1 v2 a14 s15
      else
        zt_bd (F_M_autoFollow s13) fun a20 s21 =>
        F_M_auto_71 (F_M_auto_40 n) v1 v2 a20 s21
    else
      F_M_auto_84 v2 s11
  else
    F_M_auto_84 v2 σ
def F_M_auto  (v1 : Int) (σ : zt_S) : Option (Int × zt_S) :=
  zt_let (zt_up σ 163 0 (0 : Int)) fun s1 =>
  zt_bd (F_M_in (zt_l v1) (1 : Int64) (52 : Int64) s1) fun a2 s3 =>
  zt_bd (F_M_fails a2 (1 : Int) s3) fun a4 s5 =>
  zt_ck (zt_in a4) <| if a4 = (0 : Int) then
    zt_bd (F_M_isOver s5) fun a6 s7 =>
    zt_ck (zt_in a6) <| if a6 = (0 : Int) then
      zt_bd (F_M_keeps s7) fun _ s9 =>
      F_M_auto_40 zt_N v1 (0 : Int) s9
    else
      some ((-2 : Int), s7)
  else
    some ((0 : Int), s5)
def F_M_tell_39    (σ : zt_S) : Option (Int × zt_S) :=
  some ((0 : Int), σ)
def F_M_tell  (v1 : Int) (v2 : Int) (σ : zt_S) : Option (Int × zt_S) :=
  zt_let (zt_up σ 163 0 (0 : Int)) fun s1 =>
  zt_bd (F_M_isPlayer v1 s1) fun a2 s3 =>
  zt_bd (F_M_fails a2 (1 : Int) s3) fun a4 s5 =>
  zt_ck (zt_in a4) <| if a4 = (0 : Int) then
    zt_bd (F_M_in (zt_l v2) (0 : Int64) (zt_l (s5.1 164 (2 : Int))) s5) fun a6 s7 =>
    zt_bd (F_M_fails a6 (2 : Int) s7) fun a8 s9 =>
    zt_ck (zt_in a8) <| if a8 = (0 : Int) then
      zt_ck (zt_in (s9.1 164 (12 : Int))) <| if (0 : Int) < (s9.1 164 (12 : Int)) then
        some ((-2 : Int), s9)
      else
        zt_bd (F_M_keeps s9) fun _ s11 =>
        zt_ck (0 ≤ ((16 : Int) + v1) ∧ ((16 : Int) + v1) < ((274 : Nat) : Int)) <| zt_ck (0 ≤ ((16 : Int) + v1) ∧ ((16 : Int) + v1) < ((274 : Nat) : Int)) <| zt_let (zt_up s11 164 ((16 : Int) + v1) v2) fun s12 =>
        some (((s11.1 164 ((16 : Int) + v1)) + (1 : Int)), s12)
    else
      F_M_tell_39 s9
  else
    F_M_tell_39 s5
def F_M_deal  (v1 : Int) (σ : zt_S) : Option (Int × zt_S) :=
  zt_let (zt_up σ 163 0 (0 : Int)) fun s1 =>
  zt_bd (F_M_in (zt_l v1) (0 : Int64) (99999 : Int64) s1) fun a2 s3 =>
  zt_bd (F_M_fails a2 (1 : Int) s3) fun a4 s5 =>
  zt_ck (zt_in a4) <| if a4 = (0 : Int) then
    zt_bd (F_M_isOver s5) fun a6 s7 =>
    zt_ck (zt_in a6) <| if a6 = (0 : Int) then
      some ((-2 : Int), s7)
    else
      zt_bd (F_M_keeps s7) fun _ s9 =>
      zt_ck ((0 ≤ ((s9.1 164 (8 : Int)) + (1 : Int)) ∧ ((s9.1 164 (8 : Int)) + (1 : Int)) < 2147483648) ∧ (0 < (s9.1 164 (1 : Int)) ∧ (s9.1 164 (1 : Int)) < 2147483648)) <| zt_let (zt_up s9 164 (8 : Int) (((s9.1 164 (8 : Int)) + (1 : Int)) % (s9.1 164 (1 : Int)))) fun s10 =>
      zt_bd (F_M_starts0 164 274 s10) fun _ s12 =>
      zt_bd (F_M_deals 164 274 v1 s12) fun _ s14 =>
      some ((s14.1 164 (9 : Int)), s14)
  else
    some ((0 : Int), s5)
def F_M_setTrump  (v1 : Int) (σ : zt_S) : Option (Int × zt_S) :=
  zt_let (zt_up σ 163 0 (0 : Int)) fun s1 =>
  zt_bd (F_M_in (zt_l v1) (-1 : Int64) (3 : Int64) s1) fun a2 s3 =>
  zt_bd (F_M_fails a2 (1 : Int) s3) fun a4 s5 =>
  zt_ck (zt_in a4) <| if a4 = (0 : Int) then
    zt_ck (zt_in (s5.1 164 (12 : Int))) <| if (0 : Int) < (s5.1 164 (12 : Int)) then
      some ((-2 : Int), s5)
    else
      zt_bd (F_M_keeps s5) fun _ s7 =>
      zt_let (zt_up s7 164 (4 : Int) v1) fun s8 =>
      zt_bd (F_M_lights 164 274 s8) fun _ s10 =>
      some (((s7.1 164 (4 : Int)) + (1 : Int)), s10)
  else
    some ((0 : Int), s5)
def F_M_sets  (v1 : Int) (v2 : Int) (σ : zt_S) : Option (Int × zt_S) :=
  zt_bd (F_M_keeps σ) fun _ s2 =>
  zt_ck (0 ≤ v1 ∧ v1 < ((274 : Nat) : Int)) <| zt_ck (0 ≤ v1 ∧ v1 < ((274 : Nat) : Int)) <| zt_let (zt_up s2 164 v1 v2) fun s3 =>
  some ((s2.1 164 v1), s3)
def F_M_setRule_42   (x0 : Int) (σ : zt_S) : Option (Int × zt_S) :=
  some (x0, σ)
def F_M_setRule  (v1 : Int) (σ : zt_S) : Option (Int × zt_S) :=
  zt_let (zt_up σ 163 0 (0 : Int)) fun s1 =>
  zt_bd (F_M_in (zt_l v1) (0 : Int64) (3 : Int64) s1) fun a2 s3 =>
  zt_bd (F_M_fails a2 (1 : Int) s3) fun a4 s5 =>
  zt_ck (zt_in a4) <| if a4 = (0 : Int) then
    zt_bd (F_M_inTrick s5) fun a6 s7 =>
    zt_ck (zt_in a6) <| if (0 : Int) < a6 then
      F_M_setRule_42 (-2 : Int) s7
    else
      zt_bd (F_M_sets (3 : Int) v1 s7) fun a8 s9 =>
      F_M_setRule_42 a8 s9
  else
    some ((0 : Int), s5)
def F_M_setFade_33   (x0 : Int) (σ : zt_S) : Option (Int × zt_S) :=
  some (x0, σ)
def F_M_setFade  (v1 : Int) (σ : zt_S) : Option (Int × zt_S) :=
  zt_let (zt_up σ 163 0 (0 : Int)) fun s1 =>
  zt_bd (F_M_in (zt_l v1) (0 : Int64) (9 : Int64) s1) fun a2 s3 =>
  zt_bd (F_M_fails a2 (1 : Int) s3) fun a4 s5 =>
  zt_ck (zt_in a4) <| if a4 = (0 : Int) then
    zt_bd (F_M_sets (6 : Int) v1 s5) fun a6 s7 =>
    F_M_setFade_33 a6 s7
  else
    F_M_setFade_33 (0 : Int) s5
def F_M_setRevive_17   (x0 : Int) (x1 : Int) (σ : zt_S) : Option (Int × zt_S) :=
  zt_bd (F_M_sets x1 x0 σ) fun a2 s3 =>
  some (a2, s3)
def F_M_setRevive  (v1 : Int) (σ : zt_S) : Option (Int × zt_S) :=
  zt_let (zt_up σ 163 0 (0 : Int)) fun s1 =>
  zt_ck (zt_in v1) <| if v1 = (0 : Int) then
    F_M_setRevive_17 (0 : Int) (7 : Int) s1
  else
    F_M_setRevive_17 (1 : Int) (7 : Int) s1
def F_M_undoCount   (σ : zt_S) : Option (Int × zt_S) :=
  zt_let (zt_up σ 163 0 (0 : Int)) fun s1 =>
  some ((s1.1 163 5), s1)
def F_M_undo   (σ : zt_S) : Option (Int × zt_S) :=
  zt_let (zt_up σ 163 0 (0 : Int)) fun s1 =>
  zt_ck (zt_in (s1.1 163 5)) <| if (s1.1 163 5) = (0 : Int) then
    some ((-1 : Int), s1)
  else
    zt_let (zt_up s1 163 5 ((s1.1 163 5) - (1 : Int))) fun s2 =>
    zt_bd (F_M_copies 167 2740 164 274 ((274 : Int) * (s2.1 163 5)) (0 : Int) s2) fun _ s4 =>
    some ((s4.1 163 5), s4)
def F_M_saveSnapshot   (σ : zt_S) : Option (Unit × zt_S) :=
  zt_let (zt_up σ 163 0 (0 : Int)) fun s1 =>
  zt_bd (F_M_copies 164 274 166 274 (0 : Int) (0 : Int) s1) fun _ s3 =>
  zt_let (zt_up s3 163 6 (1 : Int)) fun s4 =>
  some ((), s4)
def F_M_restoreSnapshot   (σ : zt_S) : Option (Int × zt_S) :=
  zt_let (zt_up σ 163 0 (0 : Int)) fun s1 =>
  zt_ck (zt_in (s1.1 163 6)) <| if (s1.1 163 6) = (0 : Int) then
    some ((0 : Int), s1)
  else
    zt_bd (F_M_copies 166 274 164 274 (0 : Int) (0 : Int) s1) fun _ s3 =>
    zt_let (zt_up s3 163 5 (0 : Int)) fun s4 =>
    some ((1 : Int), s4)
def F_M_writes  (v1 : Int) (σ : zt_S) : Option (Unit × zt_S) :=
  zt_ck (0 ≤ (σ.1 163 31) ∧ (σ.1 163 31) < ((60 : Nat) : Int)) <| zt_let (zt_up σ 180 (σ.1 163 31) v1) fun s1 =>
  zt_let (zt_up s1 163 31 ((s1.1 163 31) + (1 : Int))) fun s2 =>
  some ((), s2)
def F_M_format_132  (r27 : Int → Int → zt_S → Option (Int × zt_S)) (v1 : Int) (v2 : Int) (σ : zt_S) : Option (Int × zt_S) :=
  r27 v1 (v2 + (1 : Int)) σ
def F_M_format_117  (r27 : Int → Int → zt_S → Option (Int × zt_S)) (v1 : Int) (v2 : Int) (σ : zt_S) : Option (Int × zt_S) :=
  zt_bd (F_M_rankOf v2 σ) fun a21 s22 =>
  zt_ck (0 ≤ a21 ∧ a21 < 2147483648) <| zt_bd (F_M_writes ((48 : Int) + (a21 % (10 : Int))) s22) fun _ s24 =>
  F_M_format_132 r27 v1 v2 s24
def F_M_format_98  (r27 : Int → Int → zt_S → Option (Int × zt_S)) (v1 : Int) (v2 : Int) (x0 : Int) (σ : zt_S) : Option (Int × zt_S) :=
  zt_bd (F_M_writes x0 σ) fun _ s16 =>
  zt_bd (F_M_rankOf v2 s16) fun a17 s18 =>
  zt_ck (zt_in a17) <| if (9 : Int) < a17 then
    zt_bd (F_M_writes (49 : Int) s18) fun _ s20 =>
    F_M_format_117 r27 v1 v2 s20
  else
    F_M_format_117 r27 v1 v2 s18
def F_M_format_60  (r27 : Int → Int → zt_S → Option (Int × zt_S)) (v1 : Int) (v2 : Int) (σ : zt_S) : Option (Int × zt_S) :=
  zt_bd (F_M_suitOf v2 σ) fun a13 s14 =>
  zt_ck (zt_in a13) <| if a13 = (0 : Int) then
    F_M_format_98 r27 v1 v2 (115 : Int) s14
  else
    zt_ck (zt_in a13) <| if a13 = (1 : Int) then
      F_M_format_98 r27 v1 v2 (101 : Int) s14
    else
      zt_ck (zt_in a13) <| if a13 = (2 : Int) then
        F_M_format_98 r27 v1 v2 (105 : Int) s14
      else
        F_M_format_98 r27 v1 v2 (97 : Int) s14
def F_M_format_151    (σ : zt_S) : Option (Int × zt_S) :=
  some ((σ.1 163 31), σ)
def F_M_format_138    (σ : zt_S) : Option (Int × zt_S) :=
  zt_ck (zt_in (σ.1 163 31)) <| if (σ.1 163 31) = (0 : Int) then
    zt_bd (F_M_writes (45 : Int) σ) fun _ s26 =>
    F_M_format_151 s26
  else
    F_M_format_151 σ
def F_M_format_27   : Nat → Int → Int → zt_S → Option (Int × zt_S)
  | 0, _, _, _ => none
  | n + 1, v1, v2, σ =>
  zt_bd (F_M_cards σ) fun a7 s8 =>
  zt_ck (zt_in v2 ∧ zt_in a7) <| if v2 < a7 then
    zt_bd (F_M_holderOf v2 s8) fun a9 s10 =>
    zt_ck (zt_in a9 ∧ zt_in v1) <| if a9 = v1 then
      zt_ck (zt_in (s10.1 163 31)) <| if (0 : Int) < (s10.1 163 31) then
        zt_bd (F_M_writes (32 : Int) s10) fun _ s12 =>
        F_M_format_60 (F_M_format_27 n) v1 v2 s12
      else
        F_M_format_60 (F_M_format_27 n) v1 v2 s10
    else
      F_M_format_132 (F_M_format_27 n) v1 v2 s10
  else
    F_M_format_138 s8
def F_M_format  (v1 : Int) (σ : zt_S) : Option (Int × zt_S) :=
  zt_let (zt_up σ 163 0 (0 : Int)) fun s1 =>
  zt_bd (F_M_isPlayer v1 s1) fun a2 s3 =>
  zt_bd (F_M_fails a2 (1 : Int) s3) fun a4 s5 =>
  zt_ck (zt_in a4) <| if a4 = (0 : Int) then
    zt_let (zt_up s5 163 31 (0 : Int)) fun s6 =>
    F_M_format_27 zt_N v1 (0 : Int) s6
  else
    some ((0 : Int), s5)
def F_M_formattedByte_31   (x0 : Int) (σ : zt_S) : Option (Int × zt_S) :=
  some (x0, σ)
def F_M_formattedByte  (v1 : Int) (σ : zt_S) : Option (Int × zt_S) :=
  zt_let (zt_up σ 163 0 (0 : Int)) fun s1 =>
  zt_bd (F_M_in (zt_l v1) (0 : Int64) (zt_l ((s1.1 163 31) - (1 : Int))) s1) fun a2 s3 =>
  zt_ck (zt_in a2) <| if a2 = (0 : Int) then
    F_M_formattedByte_31 (-1 : Int) s3
  else
    zt_ck (0 ≤ v1 ∧ v1 < ((60 : Nat) : Int)) <| F_M_formattedByte_31 (s3.1 180 v1) s3
def F_M_adds  (v1 : Int) (σ : zt_S) : Option (Unit × zt_S) :=
  zt_ck (0 ≤ (σ.1 163 35) ∧ (σ.1 163 35) < ((200 : Nat) : Int)) <| zt_let (zt_up σ 181 (σ.1 163 35) v1) fun s1 =>
  zt_let (zt_up s1 163 35 ((s1.1 163 35) + (1 : Int))) fun s2 =>
  some ((), s2)
def F_M_propertyHere_101   (x0 : Int) (σ : zt_S) : Option (Int × zt_S) :=
  some (x0, σ)
def F_M_propertyHere   (σ : zt_S) : Option (Int × zt_S) :=
  zt_bd (F_M_isWord (60268 : Int64) σ) fun a1 s2 =>
  zt_ck (zt_in a1) <| if a1 = (0 : Int) then
    zt_bd (F_M_isWord (389549 : Int64) s2) fun a3 s4 =>
    zt_ck (zt_in a3) <| if a3 = (0 : Int) then
      zt_bd (F_M_isWord (355412 : Int64) s4) fun a5 s6 =>
      zt_ck (zt_in a5) <| if a5 = (0 : Int) then
        zt_bd (F_M_isWord (123002136 : Int64) s6) fun a7 s8 =>
        zt_ck (zt_in a7) <| if a7 = (0 : Int) then
          zt_bd (F_M_isWord (235997851 : Int64) s8) fun a9 s10 =>
          zt_ck (zt_in a9) <| if a9 = (0 : Int) then
            zt_bd (F_M_isWord (8815221 : Int64) s10) fun a11 s12 =>
            zt_ck (zt_in a11) <| if a11 = (0 : Int) then
              zt_bd (F_M_isWord (6480849 : Int64) s12) fun a13 s14 =>
              zt_ck (zt_in a13) <| if a13 = (0 : Int) then
                zt_bd (F_M_isWord (10998790 : Int64) s14) fun a15 s16 =>
                zt_ck (zt_in a15) <| if a15 = (0 : Int) then
                  F_M_propertyHere_101 (-1 : Int) s16
                else
                  F_M_propertyHere_101 (7 : Int) s16
              else
                some ((6 : Int), s14)
            else
              some ((5 : Int), s12)
          else
            some ((4 : Int), s10)
        else
          some ((3 : Int), s8)
      else
        some ((2 : Int), s6)
    else
      some ((1 : Int), s4)
  else
    some ((0 : Int), s2)
def F_M_valueRead   (σ : zt_S) : Option (Unit × zt_S) :=
  zt_bd (F_M_isGood σ) fun a1 s2 =>
  zt_ck (zt_in a1) <| if a1 = (0 : Int) then
    some ((), s2)
  else
    zt_ck (zt_in (s2.1 163 13)) <| if (s2.1 163 13) = (2 : Int) then
      zt_bd (F_M_number (0 : Int) (9999 : Int) s2) fun a3 s4 =>
      zt_bd (F_M_adds ((100 : Int) + a3) s4) fun _ s6 =>
      some ((), s6)
    else
      zt_bd (F_M_propertyHere s2) fun a7 s8 =>
      zt_ck (zt_in a7) <| if a7 = (-1 : Int) then
        zt_bd (F_M_wrongs (1 : Int) s8) fun a9 s10 =>
        some ((), s10)
      else
        zt_bd (F_M_adds a7 s8) fun _ s12 =>
        zt_bd (F_M_next s12) fun _ s14 =>
        some ((), s14)
def F_M_goesIn  (v1 : Int) (σ : zt_S) : Option (Int × zt_S) :=
  zt_ck (zt_in (σ.1 163 37)) <| if (σ.1 163 37) = (6 : Int) then
    zt_bd (F_M_wrongs (3 : Int) σ) fun a1 s2 =>
    zt_ck (a1 = 0 ∨ a1 = 1) <| some (a1, s2)
  else
    zt_let (zt_up σ 163 37 ((σ.1 163 37) + (1 : Int))) fun s3 =>
    zt_ck (0 ≤ (s3.1 163 36) ∧ (s3.1 163 36) < ((200 : Nat) : Int)) <| zt_let (zt_up s3 182 (s3.1 163 36) v1) fun s4 =>
    zt_let (zt_up s4 163 36 ((s4.1 163 36) + (1 : Int))) fun s5 =>
    zt_bd (F_M_next s5) fun _ s7 =>
    some ((1 : Int), s7)
def F_M_strength_31   (x0 : Int) (σ : zt_S) : Option (Int × zt_S) :=
  some (x0, σ)
def F_M_strength  (v0 : Int) (σ : zt_S) : Option (Int × zt_S) :=
  zt_ck (zt_in v0) <| if v0 = (25 : Int) then
    F_M_strength_31 (1 : Int) σ
  else
    zt_ck (zt_in v0) <| if v0 = (24 : Int) then
      F_M_strength_31 (2 : Int) σ
    else
      zt_ck (zt_in v0) <| if v0 = (23 : Int) then
        F_M_strength_31 (3 : Int) σ
      else
        F_M_strength_31 (0 : Int) σ
def F_M_settles_82    (σ : zt_S) : Option (Unit × zt_S) :=
  some ((), σ)
def F_M_settles_0   : Nat → Int → zt_S → Option (Unit × zt_S)
  | 0, _, _ => none
  | n + 1, v1, σ =>
  zt_bd (F_M_isGood σ) fun a1 s2 =>
  zt_ck (zt_in a1) <| if a1 = (0 : Int) then
    F_M_settles_82 s2
  else
    zt_ck (zt_in (s2.1 163 36)) <| if (0 : Int) < (s2.1 163 36) then
      zt_ck (0 ≤ ((s2.1 163 36) - (1 : Int)) ∧ ((s2.1 163 36) - (1 : Int)) < ((200 : Nat) : Int)) <| zt_bd (F_M_strength (s2.1 182 ((s2.1 163 36) - (1 : Int))) s2) fun a3 s4 =>
      zt_ck (zt_in a3 ∧ zt_in v1) <| if a3 < v1 then
        F_M_settles_82 s4
      else
        zt_let (zt_up s4 163 36 ((s4.1 163 36) - (1 : Int))) fun s5 =>
        zt_ck (0 ≤ (s5.1 163 36) ∧ (s5.1 163 36) < ((200 : Nat) : Int)) <| zt_bd (F_M_adds (s5.1 182 (s5.1 163 36)) s5) fun _ s7 =>
        zt_ck (0 ≤ (s7.1 163 36) ∧ (s7.1 163 36) < ((200 : Nat) : Int)) <| zt_ck (zt_in (s7.1 182 (s7.1 163 36))) <| if (s7.1 182 (s7.1 163 36)) = (23 : Int) then
          zt_let (zt_up s7 163 37 ((s7.1 163 37) - (1 : Int))) fun s8 =>
          F_M_settles_0 n v1 s8
        else
          F_M_settles_0 n v1 s7
    else
      F_M_settles_82 s2
def F_M_settles  (v1 : Int) (σ : zt_S) : Option (Unit × zt_S) :=
  F_M_settles_0 zt_N v1 σ
def F_M_isInside_2   : Nat → Int → zt_S → Option (Int × zt_S)
  | 0, _, _ => none
  | n + 1, v1, σ =>
  zt_ck (zt_in v1 ∧ zt_in (σ.1 163 36)) <| if v1 < (σ.1 163 36) then
    zt_ck (0 ≤ v1 ∧ v1 < ((200 : Nat) : Int)) <| zt_ck (zt_in (σ.1 182 v1)) <| if (σ.1 182 v1) = (1 : Int) then
      some ((1 : Int), σ)
    else
      F_M_isInside_2 n (v1 + (1 : Int)) σ
  else
    some ((0 : Int), σ)
def F_M_isInside   (σ : zt_S) : Option (Int × zt_S) :=
  F_M_isInside_2 zt_N (0 : Int) σ
def F_M_comparisonRead_127    (σ : zt_S) : Option (Unit × zt_S) :=
  some ((), σ)
def F_M_comparisonRead_99   (v1 : Int) (σ : zt_S) : Option (Unit × zt_S) :=
  zt_bd (F_M_isGood σ) fun a15 s16 =>
  zt_ck (zt_in a15) <| if a15 = (0 : Int) then
    some ((), s16)
  else
    zt_bd (F_M_next s16) fun _ s18 =>
    zt_bd (F_M_valueRead s18) fun _ s20 =>
    zt_bd (F_M_isGood s20) fun a21 s22 =>
    zt_ck (zt_in a21) <| if a21 = (0 : Int) then
      F_M_comparisonRead_127 s22
    else
      zt_bd (F_M_adds v1 s22) fun _ s24 =>
      F_M_comparisonRead_127 s24
def F_M_comparisonRead_77   (x0 : Int) (σ : zt_S) : Option (Unit × zt_S) :=
  zt_ck (zt_in x0) <| if x0 = (21 : Int) then
    zt_bd (F_M_isByte (61 : Int) σ) fun a11 s12 =>
    zt_ck (zt_in a11) <| if a11 = (0 : Int) then
      zt_bd (F_M_wrongs (1 : Int) s12) fun a13 s14 =>
      F_M_comparisonRead_99 x0 s14
    else
      F_M_comparisonRead_99 x0 s12
  else
    F_M_comparisonRead_99 x0 σ
def F_M_comparisonRead_43    (σ : zt_S) : Option (Unit × zt_S) :=
  zt_bd (F_M_valueRead σ) fun _ s6 =>
  zt_bd (F_M_isByte (60 : Int) s6) fun a7 s8 =>
  zt_ck (zt_in a7) <| if a7 = (0 : Int) then
    zt_bd (F_M_isByte (62 : Int) s8) fun a9 s10 =>
    zt_ck (zt_in a9) <| if a9 = (0 : Int) then
      F_M_comparisonRead_77 (21 : Int) s10
    else
      F_M_comparisonRead_77 (22 : Int) s10
  else
    F_M_comparisonRead_77 (20 : Int) s8
def F_M_comparisonRead_36  (r0 : zt_S → Option (Unit × zt_S)) (x0 : Int) (σ : zt_S) : Option (Unit × zt_S) :=
  zt_bd (F_M_goesIn x0 σ) fun a27 s28 =>
  zt_ck (zt_in a27) <| if a27 = (0 : Int) then
    some ((), s28)
  else
    r0 s28
def F_M_comparisonRead_19  (r0 : zt_S → Option (Unit × zt_S))  (σ : zt_S) : Option (Unit × zt_S) :=
  zt_bd (F_M_isWord (10631 : Int64) σ) fun a25 s26 =>
  zt_ck (zt_in a25) <| if a25 = (0 : Int) then
    F_M_comparisonRead_36 r0 (1 : Int) s26
  else
    F_M_comparisonRead_36 r0 (23 : Int) s26
def F_M_comparisonRead_0   : Nat → zt_S → Option (Unit × zt_S)
  | 0, _ => none
  | n + 1, σ =>
  zt_bd (F_M_isWord (10631 : Int64) σ) fun a1 s2 =>
  zt_ck (zt_in a1) <| if a1 = (0 : Int) then
    zt_bd (F_M_isByte (40 : Int) s2) fun a3 s4 =>
    zt_ck (zt_in a3) <| if a3 = (0 : Int) then
      F_M_comparisonRead_43 s4
    else
      F_M_comparisonRead_19 (F_M_comparisonRead_0 n) s4
  else
    F_M_comparisonRead_19 (F_M_comparisonRead_0 n) s2
def F_M_comparisonRead   (σ : zt_S) : Option (Unit × zt_S) :=
  F_M_comparisonRead_0 zt_N σ
def F_M_closes_58    (σ : zt_S) : Option (Unit × zt_S) :=
  some ((), σ)
def F_M_closes_5   : Nat → zt_S → Option (Unit × zt_S)
  | 0, _ => none
  | n + 1, σ =>
  zt_bd (F_M_isByte (41 : Int) σ) fun a3 s4 =>
  zt_ck (zt_in a3) <| if a3 = (0 : Int) then
    F_M_closes_58 s4
  else
    zt_bd (F_M_isInside s4) fun a5 s6 =>
    zt_ck (zt_in a5) <| if a5 = (0 : Int) then
      F_M_closes_58 s6
    else
      zt_bd (F_M_settles (1 : Int) s6) fun _ s8 =>
      zt_let (zt_up s8 163 36 ((s8.1 163 36) - (1 : Int))) fun s9 =>
      zt_let (zt_up s9 163 37 ((s9.1 163 37) - (1 : Int))) fun s10 =>
      zt_bd (F_M_next s10) fun _ s12 =>
      zt_bd (F_M_settles (3 : Int) s12) fun _ s14 =>
      F_M_closes_5 n s14
def F_M_closes   (σ : zt_S) : Option (Unit × zt_S) :=
  zt_bd (F_M_settles (3 : Int) σ) fun _ s2 =>
  F_M_closes_5 zt_N s2
def F_M_reads_151    (σ : zt_S) : Option (Unit × zt_S) :=
  zt_bd (F_M_settles (1 : Int) σ) fun _ s9 =>
  some ((), s9)
def F_M_reads_145    (σ : zt_S) : Option (Unit × zt_S) :=
  zt_bd (F_M_wrongs (1 : Int) σ) fun a12 s13 =>
  F_M_reads_151 s13
def F_M_reads_124    (σ : zt_S) : Option (Unit × zt_S) :=
  zt_bd (F_M_isGood σ) fun a6 s7 =>
  zt_ck (zt_in a6) <| if a6 = (0 : Int) then
    F_M_reads_151 s7
  else
    zt_bd (F_M_isInside s7) fun a10 s11 =>
    zt_ck (zt_in a10) <| if a10 = (0 : Int) then
      zt_ck (zt_in (s11.1 163 13)) <| if (s11.1 163 13) = (0 : Int) then
        F_M_reads_151 s11
      else
        F_M_reads_145 s11
    else
      F_M_reads_145 s11
def F_M_reads_81  (r20 : Int → zt_S → Option (Unit × zt_S)) (v2 : Int) (x0 : Int) (σ : zt_S) : Option (Unit × zt_S) :=
  zt_ck (zt_in x0) <| if x0 = (0 : Int) then
    r20 x0 σ
  else
    zt_bd (F_M_strength v2 σ) fun a24 s25 =>
    zt_bd (F_M_settles a24 s25) fun _ s27 =>
    zt_ck (0 ≤ (s27.1 163 36) ∧ (s27.1 163 36) < ((200 : Nat) : Int)) <| zt_let (zt_up s27 182 (s27.1 163 36) v2) fun s28 =>
    zt_let (zt_up s28 163 36 ((s28.1 163 36) + (1 : Int))) fun s29 =>
    zt_bd (F_M_next s29) fun _ s31 =>
    r20 x0 s31
def F_M_reads_71  (r20 : Int → zt_S → Option (Unit × zt_S)) (x0 : Int) (σ : zt_S) : Option (Unit × zt_S) :=
  zt_ck (zt_in x0) <| if x0 = (0 : Int) then
    F_M_reads_81 r20 x0 (0 : Int) σ
  else
    F_M_reads_81 r20 x0 (1 : Int) σ
def F_M_reads_20   : Nat → Int → zt_S → Option (Unit × zt_S)
  | 0, _, _ => none
  | n + 1, v1, σ =>
  zt_ck (zt_in v1) <| if v1 = (0 : Int) then
    F_M_reads_124 σ
  else
    zt_bd (F_M_comparisonRead σ) fun _ s15 =>
    zt_bd (F_M_isGood s15) fun a16 s17 =>
    zt_ck (zt_in a16) <| if a16 = (0 : Int) then
      some ((), s17)
    else
      zt_bd (F_M_closes s17) fun _ s19 =>
      zt_bd (F_M_isWord (1111 : Int64) s19) fun a20 s21 =>
      zt_ck (zt_in a20) <| if a20 = (0 : Int) then
        zt_bd (F_M_isWord (423 : Int64) s21) fun a22 s23 =>
        zt_ck (zt_in a22) <| if a22 = (0 : Int) then
          F_M_reads_71 (F_M_reads_20 n) (0 : Int) s23
        else
          F_M_reads_71 (F_M_reads_20 n) (25 : Int) s23
      else
        F_M_reads_71 (F_M_reads_20 n) (24 : Int) s21
def F_M_reads   (σ : zt_S) : Option (Unit × zt_S) :=
  zt_let (zt_up σ 163 35 (0 : Int)) fun s1 =>
  zt_let (zt_up s1 163 37 (0 : Int)) fun s2 =>
  zt_let (zt_up s2 163 36 (0 : Int)) fun s3 =>
  zt_bd (F_M_isGood s3) fun a4 s5 =>
  F_M_reads_20 zt_N a4 s5
def F_M_propertyOf_77   (x0 : Int) (σ : zt_S) : Option (Int × zt_S) :=
  some (x0, σ)
def F_M_propertyOf_91   (x0 : Int) (σ : zt_S) : Option (Int × zt_S) :=
  some (x0, σ)
def F_M_propertyOf_111   (x0 : Int) (σ : zt_S) : Option (Int × zt_S) :=
  some (x0, σ)
def F_M_propertyOf_132   (x0 : Int) (σ : zt_S) : Option (Int × zt_S) :=
  some (x0, σ)
def F_M_propertyOf  (v1 : Int) (v2 : Int) (σ : zt_S) : Option (Int × zt_S) :=
  zt_ck (zt_in v1) <| if v1 = (0 : Int) then
    some (v2, σ)
  else if v1 = (1 : Int) then
    zt_bd (F_M_suitOf v2 σ) fun a1 s2 =>
    some (a1, s2)
  else if v1 = (2 : Int) then
    zt_bd (F_M_rankOf v2 σ) fun a3 s4 =>
    some (a3, s4)
  else if v1 = (3 : Int) then
    zt_bd (F_M_holderOf v2 σ) fun a5 s6 =>
    zt_ck (zt_in a5) <| if a5 = (-1 : Int) then
      F_M_propertyOf_77 (9 : Int) s6
    else
      zt_bd (F_M_holderOf v2 s6) fun a7 s8 =>
      F_M_propertyOf_77 a7 s8
  else if v1 = (4 : Int) then
    zt_bd (F_M_wasPlayed v2 σ) fun a9 s10 =>
    zt_ck (zt_in a9) <| if a9 = (0 : Int) then
      F_M_propertyOf_91 (0 : Int) s10
    else
      F_M_propertyOf_91 (1 : Int) s10
  else if v1 = (5 : Int) then
    zt_bd (F_M_powerNow v2 σ) fun a11 s12 =>
    some (a11, s12)
  else if v1 = (6 : Int) then
    zt_bd (F_M_isLegalNow v2 σ) fun a13 s14 =>
    zt_ck (zt_in a13) <| if a13 = (0 : Int) then
      F_M_propertyOf_111 (0 : Int) s14
    else
      F_M_propertyOf_111 (1 : Int) s14
  else 
  zt_bd (F_M_suitOf v2 σ) fun a15 s16 =>
  zt_ck (zt_in a15 ∧ zt_in (s16.1 164 (10 : Int))) <| if a15 = (s16.1 164 (10 : Int)) then
    F_M_propertyOf_132 (1 : Int) s16
  else
    F_M_propertyOf_132 (0 : Int) s16
def F_M_joined_46   (x0 : Int) (σ : zt_S) : Option (Int × zt_S) :=
  zt_ck (x0 = 0 ∨ x0 = 1) <| some (x0, σ)
def F_M_joined_57   (x0 : Int) (σ : zt_S) : Option (Int × zt_S) :=
  zt_ck (x0 = 0 ∨ x0 = 1) <| some (x0, σ)
def F_M_joined_68   (x0 : Int) (σ : zt_S) : Option (Int × zt_S) :=
  zt_ck (x0 = 0 ∨ x0 = 1) <| some (x0, σ)
def F_M_joined_93   (x0 : Int) (σ : zt_S) : Option (Int × zt_S) :=
  zt_ck (x0 = 0 ∨ x0 = 1) <| some (x0, σ)
def F_M_joined_81   (x0 : Int) (σ : zt_S) : Option (Int × zt_S) :=
  zt_ck (x0 = 0 ∨ x0 = 1) <| some (x0, σ)
def F_M_joined  (v0 : Int) (v1 : Int) (v2 : Int) (σ : zt_S) : Option (Int × zt_S) :=
  zt_ck (zt_in v0) <| if v0 = (20 : Int) then
    zt_ck (zt_in v1 ∧ zt_in v2) <| if v1 < v2 then
      F_M_joined_46 (1 : Int) σ
    else
      F_M_joined_46 (0 : Int) σ
  else if v0 = (21 : Int) then
    zt_ck (zt_in v1 ∧ zt_in v2) <| if v1 = v2 then
      F_M_joined_57 (1 : Int) σ
    else
      F_M_joined_57 (0 : Int) σ
  else if v0 = (22 : Int) then
    zt_ck (zt_in v1 ∧ zt_in v2) <| if v2 < v1 then
      F_M_joined_68 (1 : Int) σ
    else
      F_M_joined_68 (0 : Int) σ
  else if v0 = (23 : Int) then
    zt_ck (zt_in (v1 + v2)) <| if (0 : Int) < (v1 + v2) then
      F_M_joined_93 (1 : Int) σ
    else
      F_M_joined_93 (0 : Int) σ
  else if v0 = (24 : Int) then
    zt_ck (zt_in (v1 + v2)) <| if (v1 + v2) = (2 : Int) then
      F_M_joined_81 (1 : Int) σ
    else
      F_M_joined_81 (0 : Int) σ
  else 
  zt_ck (zt_in (v1 + v2)) <| if (0 : Int) < (v1 + v2) then
    F_M_joined_93 (1 : Int) σ
  else
    F_M_joined_93 (0 : Int) σ
def F_M_holds_135  (r4 : Int → Int → Int → zt_S → Option (Int × zt_S)) (v1 : Int) (v2 : Int) (v3 : Int) (σ : zt_S) : Option (Int × zt_S) :=
  r4 v1 v2 (v3 + (1 : Int)) σ
def F_M_holds_131  (r4 : Int → Int → Int → zt_S → Option (Int × zt_S)) (v1 : Int) (v2 : Int) (v3 : Int) (x0 : Int) (x1 : Int) (σ : zt_S) : Option (Int × zt_S) :=
  zt_ck (0 ≤ x1 ∧ x1 < ((200 : Nat) : Int)) <| zt_let (zt_up σ 183 x1 x0) fun s6 =>
  F_M_holds_135 r4 v1 (v2 + (1 : Int)) v3 s6
def F_M_holds_100  (r4 : Int → Int → Int → zt_S → Option (Int × zt_S)) (v1 : Int) (v2 : Int) (v3 : Int) (x0 : Int) (x1 : Int) (σ : zt_S) : Option (Int × zt_S) :=
  zt_ck (0 ≤ x1 ∧ x1 < ((200 : Nat) : Int)) <| zt_let (zt_up σ 183 x1 x0) fun s9 =>
  F_M_holds_135 r4 v1 v2 v3 s9
def F_M_holds_156   (x0 : Int) (σ : zt_S) : Option (Int × zt_S) :=
  zt_ck (x0 = 0 ∨ x0 = 1) <| some (x0, σ)
def F_M_holds_141    (σ : zt_S) : Option (Int × zt_S) :=
  zt_ck (zt_in (σ.1 183 (0 : Int))) <| if (σ.1 183 (0 : Int)) = (1 : Int) then
    F_M_holds_156 (1 : Int) σ
  else
    F_M_holds_156 (0 : Int) σ
def F_M_holds_4   : Nat → Int → Int → Int → zt_S → Option (Int × zt_S)
  | 0, _, _, _, _ => none
  | n + 1, v1, v2, v3, σ =>
  zt_ck (zt_in v3 ∧ zt_in (σ.1 163 35)) <| if v3 < (σ.1 163 35) then
    zt_ck (0 ≤ v3 ∧ v3 < ((200 : Nat) : Int)) <| zt_ck (zt_in (σ.1 181 v3)) <| if (σ.1 181 v3) = (23 : Int) then
      zt_ck (0 ≤ (v2 - (1 : Int)) ∧ (v2 - (1 : Int)) < ((200 : Nat) : Int)) <| zt_ck (0 ≤ (v2 - (1 : Int)) ∧ (v2 - (1 : Int)) < ((200 : Nat) : Int)) <| zt_let (zt_up σ 183 (v2 - (1 : Int)) ((1 : Int) - (σ.1 183 (v2 - (1 : Int))))) fun s1 =>
      F_M_holds_135 (F_M_holds_4 n) v1 v2 v3 s1
    else
      zt_bd (F_M_in (zt_l (σ.1 181 v3)) (20 : Int64) (25 : Int64) σ) fun a2 s3 =>
      zt_ck (zt_in a2) <| if a2 = (0 : Int) then
        zt_ck (zt_in (σ.1 181 v3)) <| if (σ.1 181 v3) < (100 : Int) then
          zt_bd (F_M_propertyOf (σ.1 181 v3) v1 s3) fun a4 s5 =>
          F_M_holds_131 (F_M_holds_4 n) v1 v2 v3 a4 v2 s5
        else
          F_M_holds_131 (F_M_holds_4 n) v1 v2 v3 ((σ.1 181 v3) - (100 : Int)) v2 s3
      else
        zt_ck (0 ≤ ((v2 + (-1 : Int)) - (1 : Int)) ∧ ((v2 + (-1 : Int)) - (1 : Int)) < ((200 : Nat) : Int)) <| zt_ck (0 ≤ (v2 + (-1 : Int)) ∧ (v2 + (-1 : Int)) < ((200 : Nat) : Int)) <| zt_bd (F_M_joined (σ.1 181 v3) (s3.1 183 ((v2 + (-1 : Int)) - (1 : Int))) (s3.1 183 (v2 + (-1 : Int))) s3) fun a7 s8 =>
        zt_ck (zt_in a7) <| if a7 = (0 : Int) then
          F_M_holds_100 (F_M_holds_4 n) v1 (v2 + (-1 : Int)) v3 (0 : Int) ((v2 + (-1 : Int)) - (1 : Int)) s8
        else
          F_M_holds_100 (F_M_holds_4 n) v1 (v2 + (-1 : Int)) v3 (1 : Int) ((v2 + (-1 : Int)) - (1 : Int)) s8
  else
    F_M_holds_141 σ
def F_M_holds  (v1 : Int) (σ : zt_S) : Option (Int × zt_S) :=
  F_M_holds_4 zt_N v1 (0 : Int) (0 : Int) σ
def F_M_query_121  (r90 : Int → Int → Int → zt_S → Option (Int × zt_S)) (v2 : Int) (v3 : Int) (v4 : Int) (σ : zt_S) : Option (Int × zt_S) :=
  r90 v2 v3 (v4 + (1 : Int)) σ
def F_M_query_136   (x0 : Int) (σ : zt_S) : Option (Int × zt_S) :=
  some (x0, σ)
def F_M_query_127   (v2 : Int) (v3 : Int) (σ : zt_S) : Option (Int × zt_S) :=
  zt_ck (zt_in v2) <| if v2 = (0 : Int) then
    F_M_query_136 v3 σ
  else
    F_M_query_136 (-1 : Int) σ
def F_M_query_90   : Nat → Int → Int → Int → zt_S → Option (Int × zt_S)
  | 0, _, _, _, _ => none
  | n + 1, v2, v3, v4, σ =>
  zt_bd (F_M_cards σ) fun a20 s21 =>
  zt_ck (zt_in v4 ∧ zt_in a20) <| if v4 < a20 then
    zt_bd (F_M_holds v4 s21) fun a22 s23 =>
    zt_ck (zt_in a22) <| if a22 = (0 : Int) then
      F_M_query_121 (F_M_query_90 n) v2 v3 v4 s23
    else
      zt_ck (zt_in v2) <| if v2 = (0 : Int) then
        F_M_query_121 (F_M_query_90 n) v2 (v3 + (1 : Int)) v4 s23
      else
        some (v4, s23)
  else
    F_M_query_127 v2 v3 s21
def F_M_query_65   (v2 : Int) (σ : zt_S) : Option (Int × zt_S) :=
  zt_bd (F_M_reads σ) fun _ s17 =>
  zt_bd (F_M_isGood s17) fun a18 s19 =>
  zt_ck (zt_in a18) <| if a18 = (0 : Int) then
    some (((-1000000000 : Int) - (s19.1 163 16)), s19)
  else
    F_M_query_90 zt_N v2 (0 : Int) (0 : Int) s19
def F_M_query  (v1 : Int) (σ : zt_S) : Option (Int × zt_S) :=
  zt_let (zt_up σ 163 0 (0 : Int)) fun s1 =>
  zt_bd (F_M_lesser (s1.1 163 9) (200 : Int) s1) fun a2 s3 =>
  zt_bd (F_M_in (zt_l v1) (0 : Int64) (zt_l a2) s3) fun a4 s5 =>
  zt_bd (F_M_fails a4 (1 : Int) s5) fun a6 s7 =>
  zt_ck (zt_in a6) <| if a6 = (0 : Int) then
    zt_bd (F_M_starts v1 s7) fun _ s9 =>
    zt_bd (F_M_passes (3379448 : Int64) s9) fun a10 s11 =>
    zt_ck (zt_in a10) <| if a10 = (0 : Int) then
      zt_bd (F_M_passes (257011 : Int64) s11) fun a12 s13 =>
      zt_ck (zt_in a12) <| if a12 = (0 : Int) then
        zt_bd (F_M_wrongs (1 : Int) s13) fun a14 s15 =>
        F_M_query_65 a10 s15
      else
        F_M_query_65 a10 s13
    else
      F_M_query_65 a10 s11
  else
    some ((0 : Int), s7)
def F_L_load  (v1 : Int) (σ : zt_S) : Option (Int × zt_S) :=
  zt_bx (F_C_load v1 σ) (fun a1 s2 =>
  zt_let (zt_uL s2 184 (0 : Int) (zt_l a1)) fun s3 =>
  some ((0 : Int), s3)) (fun E s2 => if E = 1 then some ((1 : Int), s2) else none)
def F_L_size  (v1 : Int) (σ : zt_S) : Option (Int × zt_S) :=
  zt_bx (F_C_size v1 σ) (fun a1 s2 =>
  zt_let (zt_uL s2 184 (0 : Int) (zt_l a1)) fun s3 =>
  some ((0 : Int), s3)) (fun E s2 => if E = 0 then some ((1 : Int), s2) else none)
def F_L_suit  (v1 : Int) (σ : zt_S) : Option (Int × zt_S) :=
  zt_bx (F_C_suit v1 σ) (fun a1 s2 =>
  zt_let (zt_uL s2 184 (0 : Int) (zt_l a1)) fun s3 =>
  some ((0 : Int), s3)) (fun E s2 => if E = 0 then some ((1 : Int), s2) else none)
def F_L_rank  (v1 : Int) (σ : zt_S) : Option (Int × zt_S) :=
  zt_bx (F_C_rank v1 σ) (fun a1 s2 =>
  zt_let (zt_uL s2 184 (0 : Int) (zt_l a1)) fun s3 =>
  some ((0 : Int), s3)) (fun E s2 => if E = 0 then some ((1 : Int), s2) else none)
def F_L_holder  (v1 : Int) (σ : zt_S) : Option (Int × zt_S) :=
  zt_bx (F_C_holder v1 σ) (fun a1 s2 =>
  zt_let (zt_uL s2 184 (0 : Int) (zt_l a1)) fun s3 =>
  some ((0 : Int), s3)) (fun E s2 => if E = 0 then some ((1 : Int), s2) else none)
def F_L_held  (v1 : Int) (σ : zt_S) : Option (Int × zt_S) :=
  zt_bx (F_C_held v1 σ) (fun a1 s2 =>
  zt_let (zt_uL s2 184 (0 : Int) (zt_l a1)) fun s3 =>
  some ((0 : Int), s3)) (fun E s2 => if E = 0 then some ((1 : Int), s2) else none)
def F_L_inHand  (v1 : Int) (v2 : Int) (σ : zt_S) : Option (Int × zt_S) :=
  zt_bx (F_C_inHand v1 v2 σ) (fun a1 s2 =>
  zt_let (zt_uL s2 184 (0 : Int) (zt_l a1)) fun s3 =>
  some ((0 : Int), s3)) (fun E s2 => if E = 0 then some ((1 : Int), s2) else none)
def F_L_ofSuit  (v1 : Int) (v2 : Int) (σ : zt_S) : Option (Int × zt_S) :=
  zt_bx (F_C_ofSuit v1 v2 σ) (fun a1 s2 =>
  zt_let (zt_uL s2 184 (0 : Int) (zt_l a1)) fun s3 =>
  some ((0 : Int), s3)) (fun E s2 => if E = 0 then some ((1 : Int), s2) else none)
def F_L_isLegal_15   (x0 : Int64) (x1 : Int) (σ : zt_S) : Option (Int × zt_S) :=
  zt_ck (0 ≤ x1 ∧ x1 < ((1 : Nat) : Int)) <| zt_let (zt_uL σ 184 x1 x0) fun s3 =>
  some ((0 : Int), s3)
def F_L_isLegal  (v1 : Int) (σ : zt_S) : Option (Int × zt_S) :=
  zt_bx (F_C_isLegal v1 σ) (fun a1 s2 =>
  zt_ck (zt_in a1) <| if a1 = (0 : Int) then
    F_L_isLegal_15 (0 : Int64) (0 : Int) s2
  else
    F_L_isLegal_15 (1 : Int64) (0 : Int) s2) (fun E s2 => if E = 0 then some ((1 : Int), s2) else none)
def F_L_power  (v1 : Int) (σ : zt_S) : Option (Int × zt_S) :=
  zt_bx (F_C_power v1 σ) (fun a1 s2 =>
  zt_let (zt_uL s2 184 (0 : Int) (zt_l a1)) fun s3 =>
  some ((0 : Int), s3)) (fun E s2 => if E = 0 then some ((1 : Int), s2) else none)
def F_L_wouldLead_15   (x0 : Int64) (x1 : Int) (σ : zt_S) : Option (Int × zt_S) :=
  zt_ck (0 ≤ x1 ∧ x1 < ((1 : Nat) : Int)) <| zt_let (zt_uL σ 184 x1 x0) fun s3 =>
  some ((0 : Int), s3)
def F_L_wouldLead  (v1 : Int) (σ : zt_S) : Option (Int × zt_S) :=
  zt_bx (F_C_wouldLead v1 σ) (fun a1 s2 =>
  zt_ck (zt_in a1) <| if a1 = (0 : Int) then
    F_L_wouldLead_15 (0 : Int64) (0 : Int) s2
  else
    F_L_wouldLead_15 (1 : Int64) (0 : Int) s2) (fun E s2 => if E = 0 then some ((1 : Int), s2) else none)
def F_L_played  (v1 : Int) (v2 : Int) (σ : zt_S) : Option (Int × zt_S) :=
  zt_bx (F_C_played v1 v2 σ) (fun a1 s2 =>
  zt_let (zt_uL s2 184 (0 : Int) (zt_l a1)) fun s3 =>
  some ((0 : Int), s3)) (fun E s2 => if E = 0 then some ((1 : Int), s2) else none)
def F_L_trick  (v1 : Int) (v2 : Int) (σ : zt_S) : Option (Int × zt_S) :=
  zt_bx (F_C_trick v1 v2 σ) (fun a1 s2 =>
  zt_let (zt_uL s2 184 (0 : Int) (zt_l a1)) fun s3 =>
  some ((0 : Int), s3)) (fun E s2 => if E = 0 then some ((1 : Int), s2) else none)
def F_L_tricks  (v1 : Int) (σ : zt_S) : Option (Int × zt_S) :=
  zt_bx (F_C_tricks v1 σ) (fun a1 s2 =>
  zt_let (zt_uL s2 184 (0 : Int) (zt_l a1)) fun s3 =>
  some ((0 : Int), s3)) (fun E s2 => if E = 0 then some ((1 : Int), s2) else none)
def F_L_told  (v1 : Int) (σ : zt_S) : Option (Int × zt_S) :=
  zt_bx (F_C_told v1 σ) (fun a1 s2 =>
  zt_let (zt_uL s2 184 (0 : Int) (zt_l a1)) fun s3 =>
  some ((0 : Int), s3)) (fun E s2 => if E = 0 then some ((1 : Int), s2) else none)
def F_L_result  (v1 : Int) (σ : zt_S) : Option (Int × zt_S) :=
  zt_bx (F_C_result v1 σ) (fun a1 s2 =>
  zt_let (zt_uL s2 184 (0 : Int) (zt_l a1)) fun s3 =>
  some ((0 : Int), s3)) (fun E s2 => if E = 0 then some ((1 : Int), s2) else none)
def F_L_points  (v1 : Int) (σ : zt_S) : Option (Int × zt_S) :=
  zt_bx (F_C_points v1 σ) (fun a1 s2 =>
  zt_let (zt_uL s2 184 (0 : Int) (zt_l a1)) fun s3 =>
  some ((0 : Int), s3)) (fun E s2 => if E = 0 then some ((1 : Int), s2) else none)
def F_L_ranking  (v1 : Int) (σ : zt_S) : Option (Int × zt_S) :=
  zt_bx (F_C_ranking v1 σ) (fun a1 s2 =>
  zt_let (zt_uL s2 184 (0 : Int) (zt_l a1)) fun s3 =>
  some ((0 : Int), s3)) (fun E s2 => if E = 0 then some ((1 : Int), s2) else none)
def F_L_lacks_16   (x0 : Int64) (x1 : Int) (σ : zt_S) : Option (Int × zt_S) :=
  zt_ck (0 ≤ x1 ∧ x1 < ((1 : Nat) : Int)) <| zt_let (zt_uL σ 184 x1 x0) fun s3 =>
  some ((0 : Int), s3)
def F_L_lacks  (v1 : Int) (v2 : Int) (σ : zt_S) : Option (Int × zt_S) :=
  zt_bx (F_C_lacks v1 v2 σ) (fun a1 s2 =>
  zt_ck (zt_in a1) <| if a1 = (0 : Int) then
    F_L_lacks_16 (0 : Int64) (0 : Int) s2
  else
    F_L_lacks_16 (1 : Int64) (0 : Int) s2) (fun E s2 => if E = 0 then some ((1 : Int), s2) else none)
def F_L_could_16   (x0 : Int64) (x1 : Int) (σ : zt_S) : Option (Int × zt_S) :=
  zt_ck (0 ≤ x1 ∧ x1 < ((1 : Nat) : Int)) <| zt_let (zt_uL σ 184 x1 x0) fun s3 =>
  some ((0 : Int), s3)
def F_L_could  (v1 : Int) (v2 : Int) (σ : zt_S) : Option (Int × zt_S) :=
  zt_bx (F_C_could v1 v2 σ) (fun a1 s2 =>
  zt_ck (zt_in a1) <| if a1 = (0 : Int) then
    F_L_could_16 (0 : Int64) (0 : Int) s2
  else
    F_L_could_16 (1 : Int64) (0 : Int) s2) (fun E s2 => if E = 0 then some ((1 : Int), s2) else none)
def F_L_unseen  (v1 : Int) (σ : zt_S) : Option (Int × zt_S) :=
  zt_bx (F_C_unseen v1 σ) (fun a1 s2 =>
  zt_let (zt_uL s2 184 (0 : Int) (zt_l a1)) fun s3 =>
  some ((0 : Int), s3)) (fun E s2 => if E = 0 then some ((1 : Int), s2) else none)
def F_L_isMaster_15   (x0 : Int64) (x1 : Int) (σ : zt_S) : Option (Int × zt_S) :=
  zt_ck (0 ≤ x1 ∧ x1 < ((1 : Nat) : Int)) <| zt_let (zt_uL σ 184 x1 x0) fun s3 =>
  some ((0 : Int), s3)
def F_L_isMaster  (v1 : Int) (σ : zt_S) : Option (Int × zt_S) :=
  zt_bx (F_C_isMaster v1 σ) (fun a1 s2 =>
  zt_ck (zt_in a1) <| if a1 = (0 : Int) then
    F_L_isMaster_15 (0 : Int64) (0 : Int) s2
  else
    F_L_isMaster_15 (1 : Int64) (0 : Int) s2) (fun E s2 => if E = 0 then some ((1 : Int), s2) else none)
def F_L_masters  (v1 : Int) (σ : zt_S) : Option (Int × zt_S) :=
  zt_bx (F_C_masters v1 σ) (fun a1 s2 =>
  zt_let (zt_uL s2 184 (0 : Int) (zt_l a1)) fun s3 =>
  some ((0 : Int), s3)) (fun E s2 => if E = 0 then some ((1 : Int), s2) else none)
def F_L_meanRank  (v1 : Int) (σ : zt_S) : Option (Int × zt_S) :=
  zt_bx (F_C_meanRank v1 σ) (fun a1 s2 =>
  zt_let (zt_uD s2 (0 : Int) a1) fun s3 =>
  some ((0 : Int), s3)) (fun E s2 => if E = 0 then some ((1 : Int), s2) else none)
def F_L_share  (v1 : Int) (σ : zt_S) : Option (Int × zt_S) :=
  zt_bx (F_C_share v1 σ) (fun a1 s2 =>
  zt_ck (FP.f2d a1 &&& 0x7fffffffffffffff ≤ 0x7ff0000000000000) <| zt_let (zt_uD s2 (0 : Int) (FP.f2d a1)) fun s3 =>
  some ((0 : Int), s3)) (fun E s2 => if E = 0 then some ((1 : Int), s2) else none)
def F_L_play  (v1 : Int) (σ : zt_S) : Option (Int × zt_S) :=
  zt_bx (F_C_play v1 σ) (fun a1 s2 =>
  zt_let (zt_uL s2 184 (0 : Int) (zt_l a1)) fun s3 =>
  some ((0 : Int), s3)) (fun E s2 => if E = 0 then some ((1 : Int), s2) else none)
def F_L_auto  (v1 : Int) (σ : zt_S) : Option (Int × zt_S) :=
  zt_bx (F_C_auto v1 σ) (fun a1 s2 =>
  zt_let (zt_uL s2 184 (0 : Int) (zt_l a1)) fun s3 =>
  some ((0 : Int), s3)) (fun E s2 => if E = 1 then some ((1 : Int), s2) else none)
def F_L_tell  (v1 : Int) (v2 : Int) (σ : zt_S) : Option (Int × zt_S) :=
  zt_bx (F_C_tell v1 v2 σ) (fun a1 s2 =>
  zt_let (zt_uL s2 184 (0 : Int) (zt_l a1)) fun s3 =>
  some ((0 : Int), s3)) (fun E s2 => if E = 0 then some ((1 : Int), s2) else if E = 1 then some ((2 : Int), s2) else none)
def F_L_deal  (v1 : Int) (σ : zt_S) : Option (Int × zt_S) :=
  zt_bx (F_C_deal v1 σ) (fun a1 s2 =>
  zt_let (zt_uL s2 184 (0 : Int) (zt_l a1)) fun s3 =>
  some ((0 : Int), s3)) (fun E s2 => if E = 1 then some ((1 : Int), s2) else none)
def F_L_setTrump  (v1 : Int) (σ : zt_S) : Option (Int × zt_S) :=
  zt_bx (F_C_setTrump v1 σ) (fun a1 s2 =>
  zt_let (zt_uL s2 184 (0 : Int) (zt_l a1)) fun s3 =>
  some ((0 : Int), s3)) (fun E s2 => if E = 1 then some ((1 : Int), s2) else none)
def F_L_setRule  (v1 : Int) (σ : zt_S) : Option (Int × zt_S) :=
  zt_bx (F_C_setRule v1 σ) (fun a1 s2 =>
  zt_let (zt_uL s2 184 (0 : Int) (zt_l a1)) fun s3 =>
  some ((0 : Int), s3)) (fun E s2 => if E = 1 then some ((1 : Int), s2) else none)
def F_L_setFade  (v1 : Int) (σ : zt_S) : Option (Int × zt_S) :=
  zt_bx (F_C_setFade v1 σ) (fun a1 s2 =>
  zt_let (zt_uL s2 184 (0 : Int) (zt_l a1)) fun s3 =>
  some ((0 : Int), s3)) (fun E s2 => if E = 1 then some ((1 : Int), s2) else none)
def F_L_format  (v1 : Int) (σ : zt_S) : Option (Int × zt_S) :=
  zt_bx (F_C_format v1 σ) (fun a1 s2 =>
  zt_let (zt_uL s2 184 (0 : Int) (zt_l a1)) fun s3 =>
  some ((0 : Int), s3)) (fun E s2 => if E = 0 then some ((1 : Int), s2) else none)
def F_L_query  (v1 : Int) (σ : zt_S) : Option (Int × zt_S) :=
  zt_bx (F_C_query v1 σ) (fun a1 s2 =>
  zt_let (zt_uL s2 184 (0 : Int) (zt_l a1)) fun s3 =>
  some ((0 : Int), s3)) (fun E s2 => if E = 1 then some ((1 : Int), s2) else none)
