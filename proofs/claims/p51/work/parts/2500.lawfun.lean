/-! THE LAW'S METHODS as functions (by program: wip/p51/dec51.py) -/
theorem zy_171 : (q_row 171).2.2 = (3, none, [], 1, 11, q_k171) := rfl
theorem zy_172 : (q_row 172).2.2 = (3, none, [], 1, 11, q_k172) := rfl
theorem zy_173 : (q_row 173).2.2 = (2, some .int, [], 0, 11, q_k173) := rfl
theorem zy_174 : (q_row 174).2.2 = (5, some .int, [], 1, 11, q_k174) := rfl
theorem zy_175 : (q_row 175).2.2 = (14, some .boolean, [], 1, 11, q_k175) := rfl
theorem zy_176 : (q_row 176).2.2 = (9, some .boolean, [], 0, 11, q_k176) := rfl
theorem zy_177 : (q_row 177).2.2 = (4, some .int, [], 0, 11, q_k177) := rfl
theorem zy_178 : (q_row 178).2.2 = (4, some .boolean, [], 0, 11, q_k178) := rfl
theorem zy_179 : (q_row 179).2.2 = (7, some .boolean, [], 0, 11, q_k179) := rfl
theorem zy_180 : (q_row 180).2.2 = (5, some .int, [], 0, 11, q_k180) := rfl
theorem zy_181 : (q_row 181).2.2 = (12, some .boolean, [], 0, 11, q_k181) := rfl
theorem zy_182 : (q_row 182).2.2 = (8, some .boolean, [], 0, 11, q_k182) := rfl
theorem zy_183 : (q_row 183).2.2 = (18, some .boolean, [], 0, 11, q_k183) := rfl
theorem zy_351 : (q_row 351).2.2 = (3, some .boolean, [], 0, 11, q_k351) := rfl
def F_P_writes_2 (w1 : Nat)  : Nat → Int → zt_S → zt_T → Option (Unit × zt_S × zt_T)
  | 0, _, _, _ => none
  | n + 1, v2, σ, T =>
  zt_ck (zt_in v2 ∧ zt_in (zt_sl w1)) <| if v2 < (zt_sl w1) then
    zt_ck (0 < T.1) <| zt_ck (0 < T.1) <| zt_ck (0 ≤ v2 ∧ v2 < zt_sl w1) <| zt_ck (zt_tk T 1 (T.2.2 0 1)) <| zt_let (zt_tu T 1 (T.2.2 0 1) (zt_sc w1 v2)) fun t1 =>
    zt_ck (0 < t1.1) <| zt_ck (0 < t1.1) <| zt_let (zt_tu t1 0 1 ((t1.2.2 0 1) + (1 : Int))) fun t2 =>
    F_P_writes_2 w1 n (v2 + (1 : Int)) σ t2
  else
    some ((), σ, T)
def F_P_writes (w1 : Nat)  (σ : zt_S) (T : zt_T) : Option (Unit × zt_S × zt_T) :=
  F_P_writes_2 w1 zt_N (0 : Int) σ T
def F_P_spaced_24   : Nat → Int → Int → zt_S → zt_T → Option (Unit × zt_S × zt_T)
  | 0, _, _, _, _ => none
  | n + 1, v1, v2, σ, T =>
  zt_ck (zt_in v2) <| if (0 : Int) < v2 then
    zt_ck (0 < T.1) <| zt_ck (0 < T.1) <| zt_ck ((0 ≤ v1 ∧ v1 < 2147483648) ∧ (0 < v2 ∧ v2 < 2147483648)) <| zt_ck (0 ≤ (v1 / v2) ∧ (v1 / v2) < 2147483648) <| zt_ck (zt_tk T 1 (T.2.2 0 1)) <| zt_let (zt_tu T 1 (T.2.2 0 1) ((48 : Int) + ((v1 / v2) % (10 : Int)))) fun t4 =>
    zt_ck (0 < t4.1) <| zt_ck (0 < t4.1) <| zt_let (zt_tu t4 0 1 ((t4.2.2 0 1) + (1 : Int))) fun t5 =>
    zt_ck (0 ≤ v2 ∧ v2 < 2147483648) <| F_P_spaced_24 n v1 (v2 / (10 : Int)) σ t5
  else
    some ((), σ, T)
def F_P_spaced_8   : Nat → Int → Int → zt_S → zt_T → Option (Unit × zt_S × zt_T)
  | 0, _, _, _, _ => none
  | n + 1, v1, v2, σ, T =>
  zt_ck ((0 ≤ v1 ∧ v1 < 2147483648) ∧ (0 < v2 ∧ v2 < 2147483648)) <| zt_ck (zt_in (v1 / v2)) <| if (9 : Int) < (v1 / v2) then
    F_P_spaced_8 n v1 (v2 * (10 : Int)) σ T
  else
    F_P_spaced_24 zt_N v1 v2 σ T
def F_P_spaced  (v1 : Int) (σ : zt_S) (T : zt_T) : Option (Unit × zt_S × zt_T) :=
  zt_ck (0 < T.1) <| zt_bt (F_P_writes (q_big + 1 + 11) σ T) fun _ s2 t3 =>
  F_P_spaced_8 zt_N v1 (1 : Int) s2 t3
def F_P_cell_16 (X : q_X)   (x0 : Int) (σ : zt_S) (T : zt_T) : Option (Int × zt_S × zt_T) :=
  some (x0, σ, T)
def F_P_cell (X : q_X)  (v1 : Int) (σ : zt_S) (T : zt_T) : Option (Int × zt_S × zt_T) :=
  zt_ck (zt_in v1 ∧ zt_in (X.1 : Int)) <| if v1 < (X.1 : Int) then
    zt_ck (0 ≤ v1 ∧ v1 < (X.1 : Int)) <| F_P_cell_16 X (zt_and (zt_x X v1) (1073741823 : Int)) σ T
  else
    F_P_cell_16 X (0 : Int) σ T
def F_P_feeds_63  (r2 : Int → zt_S → zt_T → Option (Int × zt_S × zt_T)) (r17 : Int → Nat → Int → zt_S → zt_T → Option (Int × zt_S × zt_T)) (v2 : Int) (v3 : Nat) (v4 : Int) (x0 : Int) (x1 : Int) (x2 : Int) (x3 : Nat) (σ : zt_S) (T : zt_T) : Option (Int × zt_S × zt_T) :=
  zt_ck (zt_tk T x3 x2) <| zt_let (zt_tu T x3 x2 (zt_or x1 x0)) fun t3 =>
  r17 v2 v3 (v4 + (1 : Int)) σ t3
def F_P_feeds_71  (r2 : Int → zt_S → zt_T → Option (Int × zt_S × zt_T)) (v2 : Int) (v3 : Nat) (σ : zt_S) (T : zt_T) : Option (Int × zt_S × zt_T) :=
  zt_ck (zt_tk T v3 (0 : Int)) <| zt_ck (zt_tk T v3 (1 : Int)) <| zt_ck (zt_tk T v3 (2 : Int)) <| zt_ck (zt_tk T v3 (3 : Int)) <| zt_ck (zt_tk T v3 (4 : Int)) <| zt_bd (F_C_feed (T.2.2 v3 (0 : Int)) (T.2.2 v3 (1 : Int)) (T.2.2 v3 (2 : Int)) (T.2.2 v3 (3 : Int)) (T.2.2 v3 (4 : Int)) σ) fun a4 s5 =>
  r2 (v2 + (20 : Int)) s5 T
def F_P_feeds_17  (r2 : Int → zt_S → zt_T → Option (Int × zt_S × zt_T)) : Nat → Int → Nat → Int → zt_S → zt_T → Option (Int × zt_S × zt_T)
  | 0, _, _, _, _, _ => none
  | n + 1, v2, v3, v4, σ, T =>
  zt_ck (zt_in v4) <| if v4 < (20 : Int) then
    zt_ck (0 ≤ v4 ∧ v4 < 2147483648) <| zt_ck (0 ≤ v4 ∧ v4 < 2147483648) <| zt_ck (zt_tk T v3 (v4 / (4 : Int))) <| zt_ck (0 < T.1) <| zt_ck (zt_in (v2 + v4) ∧ zt_in (T.2.2 0 1)) <| if (v2 + v4) < (T.2.2 0 1) then
      zt_ck (0 < T.1) <| zt_ck (zt_tk T 1 (v2 + v4)) <| F_P_feeds_63 r2 (F_P_feeds_17 r2 n) v2 v3 v4 (T.2.2 1 (v2 + v4)) (zt_shl (T.2.2 v3 (v4 / (4 : Int))) (8 : Int)) (v4 / (4 : Int)) v3 σ T
    else
      F_P_feeds_63 r2 (F_P_feeds_17 r2 n) v2 v3 v4 (32 : Int) (zt_shl (T.2.2 v3 (v4 / (4 : Int))) (8 : Int)) (v4 / (4 : Int)) v3 σ T
  else
    F_P_feeds_71 r2 v2 v3 σ T
def F_P_feeds_97    (σ : zt_S) (T : zt_T) : Option (Int × zt_S × zt_T) :=
  zt_ck (0 < T.1) <| zt_ck (0 < T.1) <| zt_let (zt_tu T 0 1 (0 : Int)) fun t6 =>
  some ((T.2.2 0 1), σ, t6)
def F_P_feeds_2   : Nat → Int → zt_S → zt_T → Option (Int × zt_S × zt_T)
  | 0, _, _, _ => none
  | n + 1, v2, σ, T =>
  zt_ck (0 < T.1) <| zt_ck (zt_in v2 ∧ zt_in (T.2.2 0 1)) <| if v2 < (T.2.2 0 1) then
    zt_ck (0 < T.1 ∧ T.1 < 100000) <| zt_lT T.1 (zt_tn T 5) fun k2 t1 =>
    F_P_feeds_17 (F_P_feeds_2 n) zt_N v2 k2 (0 : Int) σ t1
  else
    F_P_feeds_97 σ T
def F_P_feeds   (σ : zt_S) (T : zt_T) : Option (Int × zt_S × zt_T) :=
  F_P_feeds_2 zt_N (0 : Int) σ T
def F_P_areDealt_136  (r103 : Int → Int → Int → Nat → Int → zt_S → zt_T → Option (Int × zt_S × zt_T)) (v1 : Int) (v2 : Int) (v3 : Int) (v5 : Nat) (v7 : Int) (x0 : Int) (x1 : Int) (σ : zt_S) (T : zt_T) : Option (Int × zt_S × zt_T) :=
  zt_ck (zt_in x1 ∧ zt_in x0) <| if x1 = x0 then
    r103 v1 v2 v3 v5 (v7 + (1 : Int)) σ T
  else
    some ((0 : Int), σ, T)
def F_P_areDealt_103   : Nat → Int → Int → Int → Nat → Int → zt_S → zt_T → Option (Int × zt_S × zt_T)
  | 0, _, _, _, _, _, _, _ => none
  | n + 1, v1, v2, v3, v5, v7, σ, T =>
  zt_ck (zt_in v7 ∧ zt_in ((4 : Int) * v1)) <| if v7 < ((4 : Int) * v1) then
    zt_ck (zt_tk T v5 v7) <| zt_by (F_C_holder (T.2.2 v5 v7) σ) fun a6 s7 =>
    zt_ck (zt_in v7 ∧ zt_in (v2 * v3)) <| if v7 < (v2 * v3) then
      zt_ck ((0 ≤ v7 ∧ v7 < 2147483648) ∧ (0 < v2 ∧ v2 < 2147483648)) <| F_P_areDealt_136 (F_P_areDealt_103 n) v1 v2 v3 v5 v7 (v7 % v2) a6 s7 T
    else
      F_P_areDealt_136 (F_P_areDealt_103 n) v1 v2 v3 v5 v7 (-1 : Int) a6 s7 T
  else
    some ((1 : Int), σ, T)
def F_P_areDealt_40   : Nat → Int → Int → Int → Nat → Int → Int → zt_S → zt_T → Option (Int × zt_S × zt_T)
  | 0, _, _, _, _, _, _, _, _ => none
  | n + 1, v1, v2, v3, v5, v6, v7, σ, T =>
  zt_ck (zt_in v7) <| if (0 : Int) < v7 then
    zt_ck (0 ≤ ((v6 * (1103 : Int)) + (12345 : Int)) ∧ ((v6 * (1103 : Int)) + (12345 : Int)) < 2147483648) <| zt_ck (zt_tk T v5 v7) <| zt_ck ((0 ≤ (((v6 * (1103 : Int)) + (12345 : Int)) % (100003 : Int)) ∧ (((v6 * (1103 : Int)) + (12345 : Int)) % (100003 : Int)) < 2147483648) ∧ (0 < (v7 + (1 : Int)) ∧ (v7 + (1 : Int)) < 2147483648)) <| zt_ck (zt_tk T v5 ((((v6 * (1103 : Int)) + (12345 : Int)) % (100003 : Int)) % (v7 + (1 : Int)))) <| zt_ck (zt_tk T v5 v7) <| zt_let (zt_tu T v5 v7 (T.2.2 v5 ((((v6 * (1103 : Int)) + (12345 : Int)) % (100003 : Int)) % (v7 + (1 : Int))))) fun t4 =>
    zt_ck ((0 ≤ (((v6 * (1103 : Int)) + (12345 : Int)) % (100003 : Int)) ∧ (((v6 * (1103 : Int)) + (12345 : Int)) % (100003 : Int)) < 2147483648) ∧ (0 < (v7 + (1 : Int)) ∧ (v7 + (1 : Int)) < 2147483648)) <| zt_ck (zt_tk t4 v5 ((((v6 * (1103 : Int)) + (12345 : Int)) % (100003 : Int)) % (v7 + (1 : Int)))) <| zt_let (zt_tu t4 v5 ((((v6 * (1103 : Int)) + (12345 : Int)) % (100003 : Int)) % (v7 + (1 : Int))) (T.2.2 v5 v7)) fun t5 =>
    F_P_areDealt_40 n v1 v2 v3 v5 (((v6 * (1103 : Int)) + (12345 : Int)) % (100003 : Int)) (v7 + (-1 : Int)) σ t5
  else
    F_P_areDealt_103 zt_N v1 v2 v3 v5 (0 : Int) σ T
def F_P_areDealt_9   : Nat → Int → Int → Int → Int → Nat → Int → zt_S → zt_T → Option (Int × zt_S × zt_T)
  | 0, _, _, _, _, _, _, _, _ => none
  | n + 1, v1, v2, v3, v4, v5, v6, σ, T =>
  zt_ck (zt_in v6) <| if v6 < (52 : Int) then
    zt_ck (zt_tk T v5 v6) <| zt_let (zt_tu T v5 v6 v6) fun t3 =>
    F_P_areDealt_9 n v1 v2 v3 v4 v5 (v6 + (1 : Int)) σ t3
  else
    F_P_areDealt_40 zt_N v1 v2 v3 v5 v4 (((4 : Int) * v1) - (1 : Int)) σ T
def F_P_areDealt  (v1 : Int) (v2 : Int) (v3 : Int) (v4 : Int) (σ : zt_S) (T : zt_T) : Option (Int × zt_S × zt_T) :=
  zt_ck (0 < T.1 ∧ T.1 < 100000) <| zt_lT T.1 (zt_tn T 52) fun k2 t1 =>
  F_P_areDealt_9 zt_N v1 v2 v3 v4 k2 (0 : Int) σ t1
def F_P_loads_362 (X : q_X)    (σ : zt_S) (T : zt_T) : Option (Int × zt_S × zt_T) :=
  some ((0 : Int), σ, T)
def F_P_loads_330 (X : q_X)   (v4 : Int) (v5 : Int) (v6 : Int) (v12 : Int) (v13 : Int) (x0 : Int) (x1 : Int) (σ : zt_S) (T : zt_T) : Option (Int × zt_S × zt_T) :=
  zt_ck (zt_in x1 ∧ zt_in x0) <| if x1 = x0 then
    zt_by (F_C_size (9 : Int) σ) fun a60 s61 =>
    zt_ck (zt_in a60 ∧ zt_in v12) <| if a60 = v12 then
      zt_by (F_C_size (12 : Int) s61) fun a62 s63 =>
      zt_ck (zt_in a62) <| if a62 = (0 : Int) then
        zt_by (F_C_size (13 : Int) s63) fun a64 s65 =>
        zt_ck (zt_in a64) <| if a64 = (0 : Int) then
          zt_bt (F_P_areDealt v4 v5 v6 v13 s65 T) fun a66 s67 t68 =>
          zt_ck (a66 = 0 ∨ a66 = 1) <| some (a66, s67, t68)
        else
          F_P_loads_362 X s65 T
      else
        F_P_loads_362 X s63 T
    else
      F_P_loads_362 X s61 T
  else
    F_P_loads_362 X σ T
def F_P_loads_302 (X : q_X)    (σ : zt_S) (T : zt_T) : Option (Int × zt_S × zt_T) :=
  some ((0 : Int), σ, T)
def F_P_loads_207 (X : q_X)   (v4 : Int) (v5 : Int) (v6 : Int) (v7 : Int) (v8 : Int) (v9 : Int) (v12 : Int) (v13 : Int) (σ : zt_S) (T : zt_T) : Option (Int × zt_S × zt_T) :=
  zt_ck (0 < T.1) <| zt_bt (F_P_writes (q_big + 1 + 17) σ T) fun _ s27 t28 =>
  zt_ck (0 < t28.1) <| zt_bt (F_P_spaced v12 s27 t28) fun _ s30 t31 =>
  zt_ck (0 < t31.1) <| zt_bt (F_P_writes (q_big + 1 + 18) s30 t31) fun _ s33 t34 =>
  zt_ck (0 < t34.1) <| zt_bt (F_P_spaced v13 s33 t34) fun _ s36 t37 =>
  zt_ck (0 < t37.1) <| zt_bt (F_P_writes (q_big + 1 + 19) s36 t37) fun _ s39 t40 =>
  zt_ck (0 < t40.1) <| zt_bt (F_P_feeds s39 t40) fun a41 s42 t43 =>
  zt_by (F_C_load a41 s42) fun a44 s45 =>
  zt_ck (zt_in a44 ∧ zt_in (v5 * v6)) <| if a44 = (v5 * v6) then
    zt_bd (F_C_errorPosition s45) fun a46 s47 =>
    zt_ck (zt_in a46) <| if a46 = (-1 : Int) then
      zt_by (F_C_size (0 : Int) s47) fun a48 s49 =>
      zt_ck (zt_in a48 ∧ zt_in v4) <| if a48 = v4 then
        zt_by (F_C_size (1 : Int) s49) fun a50 s51 =>
        zt_ck (zt_in a50 ∧ zt_in v5) <| if a50 = v5 then
          zt_by (F_C_size (2 : Int) s51) fun a52 s53 =>
          zt_ck (zt_in a52 ∧ zt_in v6) <| if a52 = v6 then
            zt_by (F_C_size (3 : Int) s53) fun a54 s55 =>
            zt_ck (zt_in a54 ∧ zt_in v7) <| if a54 = v7 then
              zt_by (F_C_size (4 : Int) s55) fun a56 s57 =>
              zt_ck (zt_in a56 ∧ zt_in v8) <| if a56 = v8 then
                zt_by (F_C_size (5 : Int) s57) fun a58 s59 =>
                zt_ck (zt_in v8) <| if v8 < (0 : Int) then
                  F_P_loads_330 X v4 v5 v6 v12 v13 (0 : Int) a58 s59 t43
                else
                  F_P_loads_330 X v4 v5 v6 v12 v13 v9 a58 s59 t43
              else
                F_P_loads_362 X s57 t43
            else
              F_P_loads_302 X s55 t43
          else
            F_P_loads_302 X s53 t43
        else
          F_P_loads_302 X s51 t43
      else
        F_P_loads_302 X s49 t43
    else
      F_P_loads_302 X s47 t43
  else
    F_P_loads_302 X s45 t43
def F_P_loads_98 (X : q_X)   (v3 : Int) (v4 : Int) (v5 : Int) (v6 : Int) (v7 : Int) (v8 : Int) (v9 : Int) (v10 : Int) (x0 : Int) (σ : zt_S) (T : zt_T) : Option (Int × zt_S × zt_T) :=
  zt_ck (0 ≤ v3 ∧ v3 < 2147483648) <| zt_ck ((0 ≤ (v3 / (224640 : Int)) ∧ (v3 / (224640 : Int)) < 2147483648) ∧ (0 < v5 ∧ v5 < 2147483648)) <| zt_bt (F_P_cell X (1 : Int) σ T) fun a5 s6 t7 =>
  zt_ck (0 ≤ a5 ∧ a5 < 2147483648) <| zt_ck (0 < t7.1) <| zt_bt (F_P_writes (q_big + 1 + 10) s6 t7) fun _ s9 t10 =>
  zt_ck (0 < t10.1) <| zt_bt (F_P_spaced v4 s9 t10) fun _ s12 t13 =>
  zt_ck (0 < t13.1) <| zt_bt (F_P_spaced v5 s12 t13) fun _ s15 t16 =>
  zt_ck (0 < t16.1) <| zt_bt (F_P_spaced v6 s15 t16) fun _ s18 t19 =>
  zt_ck (0 < t19.1) <| zt_bt (F_P_writes (q_big + 1 + 12) s18 t19) fun _ s21 t22 =>
  zt_ck (0 < t22.1) <| zt_bt (F_P_spaced v7 s21 t22) fun _ s24 t25 =>
  zt_ck (zt_in v8) <| if v8 < (0 : Int) then
    F_P_loads_207 X v4 v5 v6 v7 v8 v9 ((v3 / (224640 : Int)) % v5) (a5 % (100000 : Int)) s24 t25
  else
    zt_ck (0 < t25.1) <| zt_bt (F_P_writes (q_big + 1 + 13) s24 t25) fun _ s70 t71 =>
    zt_ck (0 < t71.1) <| zt_bt (F_P_spaced v8 s70 t71) fun _ s73 t74 =>
    zt_ck (0 < t74.1) <| zt_bt (F_P_writes (q_big + 1 + 14) s73 t74) fun _ s76 t77 =>
    zt_ck (0 < t77.1) <| zt_bt (F_P_spaced v9 s76 t77) fun _ s79 t80 =>
    zt_ck (0 < t80.1) <| zt_bt (F_P_writes (q_big + 1 + 15) s79 t80) fun _ s82 t83 =>
    zt_ck (0 < t83.1) <| zt_bt (F_P_spaced v10 s82 t83) fun _ s85 t86 =>
    zt_ck (zt_in x0) <| if x0 = (0 : Int) then
      F_P_loads_207 X v4 v5 v6 v7 v8 v9 ((v3 / (224640 : Int)) % v5) (a5 % (100000 : Int)) s85 t86
    else
      zt_ck (0 < t86.1) <| zt_bt (F_P_writes (q_big + 1 + 16) s85 t86) fun _ s88 t89 =>
      F_P_loads_207 X v4 v5 v6 v7 v8 v9 ((v3 / (224640 : Int)) % v5) (a5 % (100000 : Int)) s88 t89
def F_P_loads (X : q_X)   (σ : zt_S) (T : zt_T) : Option (Int × zt_S × zt_T) :=
  zt_bt (F_P_cell X (0 : Int) σ T) fun a1 s2 t3 =>
  zt_ck (0 ≤ a1 ∧ a1 < 2147483648) <| zt_ck (0 ≤ a1 ∧ a1 < 2147483648) <| zt_ck (0 ≤ (a1 / (6 : Int)) ∧ (a1 / (6 : Int)) < 2147483648) <| zt_ck (0 ≤ a1 ∧ a1 < 2147483648) <| zt_ck ((0 ≤ ((4 : Int) * ((4 : Int) + (a1 % (6 : Int)))) ∧ ((4 : Int) * ((4 : Int) + (a1 % (6 : Int)))) < 2147483648) ∧ (0 < ((2 : Int) + ((a1 / (6 : Int)) % (3 : Int))) ∧ ((2 : Int) + ((a1 / (6 : Int)) % (3 : Int))) < 2147483648)) <| zt_ck (zt_in (((4 : Int) * ((4 : Int) + (a1 % (6 : Int)))) / ((2 : Int) + ((a1 / (6 : Int)) % (3 : Int))))) <| zt_ck ((0 ≤ (a1 / (18 : Int)) ∧ (a1 / (18 : Int)) < 2147483648) ∧ (0 < (if (6 : Int) < (((4 : Int) * ((4 : Int) + (a1 % (6 : Int)))) / ((2 : Int) + ((a1 / (6 : Int)) % (3 : Int)))) then (6 : Int) else (((4 : Int) * ((4 : Int) + (a1 % (6 : Int)))) / ((2 : Int) + ((a1 / (6 : Int)) % (3 : Int))))) ∧ (if (6 : Int) < (((4 : Int) * ((4 : Int) + (a1 % (6 : Int)))) / ((2 : Int) + ((a1 / (6 : Int)) % (3 : Int)))) then (6 : Int) else (((4 : Int) * ((4 : Int) + (a1 % (6 : Int)))) / ((2 : Int) + ((a1 / (6 : Int)) % (3 : Int))))) < 2147483648)) <| zt_let ((1 : Int) + ((a1 / (18 : Int)) % (if (6 : Int) < (((4 : Int) * ((4 : Int) + (a1 % (6 : Int)))) / ((2 : Int) + ((a1 / (6 : Int)) % (3 : Int)))) then (6 : Int) else (((4 : Int) * ((4 : Int) + (a1 % (6 : Int)))) / ((2 : Int) + ((a1 / (6 : Int)) % (3 : Int))))))) fun e4 =>
  zt_ck (0 ≤ a1 ∧ a1 < 2147483648) <| zt_ck (0 ≤ (a1 / (108 : Int)) ∧ (a1 / (108 : Int)) < 2147483648) <| zt_ck (0 ≤ a1 ∧ a1 < 2147483648) <| zt_ck (0 ≤ (a1 / (432 : Int)) ∧ (a1 / (432 : Int)) < 2147483648) <| zt_ck (0 ≤ a1 ∧ a1 < 2147483648) <| zt_ck (0 ≤ (a1 / (2160 : Int)) ∧ (a1 / (2160 : Int)) < 2147483648) <| zt_ck (0 ≤ a1 ∧ a1 < 2147483648) <| zt_ck (0 ≤ (a1 / (28080 : Int)) ∧ (a1 / (28080 : Int)) < 2147483648) <| zt_ck (0 ≤ a1 ∧ a1 < 2147483648) <| zt_ck (0 ≤ (a1 / (112320 : Int)) ∧ (a1 / (112320 : Int)) < 2147483648) <| zt_ck (zt_in ((a1 / (112320 : Int)) % (2 : Int))) <| if ((a1 / (112320 : Int)) % (2 : Int)) = (1 : Int) then
    F_P_loads_98 X a1 ((4 : Int) + (a1 % (6 : Int))) ((2 : Int) + ((a1 / (6 : Int)) % (3 : Int))) e4 ((a1 / (108 : Int)) % (4 : Int)) (((a1 / (432 : Int)) % (5 : Int)) - (1 : Int)) ((a1 / (2160 : Int)) % (13 : Int)) ((a1 / (28080 : Int)) % (4 : Int)) (1 : Int) s2 t3
  else
    F_P_loads_98 X a1 ((4 : Int) + (a1 % (6 : Int))) ((2 : Int) + ((a1 / (6 : Int)) % (3 : Int))) e4 ((a1 / (108 : Int)) % (4 : Int)) (((a1 / (432 : Int)) % (5 : Int)) - (1 : Int)) ((a1 / (2160 : Int)) % (13 : Int)) ((a1 / (28080 : Int)) % (4 : Int)) (0 : Int) s2 t3
def F_P_acts_60   (v2 : Int) (σ : zt_S) (T : zt_T) : Option (Int × zt_S × zt_T) :=
  zt_by (F_C_size (9 : Int) σ) fun a1 s2 =>
  zt_ck (zt_in a1) <| if a1 < (0 : Int) then
    zt_ck (0 ≤ v2 ∧ v2 < 2147483648) <| zt_by (F_C_deal (v2 % (100000 : Int)) s2) fun a3 s4 =>
    some (a3, s4, T)
  else
    zt_by (F_C_held a1 s2) fun a5 s6 =>
    zt_ck ((0 ≤ v2 ∧ v2 < 2147483648) ∧ (0 < a5 ∧ a5 < 2147483648)) <| zt_by (F_C_inHand a1 (v2 % a5) s6) fun a7 s8 =>
    zt_by (F_C_play a7 s8) fun a9 s10 =>
    some (a9, s10, T)
def F_P_acts_97   (v2 : Int) (σ : zt_S) (T : zt_T) : Option (Int × zt_S × zt_T) :=
  zt_ck (0 ≤ v2 ∧ v2 < 2147483648) <| zt_by (F_C_auto ((1 : Int) + (v2 % (3 : Int))) σ) fun a11 s12 =>
  some (a11, s12, T)
def F_P_acts_137   (x0 : Int) (σ : zt_S) (T : zt_T) : Option (Int × zt_S × zt_T) :=
  some (x0, σ, T)
def F_P_acts_107   (v2 : Int) (σ : zt_S) (T : zt_T) : Option (Int × zt_S × zt_T) :=
  zt_by (F_C_size (9 : Int) σ) fun a13 s14 =>
  zt_ck (zt_in a13) <| if a13 < (0 : Int) then
    zt_ck (0 ≤ v2 ∧ v2 < 2147483648) <| zt_by (F_C_deal (v2 % (100000 : Int)) s14) fun a15 s16 =>
    F_P_acts_137 a15 s16 T
  else
    zt_ck (0 ≤ v2 ∧ v2 < 2147483648) <| zt_by (F_C_auto ((1 : Int) + (v2 % (9 : Int))) s14) fun a17 s18 =>
    F_P_acts_137 a17 s18 T
def F_P_acts_138   (v2 : Int) (σ : zt_S) (T : zt_T) : Option (Int × zt_S × zt_T) :=
  zt_by (F_C_size (1 : Int) σ) fun a19 s20 =>
  zt_ck ((0 ≤ v2 ∧ v2 < 2147483648) ∧ (0 < a19 ∧ a19 < 2147483648)) <| zt_ck (0 ≤ v2 ∧ v2 < 2147483648) <| zt_by (F_C_size (2 : Int) s20) fun a21 s22 =>
  zt_ck ((0 ≤ (v2 / (4 : Int)) ∧ (v2 / (4 : Int)) < 2147483648) ∧ (0 < (a21 + (1 : Int)) ∧ (a21 + (1 : Int)) < 2147483648)) <| zt_by (F_C_tell (v2 % a19) ((v2 / (4 : Int)) % (a21 + (1 : Int))) s22) fun a23 s24 =>
  some (a23, s24, T)
def F_P_acts_161   (v2 : Int) (σ : zt_S) (T : zt_T) : Option (Int × zt_S × zt_T) :=
  zt_ck (0 ≤ v2 ∧ v2 < 2147483648) <| zt_by (F_C_setTrump ((v2 % (5 : Int)) - (1 : Int)) σ) fun a25 s26 =>
  some (a25, s26, T)
def F_P_acts_171   (v2 : Int) (σ : zt_S) (T : zt_T) : Option (Int × zt_S × zt_T) :=
  zt_ck (0 ≤ v2 ∧ v2 < 2147483648) <| zt_by (F_C_setRule (v2 % (4 : Int)) σ) fun a27 s28 =>
  some (a27, s28, T)
def F_P_acts_179   (v2 : Int) (σ : zt_S) (T : zt_T) : Option (Int × zt_S × zt_T) :=
  zt_ck (0 ≤ v2 ∧ v2 < 2147483648) <| zt_by (F_C_setFade (v2 % (10 : Int)) σ) fun a29 s30 =>
  some (a29, s30, T)
def F_P_acts_200   (x0 : Int) (σ : zt_S) (T : zt_T) : Option (Int × zt_S × zt_T) :=
  zt_bd (F_C_setRevive x0 σ) fun a31 s32 =>
  some (a31, s32, T)
def F_P_acts_188   (v2 : Int) (σ : zt_S) (T : zt_T) : Option (Int × zt_S × zt_T) :=
  zt_ck (0 ≤ v2 ∧ v2 < 2147483648) <| zt_ck (zt_in (v2 % (2 : Int))) <| if (v2 % (2 : Int)) = (0 : Int) then
    F_P_acts_200 (1 : Int) σ T
  else
    F_P_acts_200 (0 : Int) σ T
def F_P_acts  (v1 : Int) (σ : zt_S) (T : zt_T) : Option (Int × zt_S × zt_T) :=
  zt_ck (0 ≤ v1 ∧ v1 < 2147483648) <| zt_ck (0 ≤ v1 ∧ v1 < 2147483648) <| zt_ck (zt_in (v1 % (10 : Int))) <| if (v1 % (10 : Int)) = (0 : Int) then
    F_P_acts_60 (v1 / (10 : Int)) σ T
  else if (v1 % (10 : Int)) = (1 : Int) then
    F_P_acts_60 (v1 / (10 : Int)) σ T
  else if (v1 % (10 : Int)) = (2 : Int) then
    F_P_acts_60 (v1 / (10 : Int)) σ T
  else if (v1 % (10 : Int)) = (3 : Int) then
    F_P_acts_97 (v1 / (10 : Int)) σ T
  else if (v1 % (10 : Int)) = (4 : Int) then
    F_P_acts_107 (v1 / (10 : Int)) σ T
  else if (v1 % (10 : Int)) = (5 : Int) then
    F_P_acts_138 (v1 / (10 : Int)) σ T
  else if (v1 % (10 : Int)) = (6 : Int) then
    F_P_acts_161 (v1 / (10 : Int)) σ T
  else if (v1 % (10 : Int)) = (7 : Int) then
    F_P_acts_171 (v1 / (10 : Int)) σ T
  else if (v1 % (10 : Int)) = (8 : Int) then
    F_P_acts_179 (v1 / (10 : Int)) σ T
  else 
  F_P_acts_188 (v1 / (10 : Int)) σ T
def F_P_isOnce_60    (σ : zt_S) (T : zt_T) : Option (Int × zt_S × zt_T) :=
  some ((0 : Int), σ, T)
def F_P_isOnce_24  (r9 : Nat → Int → Int → zt_S → zt_T → Option (Int × zt_S × zt_T)) : Nat → Nat → Int → Int → Int → Int → zt_S → zt_T → Option (Int × zt_S × zt_T)
  | 0, _, _, _, _, _, _, _ => none
  | n + 1, v1, v2, v3, v4, v5, σ, T =>
  zt_by (F_C_held v3 σ) fun a5 s6 =>
  zt_ck (zt_in v5 ∧ zt_in a5) <| if v5 < a5 then
    zt_by (F_C_inHand v3 v5 s6) fun a7 s8 =>
    zt_ck (zt_in a7 ∧ zt_in v4) <| if v4 < a7 then
      zt_by (F_C_holder a7 s8) fun a9 s10 =>
      zt_ck (zt_in a9 ∧ zt_in v3) <| if a9 = v3 then
        zt_ck (zt_tk T v1 a7) <| zt_ck (zt_tk T v1 a7) <| zt_let (zt_tu T v1 a7 ((T.2.2 v1 a7) + (1 : Int))) fun t11 =>
        F_P_isOnce_24 r9 n v1 (v2 + (1 : Int)) v3 a7 (v5 + (1 : Int)) s10 t11
      else
        F_P_isOnce_60 s10 T
    else
      F_P_isOnce_60 s8 T
  else
    r9 v1 v2 (v3 + (1 : Int)) s6 T
def F_P_isOnce_135    (σ : zt_S) (T : zt_T) : Option (Int × zt_S × zt_T) :=
  some ((0 : Int), σ, T)
def F_P_isOnce_229   (x0 : Int) (σ : zt_S) (T : zt_T) : Option (Int × zt_S × zt_T) :=
  zt_ck (x0 = 0 ∨ x0 = 1) <| some (x0, σ, T)
def F_P_isOnce_228    (σ : zt_S) (T : zt_T) : Option (Int × zt_S × zt_T) :=
  F_P_isOnce_229 (0 : Int) σ T
def F_P_isOnce_221   (x0 : Int) (x1 : Int) (σ : zt_S) (T : zt_T) : Option (Int × zt_S × zt_T) :=
  zt_ck (zt_in x1 ∧ zt_in x0) <| if x1 = x0 then
    F_P_isOnce_229 (1 : Int) σ T
  else
    F_P_isOnce_228 σ T
def F_P_isOnce_206   (v2 : Int) (x0 : Int) (σ : zt_S) (T : zt_T) : Option (Int × zt_S × zt_T) :=
  zt_by (F_C_size (12 : Int) σ) fun a29 s30 =>
  zt_ck (zt_in a29 ∧ zt_in v2) <| if a29 = v2 then
    F_P_isOnce_221 (1 : Int) x0 s30 T
  else
    F_P_isOnce_221 (0 : Int) x0 s30 T
def F_P_isOnce_177   (v2 : Int) (σ : zt_S) (T : zt_T) : Option (Int × zt_S × zt_T) :=
  zt_by (F_C_size (1 : Int) σ) fun a23 s24 =>
  zt_by (F_C_size (2 : Int) s24) fun a25 s26 =>
  zt_ck (zt_in v2 ∧ zt_in (a23 * a25)) <| if v2 = (a23 * a25) then
    zt_by (F_C_size (9 : Int) s26) fun a27 s28 =>
    zt_ck (zt_in a27) <| if a27 < (0 : Int) then
      F_P_isOnce_206 v2 (1 : Int) s28 T
    else
      F_P_isOnce_206 v2 (0 : Int) s28 T
  else
    F_P_isOnce_228 s26 T
def F_P_isOnce_156   : Nat → Nat → Int → Int → zt_S → zt_T → Option (Int × zt_S × zt_T)
  | 0, _, _, _, _, _ => none
  | n + 1, v1, v2, v3, σ, T =>
  zt_ck (zt_in v3) <| if v3 < (52 : Int) then
    zt_ck (zt_tk T v1 v3) <| zt_ck (zt_in (T.2.2 v1 v3)) <| if (1 : Int) < (T.2.2 v1 v3) then
      some ((0 : Int), σ, T)
    else
      F_P_isOnce_156 n v1 v2 (v3 + (1 : Int)) σ T
  else
    F_P_isOnce_177 v2 σ T
def F_P_isOnce_91   : Nat → Nat → Int → Int → zt_S → zt_T → Option (Int × zt_S × zt_T)
  | 0, _, _, _, _, _ => none
  | n + 1, v1, v2, v3, σ, T =>
  zt_by (F_C_size (12 : Int) σ) fun a12 s13 =>
  zt_ck (zt_in v3 ∧ zt_in a12) <| if v3 < a12 then
    zt_by (F_C_played v3 (0 : Int) s13) fun a14 s15 =>
    zt_by (F_C_holder a14 s15) fun a16 s17 =>
    zt_ck (zt_in a16) <| if a16 = (-1 : Int) then
      zt_by (F_C_played v3 (2 : Int) s17) fun a18 s19 =>
      zt_by (F_C_size (1 : Int) s19) fun a20 s21 =>
      zt_ck ((0 ≤ v3 ∧ v3 < 2147483648) ∧ (0 < a20 ∧ a20 < 2147483648)) <| zt_ck (zt_in a18 ∧ zt_in (v3 / a20)) <| if a18 = (v3 / a20) then
        zt_ck (zt_tk T v1 a14) <| zt_ck (zt_tk T v1 a14) <| zt_let (zt_tu T v1 a14 ((T.2.2 v1 a14) + (1 : Int))) fun t22 =>
        F_P_isOnce_91 n v1 (v2 + (1 : Int)) (v3 + (1 : Int)) s21 t22
      else
        F_P_isOnce_135 s21 T
    else
      F_P_isOnce_135 s17 T
  else
    F_P_isOnce_156 zt_N v1 v2 (0 : Int) s13 T
def F_P_isOnce_9   : Nat → Nat → Int → Int → zt_S → zt_T → Option (Int × zt_S × zt_T)
  | 0, _, _, _, _, _ => none
  | n + 1, v1, v2, v3, σ, T =>
  zt_by (F_C_size (1 : Int) σ) fun a3 s4 =>
  zt_ck (zt_in v3 ∧ zt_in a3) <| if v3 < a3 then
    F_P_isOnce_24 (F_P_isOnce_9 n) zt_N v1 v2 v3 (-1 : Int) (0 : Int) s4 T
  else
    F_P_isOnce_91 zt_N v1 v2 (0 : Int) s4 T
def F_P_isOnce   (σ : zt_S) (T : zt_T) : Option (Int × zt_S × zt_T) :=
  zt_ck (0 < T.1 ∧ T.1 < 100000) <| zt_lT T.1 (zt_tn T 52) fun k2 t1 =>
  F_P_isOnce_9 zt_N k2 (0 : Int) (0 : Int) σ t1
def F_P_power_38   (x0 : Int) (σ : zt_S) (T : zt_T) : Option (Int × zt_S × zt_T) :=
  some (x0, σ, T)
def F_P_power  (v1 : Int) (v2 : Int) (v3 : Int) (v4 : Int) (σ : zt_S) (T : zt_T) : Option (Int × zt_S × zt_T) :=
  zt_by (F_C_suit v1 σ) fun a1 s2 =>
  zt_ck (zt_in a1 ∧ zt_in v3) <| if a1 = v3 then
    zt_by (F_C_rank v1 s2) fun a3 s4 =>
    F_P_power_38 (a3 + v4) s4 T
  else
    zt_by (F_C_suit v1 s2) fun a5 s6 =>
    zt_ck (zt_in a5 ∧ zt_in v2) <| if a5 = v2 then
      zt_by (F_C_rank v1 s6) fun a7 s8 =>
      F_P_power_38 a7 s8 T
    else
      F_P_power_38 (0 : Int) s6 T
def F_P_areLegal_100  (r45 : Int → Int → Int → Int → Int → Int → Int → Int → zt_S → zt_T → Option (Int × zt_S × zt_T)) (v1 : Int) (v2 : Int) (v3 : Int) (v4 : Int) (v5 : Int) (v6 : Int) (v7 : Int) (v8 : Int) (σ : zt_S) (T : zt_T) : Option (Int × zt_S × zt_T) :=
  r45 v1 v2 v3 v4 v5 v6 v7 (v8 + (1 : Int)) σ T
def F_P_areLegal_483  (r250 : Int → Int → Int → Int → Int → Int → Int → zt_S → zt_T → Option (Int × zt_S × zt_T)) (v1 : Int) (v3 : Int) (v4 : Int) (v6 : Int) (v8 : Int) (v9 : Int) (x0 : Int) (x1 : Int) (σ : zt_S) (T : zt_T) : Option (Int × zt_S × zt_T) :=
  r250 v1 (x1 + x0) v3 v4 v6 v8 (v9 + (1 : Int)) σ T
def F_P_areLegal_459  (r250 : Int → Int → Int → Int → Int → Int → Int → zt_S → zt_T → Option (Int × zt_S × zt_T)) (v1 : Int) (v2 : Int) (v3 : Int) (v4 : Int) (v6 : Int) (v8 : Int) (v9 : Int) (v11 : Int) (σ : zt_S) (T : zt_T) : Option (Int × zt_S × zt_T) :=
  zt_by (F_C_isLegal v9 σ) fun a41 s42 =>
  zt_ck (zt_in a41 ∧ zt_in v11) <| if a41 = v11 then
    zt_ck (zt_in v11) <| if v11 = (0 : Int) then
      F_P_areLegal_483 r250 v1 v3 v4 v6 v8 v9 (0 : Int) v2 s42 T
    else
      F_P_areLegal_483 r250 v1 v3 v4 v6 v8 v9 (1 : Int) v2 s42 T
  else
    some ((0 : Int), s42, T)
def F_P_areLegal_412  (r250 : Int → Int → Int → Int → Int → Int → Int → zt_S → zt_T → Option (Int × zt_S × zt_T)) (v1 : Int) (v2 : Int) (v3 : Int) (v4 : Int) (v6 : Int) (v8 : Int) (v9 : Int) (x0 : Int) (σ : zt_S) (T : zt_T) : Option (Int × zt_S × zt_T) :=
  F_P_areLegal_459 r250 v1 v2 v3 v4 v6 v8 v9 x0 σ T
def F_P_areLegal_407  (r250 : Int → Int → Int → Int → Int → Int → Int → zt_S → zt_T → Option (Int × zt_S × zt_T)) (v1 : Int) (v2 : Int) (v3 : Int) (v4 : Int) (v6 : Int) (v8 : Int) (v9 : Int) (σ : zt_S) (T : zt_T) : Option (Int × zt_S × zt_T) :=
  F_P_areLegal_412 r250 v1 v2 v3 v4 v6 v8 v9 (1 : Int) σ T
def F_P_areLegal_411  (r250 : Int → Int → Int → Int → Int → Int → Int → zt_S → zt_T → Option (Int × zt_S × zt_T)) (v1 : Int) (v2 : Int) (v3 : Int) (v4 : Int) (v6 : Int) (v8 : Int) (v9 : Int) (σ : zt_S) (T : zt_T) : Option (Int × zt_S × zt_T) :=
  F_P_areLegal_412 r250 v1 v2 v3 v4 v6 v8 v9 (0 : Int) σ T
def F_P_areLegal_457  (r250 : Int → Int → Int → Int → Int → Int → Int → zt_S → zt_T → Option (Int × zt_S × zt_T)) (v1 : Int) (v2 : Int) (v3 : Int) (v4 : Int) (v6 : Int) (v8 : Int) (v9 : Int) (x0 : Int) (σ : zt_S) (T : zt_T) : Option (Int × zt_S × zt_T) :=
  F_P_areLegal_459 r250 v1 v2 v3 v4 v6 v8 v9 x0 σ T
def F_P_areLegal_348  (r250 : Int → Int → Int → Int → Int → Int → Int → zt_S → zt_T → Option (Int × zt_S × zt_T)) (v1 : Int) (v2 : Int) (v3 : Int) (v4 : Int) (v6 : Int) (v8 : Int) (v9 : Int) (v10 : Int) (x0 : Int) (σ : zt_S) (T : zt_T) : Option (Int × zt_S × zt_T) :=
  zt_ck (zt_in x0) <| if x0 = (0 : Int) then
    F_P_areLegal_459 r250 v1 v2 v3 v4 v6 v8 v9 x0 σ T
  else
    zt_by (F_C_size (3 : Int) σ) fun a43 s44 =>
    zt_ck (zt_in a43) <| if (0 : Int) < a43 then
      zt_ck (zt_in v3) <| if v3 < (0 : Int) then
        F_P_areLegal_459 r250 v1 v2 v3 v4 v6 v8 v9 x0 s44 T
      else
        zt_by (F_C_ofSuit v1 v3 s44) fun a45 s46 =>
        zt_ck (zt_in a45) <| if (0 : Int) < a45 then
          zt_by (F_C_suit v9 s46) fun a47 s48 =>
          zt_ck (zt_in a47 ∧ zt_in v3) <| if a47 = v3 then
            zt_by (F_C_size (3 : Int) s48) fun a49 s50 =>
            zt_ck (zt_in a49) <| if a49 = (2 : Int) then
              zt_ck (zt_in v8) <| if v8 = (0 : Int) then
                F_P_areLegal_407 r250 v1 v2 v3 v4 v6 v8 v9 s50 T
              else
                zt_ck (zt_in v10 ∧ zt_in v6) <| if v6 < v10 then
                  F_P_areLegal_407 r250 v1 v2 v3 v4 v6 v8 v9 s50 T
                else
                  F_P_areLegal_411 r250 v1 v2 v3 v4 v6 v8 v9 s50 T
            else
              F_P_areLegal_407 r250 v1 v2 v3 v4 v6 v8 v9 s50 T
          else
            F_P_areLegal_411 r250 v1 v2 v3 v4 v6 v8 v9 s48 T
        else
          zt_by (F_C_size (3 : Int) s46) fun a51 s52 =>
          zt_ck (zt_in a51) <| if a51 = (3 : Int) then
            zt_ck (zt_in v4) <| if v4 < (0 : Int) then
              F_P_areLegal_459 r250 v1 v2 v3 v4 v6 v8 v9 x0 s52 T
            else
              zt_by (F_C_ofSuit v1 v4 s52) fun a53 s54 =>
              zt_ck (zt_in a53) <| if (0 : Int) < a53 then
                zt_by (F_C_suit v9 s54) fun a55 s56 =>
                zt_ck (zt_in a55 ∧ zt_in v4) <| if a55 = v4 then
                  F_P_areLegal_457 r250 v1 v2 v3 v4 v6 v8 v9 (1 : Int) s56 T
                else
                  F_P_areLegal_457 r250 v1 v2 v3 v4 v6 v8 v9 (0 : Int) s56 T
              else
                F_P_areLegal_459 r250 v1 v2 v3 v4 v6 v8 v9 x0 s54 T
          else
            F_P_areLegal_459 r250 v1 v2 v3 v4 v6 v8 v9 x0 s52 T
    else
      F_P_areLegal_459 r250 v1 v2 v3 v4 v6 v8 v9 x0 s44 T
def F_P_areLegal_347  (r250 : Int → Int → Int → Int → Int → Int → Int → zt_S → zt_T → Option (Int × zt_S × zt_T)) (v1 : Int) (v2 : Int) (v3 : Int) (v4 : Int) (v6 : Int) (v8 : Int) (v9 : Int) (v10 : Int) (σ : zt_S) (T : zt_T) : Option (Int × zt_S × zt_T) :=
  F_P_areLegal_348 r250 v1 v2 v3 v4 v6 v8 v9 v10 (0 : Int) σ T
def F_P_areLegal_327    (σ : zt_S) (T : zt_T) : Option (Int × zt_S × zt_T) :=
  some ((0 : Int), σ, T)
def F_P_areLegal_324  (r250 : Int → Int → Int → Int → Int → Int → Int → zt_S → zt_T → Option (Int × zt_S × zt_T)) (v1 : Int) (v2 : Int) (v3 : Int) (v4 : Int) (v6 : Int) (v8 : Int) (v9 : Int) (v10 : Int) (x0 : Int) (x1 : Int) (σ : zt_S) (T : zt_T) : Option (Int × zt_S × zt_T) :=
  zt_ck (zt_in x1 ∧ zt_in x0) <| if x1 = x0 then
    zt_ck (zt_in v1) <| if v1 < (0 : Int) then
      F_P_areLegal_347 r250 v1 v2 v3 v4 v6 v8 v9 v10 σ T
    else
      zt_by (F_C_holder v9 σ) fun a57 s58 =>
      zt_ck (zt_in a57 ∧ zt_in v1) <| if a57 = v1 then
        F_P_areLegal_348 r250 v1 v2 v3 v4 v6 v8 v9 v10 (1 : Int) s58 T
      else
        F_P_areLegal_347 r250 v1 v2 v3 v4 v6 v8 v9 v10 s58 T
  else
    F_P_areLegal_327 σ T
def F_P_areLegal_319  (r250 : Int → Int → Int → Int → Int → Int → Int → zt_S → zt_T → Option (Int × zt_S × zt_T)) (v1 : Int) (v2 : Int) (v3 : Int) (v4 : Int) (v6 : Int) (v8 : Int) (v9 : Int) (v10 : Int) (x0 : Int) (σ : zt_S) (T : zt_T) : Option (Int × zt_S × zt_T) :=
  F_P_areLegal_324 r250 v1 v2 v3 v4 v6 v8 v9 v10 (1 : Int) x0 σ T
def F_P_areLegal_279  (r250 : Int → Int → Int → Int → Int → Int → Int → zt_S → zt_T → Option (Int × zt_S × zt_T)) (v1 : Int) (v2 : Int) (v3 : Int) (v4 : Int) (v6 : Int) (v8 : Int) (v9 : Int) (x0 : Int) (x1 : Int) (σ : zt_S) (T : zt_T) : Option (Int × zt_S × zt_T) :=
  zt_by (F_C_size (5 : Int) σ) fun a32 s33 =>
  zt_bt (F_P_power x1 x0 v4 a32 s33 T) fun a34 s35 t36 =>
  zt_by (F_C_power v9 s35) fun a37 s38 =>
  zt_ck (zt_in a37 ∧ zt_in a34) <| if a37 = a34 then
    zt_by (F_C_wouldLead v9 s38) fun a39 s40 =>
    zt_ck (zt_in v3) <| if v3 < (0 : Int) then
      F_P_areLegal_319 r250 v1 v2 v3 v4 v6 v8 v9 a34 a39 s40 t36
    else
      zt_ck (zt_in a34 ∧ zt_in v6) <| if v6 < a34 then
        F_P_areLegal_319 r250 v1 v2 v3 v4 v6 v8 v9 a34 a39 s40 t36
      else
        F_P_areLegal_324 r250 v1 v2 v3 v4 v6 v8 v9 a34 (0 : Int) a39 s40 t36
  else
    F_P_areLegal_327 s38 t36
def F_P_areLegal_525   (x0 : Int) (σ : zt_S) (T : zt_T) : Option (Int × zt_S × zt_T) :=
  zt_ck (x0 = 0 ∨ x0 = 1) <| some (x0, σ, T)
def F_P_areLegal_524    (σ : zt_S) (T : zt_T) : Option (Int × zt_S × zt_T) :=
  F_P_areLegal_525 (0 : Int) σ T
def F_P_areLegal_517   (x0 : Int) (x1 : Int) (σ : zt_S) (T : zt_T) : Option (Int × zt_S × zt_T) :=
  zt_ck (zt_in x1 ∧ zt_in x0) <| if x1 = x0 then
    F_P_areLegal_525 (1 : Int) σ T
  else
    F_P_areLegal_524 σ T
def F_P_areLegal_508   (v2 : Int) (x0 : Int) (σ : zt_S) (T : zt_T) : Option (Int × zt_S × zt_T) :=
  zt_ck (zt_in v2) <| if v2 = (0 : Int) then
    F_P_areLegal_517 (1 : Int) x0 σ T
  else
    F_P_areLegal_517 (0 : Int) x0 σ T
def F_P_areLegal_491   (v1 : Int) (v2 : Int) (σ : zt_S) (T : zt_T) : Option (Int × zt_S × zt_T) :=
  zt_bd (F_C_legal σ) fun a59 s60 =>
  zt_ck (zt_in a59 ∧ zt_in v2) <| if a59 = v2 then
    zt_ck (zt_in v1) <| if v1 < (0 : Int) then
      F_P_areLegal_508 v2 (1 : Int) s60 T
    else
      F_P_areLegal_508 v2 (0 : Int) s60 T
  else
    F_P_areLegal_524 s60 T
def F_P_areLegal_250   : Nat → Int → Int → Int → Int → Int → Int → Int → zt_S → zt_T → Option (Int × zt_S × zt_T)
  | 0, _, _, _, _, _, _, _, _, _ => none
  | n + 1, v1, v2, v3, v4, v6, v8, v9, σ, T =>
  zt_by (F_C_size (0 : Int) σ) fun a28 s29 =>
  zt_ck (zt_in v9 ∧ zt_in ((4 : Int) * a28)) <| if v9 < ((4 : Int) * a28) then
    zt_ck (zt_in v3) <| if v3 < (0 : Int) then
      zt_by (F_C_suit v9 s29) fun a30 s31 =>
      F_P_areLegal_279 (F_P_areLegal_250 n) v1 v2 v3 v4 v6 v8 v9 a30 v9 s31 T
    else
      F_P_areLegal_279 (F_P_areLegal_250 n) v1 v2 v3 v4 v6 v8 v9 v3 v9 s29 T
  else
    F_P_areLegal_491 v1 v2 s29 T
def F_P_areLegal_247   (v1 : Int) (v2 : Int) (v3 : Int) (v4 : Int) (v6 : Int) (v8 : Int) (σ : zt_S) (T : zt_T) : Option (Int × zt_S × zt_T) :=
  F_P_areLegal_250 zt_N v1 v2 v3 v4 v6 v8 (0 : Int) σ T
def F_P_areLegal_239  (r170 : Int → Int → Int → Int → Int → Int → Int → zt_S → zt_T → Option (Int × zt_S × zt_T)) (v1 : Int) (v2 : Int) (v3 : Int) (v4 : Int) (v6 : Int) (v9 : Int) (x0 : Int) (σ : zt_S) (T : zt_T) : Option (Int × zt_S × zt_T) :=
  r170 v1 v2 v3 v4 v6 x0 (v9 + (1 : Int)) σ T
def F_P_areLegal_234  (r170 : Int → Int → Int → Int → Int → Int → Int → zt_S → zt_T → Option (Int × zt_S × zt_T)) (v1 : Int) (v2 : Int) (v3 : Int) (v4 : Int) (v6 : Int) (v9 : Int) (σ : zt_S) (T : zt_T) : Option (Int × zt_S × zt_T) :=
  F_P_areLegal_239 r170 v1 v2 v3 v4 v6 v9 (1 : Int) σ T
def F_P_areLegal_238  (r170 : Int → Int → Int → Int → Int → Int → Int → zt_S → zt_T → Option (Int × zt_S × zt_T)) (v1 : Int) (v2 : Int) (v3 : Int) (v4 : Int) (v6 : Int) (v9 : Int) (σ : zt_S) (T : zt_T) : Option (Int × zt_S × zt_T) :=
  F_P_areLegal_239 r170 v1 v2 v3 v4 v6 v9 (0 : Int) σ T
def F_P_areLegal_170   : Nat → Int → Int → Int → Int → Int → Int → Int → zt_S → zt_T → Option (Int × zt_S × zt_T)
  | 0, _, _, _, _, _, _, _, _, _ => none
  | n + 1, v1, v2, v3, v4, v6, v8, v9, σ, T =>
  zt_by (F_C_size (0 : Int) σ) fun a26 s27 =>
  zt_ck (zt_in v9 ∧ zt_in ((4 : Int) * a26)) <| if v9 < ((4 : Int) * a26) then
    zt_ck (zt_in v1) <| if v1 < (0 : Int) then
      F_P_areLegal_247 v1 v2 v3 v4 v6 v8 s27 T
    else
      zt_ck (zt_in v3) <| if v3 < (0 : Int) then
        F_P_areLegal_247 v1 v2 v3 v4 v6 v8 s27 T
      else
        zt_ck (zt_in v8) <| if v8 = (0 : Int) then
          zt_by (F_C_holder v9 s27) fun a61 s62 =>
          zt_ck (zt_in a61 ∧ zt_in v1) <| if a61 = v1 then
            zt_by (F_C_suit v9 s62) fun a63 s64 =>
            zt_ck (zt_in a63 ∧ zt_in v3) <| if a63 = v3 then
              zt_by (F_C_size (5 : Int) s64) fun a65 s66 =>
              zt_bt (F_P_power v9 v3 v4 a65 s66 T) fun a67 s68 t69 =>
              zt_ck (zt_in a67 ∧ zt_in v6) <| if v6 < a67 then
                F_P_areLegal_234 (F_P_areLegal_170 n) v1 v2 v3 v4 v6 v9 s68 t69
              else
                F_P_areLegal_238 (F_P_areLegal_170 n) v1 v2 v3 v4 v6 v9 s68 t69
            else
              F_P_areLegal_238 (F_P_areLegal_170 n) v1 v2 v3 v4 v6 v9 s64 T
          else
            F_P_areLegal_238 (F_P_areLegal_170 n) v1 v2 v3 v4 v6 v9 s62 T
        else
          F_P_areLegal_234 (F_P_areLegal_170 n) v1 v2 v3 v4 v6 v9 s27 T
  else
    F_P_areLegal_247 v1 v2 v3 v4 v6 v8 s27 T
def F_P_areLegal_164   (v1 : Int) (v2 : Int) (v3 : Int) (v4 : Int) (v6 : Int) (σ : zt_S) (T : zt_T) : Option (Int × zt_S × zt_T) :=
  F_P_areLegal_170 zt_N v1 v2 v3 v4 v6 (0 : Int) (0 : Int) σ T
def F_P_areLegal_162    (σ : zt_S) (T : zt_T) : Option (Int × zt_S × zt_T) :=
  some ((0 : Int), σ, T)
def F_P_areLegal_140   (v1 : Int) (v2 : Int) (v3 : Int) (v4 : Int) (v5 : Int) (v6 : Int) (x0 : Int) (x1 : Int) (σ : zt_S) (T : zt_T) : Option (Int × zt_S × zt_T) :=
  zt_ck (zt_in x1 ∧ zt_in x0) <| if x1 = x0 then
    zt_ck (zt_in v3) <| if v3 < (0 : Int) then
      F_P_areLegal_164 v1 v2 v3 v4 v6 σ T
    else
      zt_by (F_C_played v5 (0 : Int) σ) fun a70 s71 =>
      zt_by (F_C_suit a70 s71) fun a72 s73 =>
      zt_ck (zt_in a72 ∧ zt_in v3) <| if a72 = v3 then
        F_P_areLegal_164 v1 v2 v3 v4 v6 s73 T
      else
        F_P_areLegal_162 s73 T
  else
    F_P_areLegal_162 σ T
def F_P_areLegal_124   (v1 : Int) (v2 : Int) (v3 : Int) (v4 : Int) (v5 : Int) (v6 : Int) (x0 : Int) (σ : zt_S) (T : zt_T) : Option (Int × zt_S × zt_T) :=
  zt_by (F_C_size (12 : Int) σ) fun a24 s25 =>
  zt_ck (zt_in v5 ∧ zt_in a24) <| if v5 = a24 then
    F_P_areLegal_140 v1 v2 v3 v4 v5 v6 (1 : Int) x0 s25 T
  else
    F_P_areLegal_140 v1 v2 v3 v4 v5 v6 (0 : Int) x0 s25 T
def F_P_areLegal_106   (v1 : Int) (v2 : Int) (v3 : Int) (v4 : Int) (v5 : Int) (v6 : Int) (v7 : Int) (σ : zt_S) (T : zt_T) : Option (Int × zt_S × zt_T) :=
  zt_bd (F_C_winning σ) fun a22 s23 =>
  zt_ck (zt_in a22 ∧ zt_in v7) <| if a22 = v7 then
    zt_ck (zt_in v3) <| if v3 < (0 : Int) then
      F_P_areLegal_124 v1 v2 v3 v4 v5 v6 (1 : Int) s23 T
    else
      F_P_areLegal_124 v1 v2 v3 v4 v5 v6 (0 : Int) s23 T
  else
    F_P_areLegal_162 s23 T
def F_P_areLegal_45   : Nat → Int → Int → Int → Int → Int → Int → Int → Int → zt_S → zt_T → Option (Int × zt_S × zt_T)
  | 0, _, _, _, _, _, _, _, _, _, _ => none
  | n + 1, v1, v2, v3, v4, v5, v6, v7, v8, σ, T =>
  zt_by (F_C_size (12 : Int) σ) fun a11 s12 =>
  zt_ck (zt_in v8 ∧ zt_in a11) <| if v8 < a11 then
    zt_by (F_C_played v8 (0 : Int) s12) fun a13 s14 =>
    zt_by (F_C_size (5 : Int) s14) fun a15 s16 =>
    zt_bt (F_P_power a13 v3 v4 a15 s16 T) fun a17 s18 t19 =>
    zt_ck (zt_in a17 ∧ zt_in v6) <| if v6 < a17 then
      zt_by (F_C_played v8 (1 : Int) s18) fun a20 s21 =>
      F_P_areLegal_100 (F_P_areLegal_45 n) v1 v2 v3 v4 v5 a17 a20 v8 s21 t19
    else
      F_P_areLegal_100 (F_P_areLegal_45 n) v1 v2 v3 v4 v5 v6 v7 v8 s18 t19
  else
    F_P_areLegal_106 v1 v2 v3 v4 v5 v6 v7 s12 T
def F_P_areLegal   (σ : zt_S) (T : zt_T) : Option (Int × zt_S × zt_T) :=
  zt_by (F_C_size (9 : Int) σ) fun a1 s2 =>
  zt_bd (F_C_led s2) fun a3 s4 =>
  zt_by (F_C_size (4 : Int) s4) fun a5 s6 =>
  zt_by (F_C_size (11 : Int) s6) fun a7 s8 =>
  zt_by (F_C_size (1 : Int) s8) fun a9 s10 =>
  F_P_areLegal_45 zt_N a1 (0 : Int) a3 a5 (a7 * a9) (-1 : Int) (-1 : Int) (a7 * a9) s10 T
def F_P_areTricks_166  (r12 : Int → Nat → Int → zt_S → zt_T → Option (Int × zt_S × zt_T)) (r72 : Int → Nat → Int → Int → Int → Int → zt_S → zt_T → Option (Int × zt_S × zt_T)) (v1 : Int) (v2 : Nat) (v3 : Int) (v4 : Int) (v5 : Int) (v6 : Int) (σ : zt_S) (T : zt_T) : Option (Int × zt_S × zt_T) :=
  r72 v1 v2 v3 v4 v5 (v6 + (1 : Int)) σ T
def F_P_areTricks_264  (r12 : Int → Nat → Int → zt_S → zt_T → Option (Int × zt_S × zt_T)) (v1 : Int) (v2 : Nat) (v3 : Int) (σ : zt_S) (T : zt_T) : Option (Int × zt_S × zt_T) :=
  zt_by (F_C_trick v3 (1 : Int) σ) fun a59 s60 =>
  zt_ck (zt_tk T v2 a59) <| zt_ck (zt_tk T v2 a59) <| zt_let (zt_tu T v2 a59 ((T.2.2 v2 a59) + (1 : Int))) fun t61 =>
  r12 v1 v2 (v3 + (1 : Int)) s60 t61
def F_P_areTricks_262    (σ : zt_S) (T : zt_T) : Option (Int × zt_S × zt_T) :=
  some ((0 : Int), σ, T)
def F_P_areTricks_235  (r12 : Int → Nat → Int → zt_S → zt_T → Option (Int × zt_S × zt_T)) (v1 : Int) (v2 : Nat) (v3 : Int) (σ : zt_S) (T : zt_T) : Option (Int × zt_S × zt_T) :=
  zt_by (F_C_size (11 : Int) σ) fun a53 s54 =>
  zt_ck (zt_in (v3 + (1 : Int)) ∧ zt_in a53) <| if (v3 + (1 : Int)) = a53 then
    zt_by (F_C_size (10 : Int) s54) fun a55 s56 =>
    zt_by (F_C_trick v3 (1 : Int) s56) fun a57 s58 =>
    zt_ck (zt_in a55 ∧ zt_in a57) <| if a55 = a57 then
      F_P_areTricks_264 r12 v1 v2 v3 s58 T
    else
      F_P_areTricks_262 s58 T
  else
    F_P_areTricks_264 r12 v1 v2 v3 s54 T
def F_P_areTricks_204    (σ : zt_S) (T : zt_T) : Option (Int × zt_S × zt_T) :=
  some ((0 : Int), σ, T)
def F_P_areTricks_172  (r12 : Int → Nat → Int → zt_S → zt_T → Option (Int × zt_S × zt_T)) (v1 : Int) (v2 : Nat) (v3 : Int) (v5 : Int) (σ : zt_S) (T : zt_T) : Option (Int × zt_S × zt_T) :=
  zt_by (F_C_trick v3 (1 : Int) σ) fun a39 s40 =>
  zt_by (F_C_played v5 (1 : Int) s40) fun a41 s42 =>
  zt_ck (zt_in a39 ∧ zt_in a41) <| if a39 = a41 then
    zt_by (F_C_trick v3 (2 : Int) s42) fun a43 s44 =>
    zt_by (F_C_played v5 (0 : Int) s44) fun a45 s46 =>
    zt_ck (zt_in a43 ∧ zt_in a45) <| if a43 = a45 then
      zt_by (F_C_size (11 : Int) s46) fun a47 s48 =>
      zt_ck (zt_in (v3 + (1 : Int)) ∧ zt_in a47) <| if (v3 + (1 : Int)) < a47 then
        zt_by (F_C_trick (v3 + (1 : Int)) (0 : Int) s48) fun a49 s50 =>
        zt_by (F_C_trick v3 (1 : Int) s50) fun a51 s52 =>
        zt_ck (zt_in a49 ∧ zt_in a51) <| if a49 = a51 then
          F_P_areTricks_235 r12 v1 v2 v3 s52 T
        else
          F_P_areTricks_262 s52 T
      else
        F_P_areTricks_235 r12 v1 v2 v3 s48 T
    else
      F_P_areTricks_204 s46 T
  else
    F_P_areTricks_204 s42 T
def F_P_areTricks_72  (r12 : Int → Nat → Int → zt_S → zt_T → Option (Int × zt_S × zt_T)) : Nat → Int → Nat → Int → Int → Int → Int → zt_S → zt_T → Option (Int × zt_S × zt_T)
  | 0, _, _, _, _, _, _, _, _ => none
  | n + 1, v1, v2, v3, v4, v5, v6, σ, T =>
  zt_ck (zt_in v6 ∧ zt_in v1) <| if v6 < v1 then
    zt_by (F_C_played ((v3 * v1) + v6) (1 : Int) σ) fun a17 s18 =>
    zt_by (F_C_trick v3 (0 : Int) s18) fun a19 s20 =>
    zt_ck ((0 ≤ (a19 + v6) ∧ (a19 + v6) < 2147483648) ∧ (0 < v1 ∧ v1 < 2147483648)) <| zt_ck (zt_in a17 ∧ zt_in ((a19 + v6) % v1)) <| if a17 = ((a19 + v6) % v1) then
      zt_by (F_C_played ((v3 * v1) + v6) (0 : Int) s20) fun a21 s22 =>
      zt_by (F_C_trick v3 (4 : Int) s22) fun a23 s24 =>
      zt_by (F_C_trick v3 (5 : Int) s24) fun a25 s26 =>
      zt_bt (F_P_power a21 v4 a23 a25 s26 T) fun a27 s28 t29 =>
      zt_by (F_C_played v5 (0 : Int) s28) fun a30 s31 =>
      zt_by (F_C_trick v3 (4 : Int) s31) fun a32 s33 =>
      zt_by (F_C_trick v3 (5 : Int) s33) fun a34 s35 =>
      zt_bt (F_P_power a30 v4 a32 a34 s35 t29) fun a36 s37 t38 =>
      zt_ck (zt_in a27 ∧ zt_in a36) <| if a36 < a27 then
        F_P_areTricks_166 r12 (F_P_areTricks_72 r12 n) v1 v2 v3 v4 ((v3 * v1) + v6) v6 s37 t38
      else
        F_P_areTricks_166 r12 (F_P_areTricks_72 r12 n) v1 v2 v3 v4 v5 v6 s37 t38
    else
      some ((0 : Int), s20, T)
  else
    F_P_areTricks_172 r12 v1 v2 v3 v5 σ T
def F_P_areTricks_67    (σ : zt_S) (T : zt_T) : Option (Int × zt_S × zt_T) :=
  some ((0 : Int), σ, T)
def F_P_areTricks_332  (r284 : Int → Nat → Int → zt_S → zt_T → Option (Int × zt_S × zt_T)) (v1 : Int) (v2 : Nat) (v3 : Int) (σ : zt_S) (T : zt_T) : Option (Int × zt_S × zt_T) :=
  r284 v1 v2 (v3 + (1 : Int)) σ T
def F_P_areTricks_330    (σ : zt_S) (T : zt_T) : Option (Int × zt_S × zt_T) :=
  some ((0 : Int), σ, T)
def F_P_areTricks_284   : Nat → Int → Nat → Int → zt_S → zt_T → Option (Int × zt_S × zt_T)
  | 0, _, _, _, _, _ => none
  | n + 1, v1, v2, v3, σ, T =>
  zt_ck (zt_in v3 ∧ zt_in v1) <| if v3 < v1 then
    zt_by (F_C_tricks v3 σ) fun a62 s63 =>
    zt_ck (zt_tk T v2 v3) <| zt_ck (zt_in a62 ∧ zt_in (T.2.2 v2 v3)) <| if a62 = (T.2.2 v2 v3) then
      zt_by (F_C_size (11 : Int) s63) fun a64 s65 =>
      zt_ck (zt_in a64) <| if (0 : Int) < a64 then
        zt_by (F_C_share v3 s65) fun a66 s67 =>
        zt_ck (zt_tk T v2 v3) <| zt_by (F_C_size (11 : Int) s67) fun a68 s69 =>
        zt_ck ((FP.fdiv (zt_if (T.2.2 v2 v3)) (zt_if a68)) &&& 0x7fffffff ≤ 0x7f800000) <| if (zt_fc a66 (FP.fdiv (zt_if (T.2.2 v2 v3)) (zt_if a68)) .l) = (0 : Int) then
          F_P_areTricks_332 (F_P_areTricks_284 n) v1 v2 v3 s69 T
        else
          F_P_areTricks_330 s69 T
      else
        F_P_areTricks_332 (F_P_areTricks_284 n) v1 v2 v3 s65 T
    else
      F_P_areTricks_330 s63 T
  else
    some ((1 : Int), σ, T)
def F_P_areTricks_12   : Nat → Int → Nat → Int → zt_S → zt_T → Option (Int × zt_S × zt_T)
  | 0, _, _, _, _, _ => none
  | n + 1, v1, v2, v3, σ, T =>
  zt_by (F_C_size (11 : Int) σ) fun a5 s6 =>
  zt_ck (zt_in v3 ∧ zt_in a5) <| if v3 < a5 then
    zt_by (F_C_trick v3 (3 : Int) s6) fun a7 s8 =>
    zt_by (F_C_played (v3 * v1) (0 : Int) s8) fun a9 s10 =>
    zt_by (F_C_suit a9 s10) fun a11 s12 =>
    zt_ck (zt_in a11 ∧ zt_in a7) <| if a11 = a7 then
      zt_by (F_C_played (v3 * v1) (1 : Int) s12) fun a13 s14 =>
      zt_by (F_C_trick v3 (0 : Int) s14) fun a15 s16 =>
      zt_ck (zt_in a13 ∧ zt_in a15) <| if a13 = a15 then
        F_P_areTricks_72 (F_P_areTricks_12 n) zt_N v1 v2 v3 a7 (v3 * v1) (1 : Int) s16 T
      else
        F_P_areTricks_67 s16 T
    else
      F_P_areTricks_67 s12 T
  else
    F_P_areTricks_284 zt_N v1 v2 (0 : Int) s6 T
def F_P_areTricks   (σ : zt_S) (T : zt_T) : Option (Int × zt_S × zt_T) :=
  zt_by (F_C_size (1 : Int) σ) fun a1 s2 =>
  zt_ck (0 < T.1 ∧ T.1 < 100000) <| zt_lT T.1 (zt_tn T 4) fun k4 t3 =>
  F_P_areTricks_12 zt_N a1 k4 (0 : Int) s2 t3
def F_P_isPlayed_36   (x0 : Int) (σ : zt_S) (T : zt_T) : Option (Int × zt_S × zt_T) :=
  zt_ck (x0 = 0 ∨ x0 = 1) <| some (x0, σ, T)
def F_P_isPlayed_35    (σ : zt_S) (T : zt_T) : Option (Int × zt_S × zt_T) :=
  F_P_isPlayed_36 (0 : Int) σ T
def F_P_isPlayed_199  (r162 : Int → Int → Int → Int → Int → Int → Int → Int → Int → Int → Int → Int → zt_S → zt_T → Option (Int × zt_S × zt_T)) (v2 : Int) (v3 : Int) (v4 : Int) (v5 : Int) (v6 : Int) (v7 : Int) (v8 : Int) (v9 : Int) (v10 : Int) (v11 : Int) (v12 : Int) (v13 : Int) (σ : zt_S) (T : zt_T) : Option (Int × zt_S × zt_T) :=
  r162 v2 v3 v4 v5 v6 v7 v8 v9 v10 v11 v12 (v13 + (1 : Int)) σ T
def F_P_isPlayed_229   (x0 : Int) (σ : zt_S) (T : zt_T) : Option (Int × zt_S × zt_T) :=
  zt_ck (x0 = 0 ∨ x0 = 1) <| some (x0, σ, T)
def F_P_isPlayed_247   (x0 : Int) (σ : zt_S) (T : zt_T) : Option (Int × zt_S × zt_T) :=
  zt_ck (x0 = 0 ∨ x0 = 1) <| some (x0, σ, T)
def F_P_isPlayed_513   (x0 : Int) (σ : zt_S) (T : zt_T) : Option (Int × zt_S × zt_T) :=
  zt_ck (x0 = 0 ∨ x0 = 1) <| some (x0, σ, T)
def F_P_isPlayed_512    (σ : zt_S) (T : zt_T) : Option (Int × zt_S × zt_T) :=
  F_P_isPlayed_513 (0 : Int) σ T
def F_P_isPlayed_472   (v2 : Int) (v3 : Int) (v5 : Int) (v6 : Int) (σ : zt_S) (T : zt_T) : Option (Int × zt_S × zt_T) :=
  zt_bd (F_C_undo σ) fun a47 s48 =>
  zt_ck (zt_in a47) <| if a47 < (0 : Int) then
    F_P_isPlayed_512 s48 T
  else
    zt_by (F_C_size (4 : Int) s48) fun a49 s50 =>
    zt_ck (zt_in a49 ∧ zt_in v5) <| if a49 = v5 then
      zt_by (F_C_size (5 : Int) s50) fun a51 s52 =>
      zt_ck (zt_in a51 ∧ zt_in v6) <| if a51 = v6 then
        zt_by (F_C_holder v3 s52) fun a53 s54 =>
        zt_ck (zt_in a53 ∧ zt_in v2) <| if a53 = v2 then
          F_P_isPlayed_513 (1 : Int) s54 T
        else
          F_P_isPlayed_512 s54 T
      else
        F_P_isPlayed_512 s52 T
    else
      F_P_isPlayed_512 s50 T
def F_P_isPlayed_470    (σ : zt_S) (T : zt_T) : Option (Int × zt_S × zt_T) :=
  some ((0 : Int), σ, T)
def F_P_isPlayed_424   (v2 : Int) (v3 : Int) (v5 : Int) (v6 : Int) (v7 : Int) (v11 : Int) (v16 : Int) (x0 : Int) (σ : zt_S) (T : zt_T) : Option (Int × zt_S × zt_T) :=
  zt_by (F_C_size (4 : Int) σ) fun a57 s58 =>
  zt_ck (zt_in a57 ∧ zt_in v16) <| if a57 = v16 then
    zt_by (F_C_size (5 : Int) s58) fun a59 s60 =>
    zt_ck (zt_in a59 ∧ zt_in x0) <| if a59 = x0 then
      zt_by (F_C_size (11 : Int) s60) fun a61 s62 =>
      zt_ck (zt_in a61 ∧ zt_in (v7 + (1 : Int))) <| if a61 = (v7 + (1 : Int)) then
        zt_by (F_C_size (10 : Int) s62) fun a63 s64 =>
        zt_ck (zt_in a63 ∧ zt_in v11) <| if a63 = v11 then
          F_P_isPlayed_472 v2 v3 v5 v6 s64 T
        else
          F_P_isPlayed_470 s64 T
      else
        F_P_isPlayed_470 s62 T
    else
      F_P_isPlayed_470 s60 T
  else
    F_P_isPlayed_470 s58 T
def F_P_isPlayed_392   (v2 : Int) (v3 : Int) (v5 : Int) (v6 : Int) (v7 : Int) (v11 : Int) (v14 : Int) (v15 : Int) (x0 : Int) (σ : zt_S) (T : zt_T) : Option (Int × zt_S × zt_T) :=
  zt_ck (zt_in v15) <| if v15 = (0 : Int) then
    F_P_isPlayed_424 v2 v3 v5 v6 v7 v11 x0 v14 σ T
  else
    zt_by (F_C_size (8 : Int) σ) fun a65 s66 =>
    zt_ck (zt_in a65) <| if a65 = (1 : Int) then
      zt_by (F_C_size (6 : Int) s66) fun a67 s68 =>
      F_P_isPlayed_424 v2 v3 v5 v6 v7 v11 x0 a67 s68 T
    else
      F_P_isPlayed_424 v2 v3 v5 v6 v7 v11 x0 (0 : Int) s66 T
def F_P_isPlayed_360   (v2 : Int) (v3 : Int) (v5 : Int) (v6 : Int) (v7 : Int) (v11 : Int) (v12 : Int) (v14 : Int) (x0 : Int) (σ : zt_S) (T : zt_T) : Option (Int × zt_S × zt_T) :=
  zt_ck (zt_in x0) <| if x0 = (0 : Int) then
    F_P_isPlayed_392 v2 v3 v5 v6 v7 v11 v14 x0 v5 σ T
  else
    zt_by (F_C_size (8 : Int) σ) fun a69 s70 =>
    zt_ck (zt_in a69) <| if a69 = (1 : Int) then
      zt_by (F_C_suit v12 s70) fun a71 s72 =>
      F_P_isPlayed_392 v2 v3 v5 v6 v7 v11 v14 x0 a71 s72 T
    else
      F_P_isPlayed_392 v2 v3 v5 v6 v7 v11 v14 x0 (-1 : Int) s70 T
def F_P_isPlayed_359   (v2 : Int) (v3 : Int) (v5 : Int) (v6 : Int) (v7 : Int) (v11 : Int) (v12 : Int) (v14 : Int) (σ : zt_S) (T : zt_T) : Option (Int × zt_S × zt_T) :=
  F_P_isPlayed_360 v2 v3 v5 v6 v7 v11 v12 v14 (0 : Int) σ T
def F_P_isPlayed_325   (v2 : Int) (v3 : Int) (v5 : Int) (v6 : Int) (v7 : Int) (v10 : Int) (v11 : Int) (v12 : Int) (σ : zt_S) (T : zt_T) : Option (Int × zt_S × zt_T) :=
  zt_ck (zt_in v10) <| if v10 = (0 : Int) then
    F_P_isPlayed_472 v2 v3 v5 v6 σ T
  else
    zt_by (F_C_size (7 : Int) σ) fun a55 s56 =>
    zt_ck (zt_in (v6 - a55)) <| zt_ck (zt_in v6) <| if (0 : Int) < v6 then
      zt_ck (zt_in (if (0 : Int) < (v6 - a55) then (v6 - a55) else (0 : Int))) <| if (if (0 : Int) < (v6 - a55) then (v6 - a55) else (0 : Int)) = (0 : Int) then
        F_P_isPlayed_360 v2 v3 v5 v6 v7 v11 v12 (if (0 : Int) < (v6 - a55) then (v6 - a55) else (0 : Int)) (1 : Int) s56 T
      else
        F_P_isPlayed_359 v2 v3 v5 v6 v7 v11 v12 (if (0 : Int) < (v6 - a55) then (v6 - a55) else (0 : Int)) s56 T
    else
      F_P_isPlayed_359 v2 v3 v5 v6 v7 v11 v12 (if (0 : Int) < (v6 - a55) then (v6 - a55) else (0 : Int)) s56 T
def F_P_isPlayed_323    (σ : zt_S) (T : zt_T) : Option (Int × zt_S × zt_T) :=
  some ((0 : Int), σ, T)
def F_P_isPlayed_281    (σ : zt_S) (T : zt_T) : Option (Int × zt_S × zt_T) :=
  some ((0 : Int), σ, T)
def F_P_isPlayed_269   (v2 : Int) (v3 : Int) (v4 : Int) (v5 : Int) (v6 : Int) (v7 : Int) (v10 : Int) (v11 : Int) (v12 : Int) (x0 : Int) (x1 : Int) (σ : zt_S) (T : zt_T) : Option (Int × zt_S × zt_T) :=
  zt_ck (zt_in x1 ∧ zt_in x0) <| if x1 = x0 then
    zt_by (F_C_holder v3 σ) fun a39 s40 =>
    zt_ck (zt_in a39) <| if a39 = (-1 : Int) then
      zt_ck (zt_in v10) <| if v10 = (0 : Int) then
        zt_by (F_C_size (4 : Int) s40) fun a41 s42 =>
        zt_ck (zt_in a41 ∧ zt_in v5) <| if a41 = v5 then
          zt_by (F_C_size (5 : Int) s42) fun a43 s44 =>
          zt_ck (zt_in a43 ∧ zt_in v6) <| if a43 = v6 then
            zt_by (F_C_size (9 : Int) s44) fun a45 s46 =>
            zt_ck ((0 ≤ (v2 + (1 : Int)) ∧ (v2 + (1 : Int)) < 2147483648) ∧ (0 < v4 ∧ v4 < 2147483648)) <| zt_ck (zt_in a45 ∧ zt_in ((v2 + (1 : Int)) % v4)) <| if a45 = ((v2 + (1 : Int)) % v4) then
              F_P_isPlayed_325 v2 v3 v5 v6 v7 v10 v11 v12 s46 T
            else
              F_P_isPlayed_323 s46 T
          else
            F_P_isPlayed_323 s44 T
        else
          F_P_isPlayed_323 s42 T
      else
        F_P_isPlayed_325 v2 v3 v5 v6 v7 v10 v11 v12 s40 T
    else
      F_P_isPlayed_281 s40 T
  else
    F_P_isPlayed_281 σ T
def F_P_isPlayed_205   (v2 : Int) (v3 : Int) (v4 : Int) (v5 : Int) (v6 : Int) (v7 : Int) (v8 : Int) (v9 : Int) (v10 : Int) (v11 : Int) (v12 : Int) (σ : zt_S) (T : zt_T) : Option (Int × zt_S × zt_T) :=
  zt_by (F_C_play v3 σ) fun a35 s36 =>
  zt_ck (zt_in v8) <| if v8 = (0 : Int) then
    zt_ck (zt_in a35) <| if a35 = (-3 : Int) then
      F_P_isPlayed_229 (1 : Int) s36 T
    else
      F_P_isPlayed_229 (0 : Int) s36 T
  else
    zt_ck (zt_in v9) <| if v9 = (0 : Int) then
      zt_ck (zt_in a35) <| if a35 = (-4 : Int) then
        F_P_isPlayed_247 (1 : Int) s36 T
      else
        F_P_isPlayed_247 (0 : Int) s36 T
    else
      zt_ck (zt_in v10) <| if v10 = (0 : Int) then
        zt_by (F_C_size (9 : Int) s36) fun a37 s38 =>
        F_P_isPlayed_269 v2 v3 v4 v5 v6 v7 v10 v11 v12 (v4 + a37) a35 s38 T
      else
        F_P_isPlayed_269 v2 v3 v4 v5 v6 v7 v10 v11 v12 v11 a35 s36 T
def F_P_isPlayed_162   : Nat → Int → Int → Int → Int → Int → Int → Int → Int → Int → Int → Int → Int → zt_S → zt_T → Option (Int × zt_S × zt_T)
  | 0, _, _, _, _, _, _, _, _, _, _, _, _, _, _ => none
  | n + 1, v2, v3, v4, v5, v6, v7, v8, v9, v10, v11, v12, v13, σ, T =>
  zt_by (F_C_size (12 : Int) σ) fun a29 s30 =>
  zt_ck (zt_in v13 ∧ zt_in a29) <| if v13 < a29 then
    zt_ck (zt_in v12) <| if v12 < (0 : Int) then
      zt_by (F_C_played v13 (1 : Int) s30) fun a31 s32 =>
      zt_ck (zt_in a31 ∧ zt_in v11) <| if a31 = v11 then
        zt_by (F_C_played v13 (0 : Int) s32) fun a33 s34 =>
        F_P_isPlayed_199 (F_P_isPlayed_162 n) v2 v3 v4 v5 v6 v7 v8 v9 v10 v11 a33 v13 s34 T
      else
        F_P_isPlayed_199 (F_P_isPlayed_162 n) v2 v3 v4 v5 v6 v7 v8 v9 v10 v11 v12 v13 s32 T
    else
      F_P_isPlayed_205 v2 v3 v4 v5 v6 v7 v8 v9 v10 v11 v12 s30 T
  else
    F_P_isPlayed_205 v2 v3 v4 v5 v6 v7 v8 v9 v10 v11 v12 s30 T
def F_P_isPlayed_153   (v2 : Int) (v3 : Int) (v4 : Int) (v5 : Int) (v6 : Int) (v7 : Int) (v8 : Int) (v9 : Int) (v10 : Int) (v11 : Int) (x0 : Int) (σ : zt_S) (T : zt_T) : Option (Int × zt_S × zt_T) :=
  F_P_isPlayed_162 zt_N v2 v3 v4 v5 v6 v7 v8 v9 v10 v11 x0 (v7 * v4) σ T
def F_P_isPlayed_138   (v2 : Int) (v3 : Int) (v4 : Int) (v5 : Int) (v6 : Int) (v7 : Int) (v8 : Int) (v9 : Int) (v10 : Int) (x0 : Int) (σ : zt_S) (T : zt_T) : Option (Int × zt_S × zt_T) :=
  zt_by (F_C_wouldLead v3 σ) fun a27 s28 =>
  zt_ck (zt_in a27) <| if a27 = (0 : Int) then
    F_P_isPlayed_153 v2 v3 v4 v5 v6 v7 v8 v9 v10 x0 (-1 : Int) s28 T
  else
    F_P_isPlayed_153 v2 v3 v4 v5 v6 v7 v8 v9 v10 x0 v3 s28 T
def F_P_isPlayed_120   (v2 : Int) (v3 : Int) (v4 : Int) (v5 : Int) (v6 : Int) (v7 : Int) (v8 : Int) (v9 : Int) (x0 : Int) (σ : zt_S) (T : zt_T) : Option (Int × zt_S × zt_T) :=
  zt_by (F_C_wouldLead v3 σ) fun a23 s24 =>
  zt_ck (zt_in a23) <| if a23 = (0 : Int) then
    zt_bd (F_C_winning s24) fun a25 s26 =>
    F_P_isPlayed_138 v2 v3 v4 v5 v6 v7 v8 v9 x0 a25 s26 T
  else
    F_P_isPlayed_138 v2 v3 v4 v5 v6 v7 v8 v9 x0 v2 s24 T
def F_P_isPlayed_90   (v2 : Int) (v3 : Int) (v4 : Int) (v5 : Int) (v6 : Int) (v7 : Int) (x0 : Int) (σ : zt_S) (T : zt_T) : Option (Int × zt_S × zt_T) :=
  zt_by (F_C_isLegal v3 σ) fun a19 s20 =>
  zt_by (F_C_size (12 : Int) s20) fun a21 s22 =>
  zt_ck ((0 ≤ a21 ∧ a21 < 2147483648) ∧ (0 < v4 ∧ v4 < 2147483648)) <| zt_ck (zt_in (a21 % v4) ∧ zt_in (v4 - (1 : Int))) <| if (a21 % v4) = (v4 - (1 : Int)) then
    F_P_isPlayed_120 v2 v3 v4 v5 v6 v7 x0 a19 (1 : Int) s22 T
  else
    F_P_isPlayed_120 v2 v3 v4 v5 v6 v7 x0 a19 (0 : Int) s22 T
def F_P_isPlayed  (v1 : Int) (σ : zt_S) (T : zt_T) : Option (Int × zt_S × zt_T) :=
  zt_by (F_C_size (9 : Int) σ) fun a1 s2 =>
  zt_ck (zt_in a1) <| if a1 < (0 : Int) then
    zt_by (F_C_play (0 : Int) s2) fun a3 s4 =>
    zt_ck (zt_in a3) <| if a3 = (-2 : Int) then
      zt_by (F_C_auto (1 : Int) s4) fun a5 s6 =>
      zt_ck (zt_in a5) <| if a5 = (-2 : Int) then
        F_P_isPlayed_36 (1 : Int) s6 T
      else
        F_P_isPlayed_35 s6 T
    else
      F_P_isPlayed_35 s4 T
  else
    zt_by (F_C_size (0 : Int) s2) fun a7 s8 =>
    zt_ck ((0 ≤ v1 ∧ v1 < 2147483648) ∧ (0 < ((4 : Int) * a7) ∧ ((4 : Int) * a7) < 2147483648)) <| zt_by (F_C_size (1 : Int) s8) fun a9 s10 =>
    zt_by (F_C_size (4 : Int) s10) fun a11 s12 =>
    zt_by (F_C_size (5 : Int) s12) fun a13 s14 =>
    zt_by (F_C_size (11 : Int) s14) fun a15 s16 =>
    zt_by (F_C_holder (v1 % ((4 : Int) * a7)) s16) fun a17 s18 =>
    zt_ck (zt_in a17 ∧ zt_in a1) <| if a17 = a1 then
      F_P_isPlayed_90 a1 (v1 % ((4 : Int) * a7)) a9 a11 a13 a15 (1 : Int) s18 T
    else
      F_P_isPlayed_90 a1 (v1 % ((4 : Int) * a7)) a9 a11 a13 a15 (0 : Int) s18 T
def F_P_holds_41 (X : q_X)    (σ : zt_S) (T : zt_T) : Option (Int × zt_S × zt_T) :=
  some ((0 : Int), σ, T)
def F_P_holds_78 (X : q_X)   (x0 : Int) (σ : zt_S) (T : zt_T) : Option (Int × zt_S × zt_T) :=
  zt_ck (x0 = 0 ∨ x0 = 1) <| some (x0, σ, T)
def F_P_holds_77 (X : q_X)    (σ : zt_S) (T : zt_T) : Option (Int × zt_S × zt_T) :=
  F_P_holds_78 X (0 : Int) σ T
def F_P_holds_59 (X : q_X)    (σ : zt_S) (T : zt_T) : Option (Int × zt_S × zt_T) :=
  zt_bt (F_P_isOnce σ T) fun a22 s23 t24 =>
  zt_ck (zt_in a22) <| if a22 = (0 : Int) then
    F_P_holds_77 X s23 t24
  else
    zt_bt (F_P_areTricks s23 t24) fun a25 s26 t27 =>
    zt_ck (zt_in a25) <| if a25 = (0 : Int) then
      F_P_holds_77 X s26 t27
    else
      F_P_holds_78 X (1 : Int) s26 t27
def F_P_holds_2 (X : q_X)   : Nat → Int → zt_S → zt_T → Option (Int × zt_S × zt_T)
  | 0, _, _, _ => none
  | n + 1, v2, σ, T =>
  zt_ck (zt_in v2) <| if v2 < (26 : Int) then
    zt_bt (F_P_isOnce σ T) fun a1 s2 t3 =>
    zt_ck (zt_in a1) <| if a1 = (0 : Int) then
      F_P_holds_41 X s2 t3
    else
      zt_bt (F_P_areLegal s2 t3) fun a4 s5 t6 =>
      zt_ck (zt_in a4) <| if a4 = (0 : Int) then
        F_P_holds_41 X s5 t6
      else
        zt_bt (F_P_areTricks s5 t6) fun a7 s8 t9 =>
        zt_ck (zt_in a7) <| if a7 = (0 : Int) then
          F_P_holds_41 X s8 t9
        else
          zt_bt (F_P_cell X v2 s8 t9) fun a10 s11 t12 =>
          zt_bt (F_P_isPlayed a10 s11 t12) fun a13 s14 t15 =>
          zt_ck (zt_in a13) <| if a13 = (0 : Int) then
            F_P_holds_41 X s14 t15
          else
            zt_bt (F_P_cell X v2 s14 t15) fun a16 s17 t18 =>
            zt_bt (F_P_acts a16 s17 t18) fun a19 s20 t21 =>
            F_P_holds_2 X n (v2 + (1 : Int)) s20 t21
  else
    F_P_holds_59 X σ T
def F_P_holds (X : q_X)   (σ : zt_S) (T : zt_T) : Option (Int × zt_S × zt_T) :=
  F_P_holds_2 X zt_N (2 : Int) σ T
def F_P_law_38 (X : q_X)   (x0 : Int) (σ : zt_S) (T : zt_T) : Option (Int × zt_S × zt_T) :=
  zt_ck (x0 = 0 ∨ x0 = 1) <| some (x0, σ, T)
def F_P_law_37 (X : q_X)    (σ : zt_S) (T : zt_T) : Option (Int × zt_S × zt_T) :=
  F_P_law_38 X (0 : Int) σ T
def F_P_law_16 (X : q_X)    (σ : zt_S) (T : zt_T) : Option (Int × zt_S × zt_T) :=
  zt_ck (0 < T.1) <| zt_bt (F_P_loads X σ T) fun a1 s2 t3 =>
  zt_ck (zt_in a1) <| if a1 = (0 : Int) then
    F_P_law_37 X s2 t3
  else
    zt_bt (F_P_holds X s2 t3) fun a4 s5 t6 =>
    zt_ck (zt_in a4) <| if a4 = (0 : Int) then
      F_P_law_37 X s5 t6
    else
      F_P_law_38 X (1 : Int) s5 t6
