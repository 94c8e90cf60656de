/-! THE LAW as a function (by program) -/
def F_L_law_2598 (X : q_X)  (r28 : Int → zt_S → Option (Int × zt_S)) (v5 : Int) (σ : zt_S) : Option (Int × zt_S) :=
  r28 (v5 + (6 : Int)) σ
def F_L_law_252 (X : q_X)  (r28 : Int → zt_S → Option (Int × zt_S)) (v5 : Int) (σ : zt_S) : Option (Int × zt_S) :=
  zt_ck (0 ≤ (v5 + (1 : Int)) ∧ (v5 + (1 : Int)) < (X.1 : Int)) <| zt_ck (0 ≤ (v5 + (2 : Int)) ∧ (v5 + (2 : Int)) < (X.1 : Int)) <| zt_ck (0 ≤ (v5 + (3 : Int)) ∧ (v5 + (3 : Int)) < (X.1 : Int)) <| zt_ck (0 ≤ (v5 + (4 : Int)) ∧ (v5 + (4 : Int)) < (X.1 : Int)) <| zt_ck (0 ≤ (v5 + (5 : Int)) ∧ (v5 + (5 : Int)) < (X.1 : Int)) <| zt_bd (F_C_feed (zt_x X (v5 + (1 : Int))) (zt_x X (v5 + (2 : Int))) (zt_x X (v5 + (3 : Int))) (zt_x X (v5 + (4 : Int))) (zt_x X (v5 + (5 : Int))) σ) fun a1 s2 =>
  zt_ck (0 ≤ (v5 + (1 : Int)) ∧ (v5 + (1 : Int)) < (X.1 : Int)) <| zt_ck (0 ≤ (v5 + (2 : Int)) ∧ (v5 + (2 : Int)) < (X.1 : Int)) <| zt_ck (0 ≤ (v5 + (3 : Int)) ∧ (v5 + (3 : Int)) < (X.1 : Int)) <| zt_ck (0 ≤ (v5 + (4 : Int)) ∧ (v5 + (4 : Int)) < (X.1 : Int)) <| zt_ck (0 ≤ (v5 + (5 : Int)) ∧ (v5 + (5 : Int)) < (X.1 : Int)) <| zt_bd (F_M_feed (zt_x X (v5 + (1 : Int))) (zt_x X (v5 + (2 : Int))) (zt_x X (v5 + (3 : Int))) (zt_x X (v5 + (4 : Int))) (zt_x X (v5 + (5 : Int))) s2) fun a3 s4 =>
  zt_ck (zt_in a1 ∧ zt_in a3) <| if a1 = a3 then
    F_L_law_2598 X r28 v5 s4
  else
    some ((0 : Int), s4)
def F_L_law_378 (X : q_X)  (r28 : Int → zt_S → Option (Int × zt_S)) (v5 : Int) (σ : zt_S) : Option (Int × zt_S) :=
  F_L_law_2598 X r28 v5 σ
def F_L_law_325 (X : q_X)  (r28 : Int → zt_S → Option (Int × zt_S)) (v5 : Int) (σ : zt_S) : Option (Int × zt_S) :=
  zt_ck (0 ≤ (v5 + (1 : Int)) ∧ (v5 + (1 : Int)) < (X.1 : Int)) <| zt_bd (F_L_load (zt_x X (v5 + (1 : Int))) σ) fun a5 s6 =>
  zt_ck (0 ≤ (v5 + (1 : Int)) ∧ (v5 + (1 : Int)) < (X.1 : Int)) <| zt_bd (F_M_load (zt_x X (v5 + (1 : Int))) s6) fun a7 s8 =>
  zt_bd (F_M_thrown s8) fun a9 s10 =>
  zt_ck (zt_in a9 ∧ zt_in a5) <| if a9 = a5 then
    zt_ck (zt_in a5) <| if a5 = (0 : Int) then
      if (zt_lc (s10.2.1 184 (0 : Int)) (zt_l a7)) = (0 : Int) then
        F_L_law_378 X r28 v5 s10
      else
        some ((0 : Int), s10)
    else
      F_L_law_378 X r28 v5 s10
  else
    some ((0 : Int), s10)
def F_L_law_381 (X : q_X)  (r28 : Int → zt_S → Option (Int × zt_S)) (v5 : Int) (σ : zt_S) : Option (Int × zt_S) :=
  zt_bd (F_C_errorPosition σ) fun a11 s12 =>
  zt_bd (F_M_errorPosition s12) fun a13 s14 =>
  zt_ck (zt_in a11 ∧ zt_in a13) <| if a11 = a13 then
    F_L_law_2598 X r28 v5 s14
  else
    some ((0 : Int), s14)
def F_L_law_447 (X : q_X)  (r28 : Int → zt_S → Option (Int × zt_S)) (v5 : Int) (σ : zt_S) : Option (Int × zt_S) :=
  F_L_law_2598 X r28 v5 σ
def F_L_law_394 (X : q_X)  (r28 : Int → zt_S → Option (Int × zt_S)) (v5 : Int) (σ : zt_S) : Option (Int × zt_S) :=
  zt_ck (0 ≤ (v5 + (1 : Int)) ∧ (v5 + (1 : Int)) < (X.1 : Int)) <| zt_bd (F_L_size (zt_x X (v5 + (1 : Int))) σ) fun a15 s16 =>
  zt_ck (0 ≤ (v5 + (1 : Int)) ∧ (v5 + (1 : Int)) < (X.1 : Int)) <| zt_bd (F_M_size (zt_x X (v5 + (1 : Int))) s16) fun a17 s18 =>
  zt_bd (F_M_thrown s18) fun a19 s20 =>
  zt_ck (zt_in a19 ∧ zt_in a15) <| if a19 = a15 then
    zt_ck (zt_in a15) <| if a15 = (0 : Int) then
      if (zt_lc (s20.2.1 184 (0 : Int)) (zt_l a17)) = (0 : Int) then
        F_L_law_447 X r28 v5 s20
      else
        some ((0 : Int), s20)
    else
      F_L_law_447 X r28 v5 s20
  else
    some ((0 : Int), s20)
def F_L_law_503 (X : q_X)  (r28 : Int → zt_S → Option (Int × zt_S)) (v5 : Int) (σ : zt_S) : Option (Int × zt_S) :=
  F_L_law_2598 X r28 v5 σ
def F_L_law_450 (X : q_X)  (r28 : Int → zt_S → Option (Int × zt_S)) (v5 : Int) (σ : zt_S) : Option (Int × zt_S) :=
  zt_ck (0 ≤ (v5 + (1 : Int)) ∧ (v5 + (1 : Int)) < (X.1 : Int)) <| zt_bd (F_L_suit (zt_x X (v5 + (1 : Int))) σ) fun a21 s22 =>
  zt_ck (0 ≤ (v5 + (1 : Int)) ∧ (v5 + (1 : Int)) < (X.1 : Int)) <| zt_bd (F_M_suit (zt_x X (v5 + (1 : Int))) s22) fun a23 s24 =>
  zt_bd (F_M_thrown s24) fun a25 s26 =>
  zt_ck (zt_in a25 ∧ zt_in a21) <| if a25 = a21 then
    zt_ck (zt_in a21) <| if a21 = (0 : Int) then
      if (zt_lc (s26.2.1 184 (0 : Int)) (zt_l a23)) = (0 : Int) then
        F_L_law_503 X r28 v5 s26
      else
        some ((0 : Int), s26)
    else
      F_L_law_503 X r28 v5 s26
  else
    some ((0 : Int), s26)
def F_L_law_559 (X : q_X)  (r28 : Int → zt_S → Option (Int × zt_S)) (v5 : Int) (σ : zt_S) : Option (Int × zt_S) :=
  F_L_law_2598 X r28 v5 σ
def F_L_law_506 (X : q_X)  (r28 : Int → zt_S → Option (Int × zt_S)) (v5 : Int) (σ : zt_S) : Option (Int × zt_S) :=
  zt_ck (0 ≤ (v5 + (1 : Int)) ∧ (v5 + (1 : Int)) < (X.1 : Int)) <| zt_bd (F_L_rank (zt_x X (v5 + (1 : Int))) σ) fun a27 s28 =>
  zt_ck (0 ≤ (v5 + (1 : Int)) ∧ (v5 + (1 : Int)) < (X.1 : Int)) <| zt_bd (F_M_rank (zt_x X (v5 + (1 : Int))) s28) fun a29 s30 =>
  zt_bd (F_M_thrown s30) fun a31 s32 =>
  zt_ck (zt_in a31 ∧ zt_in a27) <| if a31 = a27 then
    zt_ck (zt_in a27) <| if a27 = (0 : Int) then
      if (zt_lc (s32.2.1 184 (0 : Int)) (zt_l a29)) = (0 : Int) then
        F_L_law_559 X r28 v5 s32
      else
        some ((0 : Int), s32)
    else
      F_L_law_559 X r28 v5 s32
  else
    some ((0 : Int), s32)
def F_L_law_615 (X : q_X)  (r28 : Int → zt_S → Option (Int × zt_S)) (v5 : Int) (σ : zt_S) : Option (Int × zt_S) :=
  F_L_law_2598 X r28 v5 σ
def F_L_law_562 (X : q_X)  (r28 : Int → zt_S → Option (Int × zt_S)) (v5 : Int) (σ : zt_S) : Option (Int × zt_S) :=
  zt_ck (0 ≤ (v5 + (1 : Int)) ∧ (v5 + (1 : Int)) < (X.1 : Int)) <| zt_bd (F_L_holder (zt_x X (v5 + (1 : Int))) σ) fun a33 s34 =>
  zt_ck (0 ≤ (v5 + (1 : Int)) ∧ (v5 + (1 : Int)) < (X.1 : Int)) <| zt_bd (F_M_holder (zt_x X (v5 + (1 : Int))) s34) fun a35 s36 =>
  zt_bd (F_M_thrown s36) fun a37 s38 =>
  zt_ck (zt_in a37 ∧ zt_in a33) <| if a37 = a33 then
    zt_ck (zt_in a33) <| if a33 = (0 : Int) then
      if (zt_lc (s38.2.1 184 (0 : Int)) (zt_l a35)) = (0 : Int) then
        F_L_law_615 X r28 v5 s38
      else
        some ((0 : Int), s38)
    else
      F_L_law_615 X r28 v5 s38
  else
    some ((0 : Int), s38)
def F_L_law_671 (X : q_X)  (r28 : Int → zt_S → Option (Int × zt_S)) (v5 : Int) (σ : zt_S) : Option (Int × zt_S) :=
  F_L_law_2598 X r28 v5 σ
def F_L_law_618 (X : q_X)  (r28 : Int → zt_S → Option (Int × zt_S)) (v5 : Int) (σ : zt_S) : Option (Int × zt_S) :=
  zt_ck (0 ≤ (v5 + (1 : Int)) ∧ (v5 + (1 : Int)) < (X.1 : Int)) <| zt_bd (F_L_held (zt_x X (v5 + (1 : Int))) σ) fun a39 s40 =>
  zt_ck (0 ≤ (v5 + (1 : Int)) ∧ (v5 + (1 : Int)) < (X.1 : Int)) <| zt_bd (F_M_held (zt_x X (v5 + (1 : Int))) s40) fun a41 s42 =>
  zt_bd (F_M_thrown s42) fun a43 s44 =>
  zt_ck (zt_in a43 ∧ zt_in a39) <| if a43 = a39 then
    zt_ck (zt_in a39) <| if a39 = (0 : Int) then
      if (zt_lc (s44.2.1 184 (0 : Int)) (zt_l a41)) = (0 : Int) then
        F_L_law_671 X r28 v5 s44
      else
        some ((0 : Int), s44)
    else
      F_L_law_671 X r28 v5 s44
  else
    some ((0 : Int), s44)
def F_L_law_739 (X : q_X)  (r28 : Int → zt_S → Option (Int × zt_S)) (v5 : Int) (σ : zt_S) : Option (Int × zt_S) :=
  F_L_law_2598 X r28 v5 σ
def F_L_law_674 (X : q_X)  (r28 : Int → zt_S → Option (Int × zt_S)) (v5 : Int) (σ : zt_S) : Option (Int × zt_S) :=
  zt_ck (0 ≤ (v5 + (1 : Int)) ∧ (v5 + (1 : Int)) < (X.1 : Int)) <| zt_ck (0 ≤ (v5 + (2 : Int)) ∧ (v5 + (2 : Int)) < (X.1 : Int)) <| zt_bd (F_L_inHand (zt_x X (v5 + (1 : Int))) (zt_x X (v5 + (2 : Int))) σ) fun a45 s46 =>
  zt_ck (0 ≤ (v5 + (1 : Int)) ∧ (v5 + (1 : Int)) < (X.1 : Int)) <| zt_ck (0 ≤ (v5 + (2 : Int)) ∧ (v5 + (2 : Int)) < (X.1 : Int)) <| zt_bd (F_M_inHand (zt_x X (v5 + (1 : Int))) (zt_x X (v5 + (2 : Int))) s46) fun a47 s48 =>
  zt_bd (F_M_thrown s48) fun a49 s50 =>
  zt_ck (zt_in a49 ∧ zt_in a45) <| if a49 = a45 then
    zt_ck (zt_in a45) <| if a45 = (0 : Int) then
      if (zt_lc (s50.2.1 184 (0 : Int)) (zt_l a47)) = (0 : Int) then
        F_L_law_739 X r28 v5 s50
      else
        some ((0 : Int), s50)
    else
      F_L_law_739 X r28 v5 s50
  else
    some ((0 : Int), s50)
def F_L_law_807 (X : q_X)  (r28 : Int → zt_S → Option (Int × zt_S)) (v5 : Int) (σ : zt_S) : Option (Int × zt_S) :=
  F_L_law_2598 X r28 v5 σ
def F_L_law_742 (X : q_X)  (r28 : Int → zt_S → Option (Int × zt_S)) (v5 : Int) (σ : zt_S) : Option (Int × zt_S) :=
  zt_ck (0 ≤ (v5 + (1 : Int)) ∧ (v5 + (1 : Int)) < (X.1 : Int)) <| zt_ck (0 ≤ (v5 + (2 : Int)) ∧ (v5 + (2 : Int)) < (X.1 : Int)) <| zt_bd (F_L_ofSuit (zt_x X (v5 + (1 : Int))) (zt_x X (v5 + (2 : Int))) σ) fun a51 s52 =>
  zt_ck (0 ≤ (v5 + (1 : Int)) ∧ (v5 + (1 : Int)) < (X.1 : Int)) <| zt_ck (0 ≤ (v5 + (2 : Int)) ∧ (v5 + (2 : Int)) < (X.1 : Int)) <| zt_bd (F_M_ofSuit (zt_x X (v5 + (1 : Int))) (zt_x X (v5 + (2 : Int))) s52) fun a53 s54 =>
  zt_bd (F_M_thrown s54) fun a55 s56 =>
  zt_ck (zt_in a55 ∧ zt_in a51) <| if a55 = a51 then
    zt_ck (zt_in a51) <| if a51 = (0 : Int) then
      if (zt_lc (s56.2.1 184 (0 : Int)) (zt_l a53)) = (0 : Int) then
        F_L_law_807 X r28 v5 s56
      else
        some ((0 : Int), s56)
    else
      F_L_law_807 X r28 v5 s56
  else
    some ((0 : Int), s56)
def F_L_law_870 (X : q_X)  (r28 : Int → zt_S → Option (Int × zt_S)) (v5 : Int) (σ : zt_S) : Option (Int × zt_S) :=
  F_L_law_2598 X r28 v5 σ
def F_L_law_864 (X : q_X)  (r28 : Int → zt_S → Option (Int × zt_S)) (v5 : Int) (x0 : Int64) (x1 : Int64) (σ : zt_S) : Option (Int × zt_S) :=
  if (zt_lc x1 x0) = (0 : Int) then
    F_L_law_870 X r28 v5 σ
  else
    some ((0 : Int), σ)
def F_L_law_810 (X : q_X)  (r28 : Int → zt_S → Option (Int × zt_S)) (v5 : Int) (σ : zt_S) : Option (Int × zt_S) :=
  zt_ck (0 ≤ (v5 + (1 : Int)) ∧ (v5 + (1 : Int)) < (X.1 : Int)) <| zt_bd (F_L_isLegal (zt_x X (v5 + (1 : Int))) σ) fun a57 s58 =>
  zt_ck (0 ≤ (v5 + (1 : Int)) ∧ (v5 + (1 : Int)) < (X.1 : Int)) <| zt_bd (F_M_isLegal (zt_x X (v5 + (1 : Int))) s58) fun a59 s60 =>
  zt_bd (F_M_thrown s60) fun a61 s62 =>
  zt_ck (zt_in a61 ∧ zt_in a57) <| if a61 = a57 then
    zt_ck (zt_in a57) <| if a57 = (0 : Int) then
      zt_ck (zt_in a59) <| if a59 = (0 : Int) then
        F_L_law_864 X r28 v5 (0 : Int64) (s62.2.1 184 (0 : Int)) s62
      else
        F_L_law_864 X r28 v5 (1 : Int64) (s62.2.1 184 (0 : Int)) s62
    else
      F_L_law_870 X r28 v5 s62
  else
    some ((0 : Int), s62)
def F_L_law_873 (X : q_X)  (r28 : Int → zt_S → Option (Int × zt_S)) (v5 : Int) (σ : zt_S) : Option (Int × zt_S) :=
  zt_bd (F_C_legal σ) fun a63 s64 =>
  zt_bd (F_M_legal s64) fun a65 s66 =>
  zt_ck (zt_in a63 ∧ zt_in a65) <| if a63 = a65 then
    F_L_law_2598 X r28 v5 s66
  else
    some ((0 : Int), s66)
def F_L_law_939 (X : q_X)  (r28 : Int → zt_S → Option (Int × zt_S)) (v5 : Int) (σ : zt_S) : Option (Int × zt_S) :=
  F_L_law_2598 X r28 v5 σ
def F_L_law_886 (X : q_X)  (r28 : Int → zt_S → Option (Int × zt_S)) (v5 : Int) (σ : zt_S) : Option (Int × zt_S) :=
  zt_ck (0 ≤ (v5 + (1 : Int)) ∧ (v5 + (1 : Int)) < (X.1 : Int)) <| zt_bd (F_L_power (zt_x X (v5 + (1 : Int))) σ) fun a67 s68 =>
  zt_ck (0 ≤ (v5 + (1 : Int)) ∧ (v5 + (1 : Int)) < (X.1 : Int)) <| zt_bd (F_M_power (zt_x X (v5 + (1 : Int))) s68) fun a69 s70 =>
  zt_bd (F_M_thrown s70) fun a71 s72 =>
  zt_ck (zt_in a71 ∧ zt_in a67) <| if a71 = a67 then
    zt_ck (zt_in a67) <| if a67 = (0 : Int) then
      if (zt_lc (s72.2.1 184 (0 : Int)) (zt_l a69)) = (0 : Int) then
        F_L_law_939 X r28 v5 s72
      else
        some ((0 : Int), s72)
    else
      F_L_law_939 X r28 v5 s72
  else
    some ((0 : Int), s72)
def F_L_law_942 (X : q_X)  (r28 : Int → zt_S → Option (Int × zt_S)) (v5 : Int) (σ : zt_S) : Option (Int × zt_S) :=
  zt_bd (F_C_led σ) fun a73 s74 =>
  zt_bd (F_M_led s74) fun a75 s76 =>
  zt_ck (zt_in a73 ∧ zt_in a75) <| if a73 = a75 then
    F_L_law_2598 X r28 v5 s76
  else
    some ((0 : Int), s76)
def F_L_law_955 (X : q_X)  (r28 : Int → zt_S → Option (Int × zt_S)) (v5 : Int) (σ : zt_S) : Option (Int × zt_S) :=
  zt_bd (F_C_winning σ) fun a77 s78 =>
  zt_bd (F_M_winning s78) fun a79 s80 =>
  zt_ck (zt_in a77 ∧ zt_in a79) <| if a77 = a79 then
    F_L_law_2598 X r28 v5 s80
  else
    some ((0 : Int), s80)
def F_L_law_1028 (X : q_X)  (r28 : Int → zt_S → Option (Int × zt_S)) (v5 : Int) (σ : zt_S) : Option (Int × zt_S) :=
  F_L_law_2598 X r28 v5 σ
def F_L_law_1022 (X : q_X)  (r28 : Int → zt_S → Option (Int × zt_S)) (v5 : Int) (x0 : Int64) (x1 : Int64) (σ : zt_S) : Option (Int × zt_S) :=
  if (zt_lc x1 x0) = (0 : Int) then
    F_L_law_1028 X r28 v5 σ
  else
    some ((0 : Int), σ)
def F_L_law_968 (X : q_X)  (r28 : Int → zt_S → Option (Int × zt_S)) (v5 : Int) (σ : zt_S) : Option (Int × zt_S) :=
  zt_ck (0 ≤ (v5 + (1 : Int)) ∧ (v5 + (1 : Int)) < (X.1 : Int)) <| zt_bd (F_L_wouldLead (zt_x X (v5 + (1 : Int))) σ) fun a81 s82 =>
  zt_ck (0 ≤ (v5 + (1 : Int)) ∧ (v5 + (1 : Int)) < (X.1 : Int)) <| zt_bd (F_M_wouldLead (zt_x X (v5 + (1 : Int))) s82) fun a83 s84 =>
  zt_bd (F_M_thrown s84) fun a85 s86 =>
  zt_ck (zt_in a85 ∧ zt_in a81) <| if a85 = a81 then
    zt_ck (zt_in a81) <| if a81 = (0 : Int) then
      zt_ck (zt_in a83) <| if a83 = (0 : Int) then
        F_L_law_1022 X r28 v5 (0 : Int64) (s86.2.1 184 (0 : Int)) s86
      else
        F_L_law_1022 X r28 v5 (1 : Int64) (s86.2.1 184 (0 : Int)) s86
    else
      F_L_law_1028 X r28 v5 s86
  else
    some ((0 : Int), s86)
def F_L_law_1096 (X : q_X)  (r28 : Int → zt_S → Option (Int × zt_S)) (v5 : Int) (σ : zt_S) : Option (Int × zt_S) :=
  F_L_law_2598 X r28 v5 σ
def F_L_law_1031 (X : q_X)  (r28 : Int → zt_S → Option (Int × zt_S)) (v5 : Int) (σ : zt_S) : Option (Int × zt_S) :=
  zt_ck (0 ≤ (v5 + (1 : Int)) ∧ (v5 + (1 : Int)) < (X.1 : Int)) <| zt_ck (0 ≤ (v5 + (2 : Int)) ∧ (v5 + (2 : Int)) < (X.1 : Int)) <| zt_bd (F_L_played (zt_x X (v5 + (1 : Int))) (zt_x X (v5 + (2 : Int))) σ) fun a87 s88 =>
  zt_ck (0 ≤ (v5 + (1 : Int)) ∧ (v5 + (1 : Int)) < (X.1 : Int)) <| zt_ck (0 ≤ (v5 + (2 : Int)) ∧ (v5 + (2 : Int)) < (X.1 : Int)) <| zt_bd (F_M_played (zt_x X (v5 + (1 : Int))) (zt_x X (v5 + (2 : Int))) s88) fun a89 s90 =>
  zt_bd (F_M_thrown s90) fun a91 s92 =>
  zt_ck (zt_in a91 ∧ zt_in a87) <| if a91 = a87 then
    zt_ck (zt_in a87) <| if a87 = (0 : Int) then
      if (zt_lc (s92.2.1 184 (0 : Int)) (zt_l a89)) = (0 : Int) then
        F_L_law_1096 X r28 v5 s92
      else
        some ((0 : Int), s92)
    else
      F_L_law_1096 X r28 v5 s92
  else
    some ((0 : Int), s92)
def F_L_law_1164 (X : q_X)  (r28 : Int → zt_S → Option (Int × zt_S)) (v5 : Int) (σ : zt_S) : Option (Int × zt_S) :=
  F_L_law_2598 X r28 v5 σ
def F_L_law_1099 (X : q_X)  (r28 : Int → zt_S → Option (Int × zt_S)) (v5 : Int) (σ : zt_S) : Option (Int × zt_S) :=
  zt_ck (0 ≤ (v5 + (1 : Int)) ∧ (v5 + (1 : Int)) < (X.1 : Int)) <| zt_ck (0 ≤ (v5 + (2 : Int)) ∧ (v5 + (2 : Int)) < (X.1 : Int)) <| zt_bd (F_L_trick (zt_x X (v5 + (1 : Int))) (zt_x X (v5 + (2 : Int))) σ) fun a93 s94 =>
  zt_ck (0 ≤ (v5 + (1 : Int)) ∧ (v5 + (1 : Int)) < (X.1 : Int)) <| zt_ck (0 ≤ (v5 + (2 : Int)) ∧ (v5 + (2 : Int)) < (X.1 : Int)) <| zt_bd (F_M_trick (zt_x X (v5 + (1 : Int))) (zt_x X (v5 + (2 : Int))) s94) fun a95 s96 =>
  zt_bd (F_M_thrown s96) fun a97 s98 =>
  zt_ck (zt_in a97 ∧ zt_in a93) <| if a97 = a93 then
    zt_ck (zt_in a93) <| if a93 = (0 : Int) then
      if (zt_lc (s98.2.1 184 (0 : Int)) (zt_l a95)) = (0 : Int) then
        F_L_law_1164 X r28 v5 s98
      else
        some ((0 : Int), s98)
    else
      F_L_law_1164 X r28 v5 s98
  else
    some ((0 : Int), s98)
def F_L_law_1220 (X : q_X)  (r28 : Int → zt_S → Option (Int × zt_S)) (v5 : Int) (σ : zt_S) : Option (Int × zt_S) :=
  F_L_law_2598 X r28 v5 σ
def F_L_law_1167 (X : q_X)  (r28 : Int → zt_S → Option (Int × zt_S)) (v5 : Int) (σ : zt_S) : Option (Int × zt_S) :=
  zt_ck (0 ≤ (v5 + (1 : Int)) ∧ (v5 + (1 : Int)) < (X.1 : Int)) <| zt_bd (F_L_tricks (zt_x X (v5 + (1 : Int))) σ) fun a99 s100 =>
  zt_ck (0 ≤ (v5 + (1 : Int)) ∧ (v5 + (1 : Int)) < (X.1 : Int)) <| zt_bd (F_M_tricks (zt_x X (v5 + (1 : Int))) s100) fun a101 s102 =>
  zt_bd (F_M_thrown s102) fun a103 s104 =>
  zt_ck (zt_in a103 ∧ zt_in a99) <| if a103 = a99 then
    zt_ck (zt_in a99) <| if a99 = (0 : Int) then
      if (zt_lc (s104.2.1 184 (0 : Int)) (zt_l a101)) = (0 : Int) then
        F_L_law_1220 X r28 v5 s104
      else
        some ((0 : Int), s104)
    else
      F_L_law_1220 X r28 v5 s104
  else
    some ((0 : Int), s104)
def F_L_law_1276 (X : q_X)  (r28 : Int → zt_S → Option (Int × zt_S)) (v5 : Int) (σ : zt_S) : Option (Int × zt_S) :=
  F_L_law_2598 X r28 v5 σ
def F_L_law_1223 (X : q_X)  (r28 : Int → zt_S → Option (Int × zt_S)) (v5 : Int) (σ : zt_S) : Option (Int × zt_S) :=
  zt_ck (0 ≤ (v5 + (1 : Int)) ∧ (v5 + (1 : Int)) < (X.1 : Int)) <| zt_bd (F_L_told (zt_x X (v5 + (1 : Int))) σ) fun a105 s106 =>
  zt_ck (0 ≤ (v5 + (1 : Int)) ∧ (v5 + (1 : Int)) < (X.1 : Int)) <| zt_bd (F_M_told (zt_x X (v5 + (1 : Int))) s106) fun a107 s108 =>
  zt_bd (F_M_thrown s108) fun a109 s110 =>
  zt_ck (zt_in a109 ∧ zt_in a105) <| if a109 = a105 then
    zt_ck (zt_in a105) <| if a105 = (0 : Int) then
      if (zt_lc (s110.2.1 184 (0 : Int)) (zt_l a107)) = (0 : Int) then
        F_L_law_1276 X r28 v5 s110
      else
        some ((0 : Int), s110)
    else
      F_L_law_1276 X r28 v5 s110
  else
    some ((0 : Int), s110)
def F_L_law_1332 (X : q_X)  (r28 : Int → zt_S → Option (Int × zt_S)) (v5 : Int) (σ : zt_S) : Option (Int × zt_S) :=
  F_L_law_2598 X r28 v5 σ
def F_L_law_1279 (X : q_X)  (r28 : Int → zt_S → Option (Int × zt_S)) (v5 : Int) (σ : zt_S) : Option (Int × zt_S) :=
  zt_ck (0 ≤ (v5 + (1 : Int)) ∧ (v5 + (1 : Int)) < (X.1 : Int)) <| zt_bd (F_L_result (zt_x X (v5 + (1 : Int))) σ) fun a111 s112 =>
  zt_ck (0 ≤ (v5 + (1 : Int)) ∧ (v5 + (1 : Int)) < (X.1 : Int)) <| zt_bd (F_M_result (zt_x X (v5 + (1 : Int))) s112) fun a113 s114 =>
  zt_bd (F_M_thrown s114) fun a115 s116 =>
  zt_ck (zt_in a115 ∧ zt_in a111) <| if a115 = a111 then
    zt_ck (zt_in a111) <| if a111 = (0 : Int) then
      if (zt_lc (s116.2.1 184 (0 : Int)) (zt_l a113)) = (0 : Int) then
        F_L_law_1332 X r28 v5 s116
      else
        some ((0 : Int), s116)
    else
      F_L_law_1332 X r28 v5 s116
  else
    some ((0 : Int), s116)
def F_L_law_1388 (X : q_X)  (r28 : Int → zt_S → Option (Int × zt_S)) (v5 : Int) (σ : zt_S) : Option (Int × zt_S) :=
  F_L_law_2598 X r28 v5 σ
def F_L_law_1335 (X : q_X)  (r28 : Int → zt_S → Option (Int × zt_S)) (v5 : Int) (σ : zt_S) : Option (Int × zt_S) :=
  zt_ck (0 ≤ (v5 + (1 : Int)) ∧ (v5 + (1 : Int)) < (X.1 : Int)) <| zt_bd (F_L_points (zt_x X (v5 + (1 : Int))) σ) fun a117 s118 =>
  zt_ck (0 ≤ (v5 + (1 : Int)) ∧ (v5 + (1 : Int)) < (X.1 : Int)) <| zt_bd (F_M_points (zt_x X (v5 + (1 : Int))) s118) fun a119 s120 =>
  zt_bd (F_M_thrown s120) fun a121 s122 =>
  zt_ck (zt_in a121 ∧ zt_in a117) <| if a121 = a117 then
    zt_ck (zt_in a117) <| if a117 = (0 : Int) then
      if (zt_lc (s122.2.1 184 (0 : Int)) (zt_l a119)) = (0 : Int) then
        F_L_law_1388 X r28 v5 s122
      else
        some ((0 : Int), s122)
    else
      F_L_law_1388 X r28 v5 s122
  else
    some ((0 : Int), s122)
def F_L_law_1444 (X : q_X)  (r28 : Int → zt_S → Option (Int × zt_S)) (v5 : Int) (σ : zt_S) : Option (Int × zt_S) :=
  F_L_law_2598 X r28 v5 σ
def F_L_law_1391 (X : q_X)  (r28 : Int → zt_S → Option (Int × zt_S)) (v5 : Int) (σ : zt_S) : Option (Int × zt_S) :=
  zt_ck (0 ≤ (v5 + (1 : Int)) ∧ (v5 + (1 : Int)) < (X.1 : Int)) <| zt_bd (F_L_ranking (zt_x X (v5 + (1 : Int))) σ) fun a123 s124 =>
  zt_ck (0 ≤ (v5 + (1 : Int)) ∧ (v5 + (1 : Int)) < (X.1 : Int)) <| zt_bd (F_M_ranking (zt_x X (v5 + (1 : Int))) s124) fun a125 s126 =>
  zt_bd (F_M_thrown s126) fun a127 s128 =>
  zt_ck (zt_in a127 ∧ zt_in a123) <| if a127 = a123 then
    zt_ck (zt_in a123) <| if a123 = (0 : Int) then
      if (zt_lc (s128.2.1 184 (0 : Int)) (zt_l a125)) = (0 : Int) then
        F_L_law_1444 X r28 v5 s128
      else
        some ((0 : Int), s128)
    else
      F_L_law_1444 X r28 v5 s128
  else
    some ((0 : Int), s128)
def F_L_law_1519 (X : q_X)  (r28 : Int → zt_S → Option (Int × zt_S)) (v5 : Int) (σ : zt_S) : Option (Int × zt_S) :=
  F_L_law_2598 X r28 v5 σ
def F_L_law_1513 (X : q_X)  (r28 : Int → zt_S → Option (Int × zt_S)) (v5 : Int) (x0 : Int64) (x1 : Int64) (σ : zt_S) : Option (Int × zt_S) :=
  if (zt_lc x1 x0) = (0 : Int) then
    F_L_law_1519 X r28 v5 σ
  else
    some ((0 : Int), σ)
def F_L_law_1447 (X : q_X)  (r28 : Int → zt_S → Option (Int × zt_S)) (v5 : Int) (σ : zt_S) : Option (Int × zt_S) :=
  zt_ck (0 ≤ (v5 + (1 : Int)) ∧ (v5 + (1 : Int)) < (X.1 : Int)) <| zt_ck (0 ≤ (v5 + (2 : Int)) ∧ (v5 + (2 : Int)) < (X.1 : Int)) <| zt_bd (F_L_lacks (zt_x X (v5 + (1 : Int))) (zt_x X (v5 + (2 : Int))) σ) fun a129 s130 =>
  zt_ck (0 ≤ (v5 + (1 : Int)) ∧ (v5 + (1 : Int)) < (X.1 : Int)) <| zt_ck (0 ≤ (v5 + (2 : Int)) ∧ (v5 + (2 : Int)) < (X.1 : Int)) <| zt_bd (F_M_lacks (zt_x X (v5 + (1 : Int))) (zt_x X (v5 + (2 : Int))) s130) fun a131 s132 =>
  zt_bd (F_M_thrown s132) fun a133 s134 =>
  zt_ck (zt_in a133 ∧ zt_in a129) <| if a133 = a129 then
    zt_ck (zt_in a129) <| if a129 = (0 : Int) then
      zt_ck (zt_in a131) <| if a131 = (0 : Int) then
        F_L_law_1513 X r28 v5 (0 : Int64) (s134.2.1 184 (0 : Int)) s134
      else
        F_L_law_1513 X r28 v5 (1 : Int64) (s134.2.1 184 (0 : Int)) s134
    else
      F_L_law_1519 X r28 v5 s134
  else
    some ((0 : Int), s134)
def F_L_law_1594 (X : q_X)  (r28 : Int → zt_S → Option (Int × zt_S)) (v5 : Int) (σ : zt_S) : Option (Int × zt_S) :=
  F_L_law_2598 X r28 v5 σ
def F_L_law_1588 (X : q_X)  (r28 : Int → zt_S → Option (Int × zt_S)) (v5 : Int) (x0 : Int64) (x1 : Int64) (σ : zt_S) : Option (Int × zt_S) :=
  if (zt_lc x1 x0) = (0 : Int) then
    F_L_law_1594 X r28 v5 σ
  else
    some ((0 : Int), σ)
def F_L_law_1522 (X : q_X)  (r28 : Int → zt_S → Option (Int × zt_S)) (v5 : Int) (σ : zt_S) : Option (Int × zt_S) :=
  zt_ck (0 ≤ (v5 + (1 : Int)) ∧ (v5 + (1 : Int)) < (X.1 : Int)) <| zt_ck (0 ≤ (v5 + (2 : Int)) ∧ (v5 + (2 : Int)) < (X.1 : Int)) <| zt_bd (F_L_could (zt_x X (v5 + (1 : Int))) (zt_x X (v5 + (2 : Int))) σ) fun a135 s136 =>
  zt_ck (0 ≤ (v5 + (1 : Int)) ∧ (v5 + (1 : Int)) < (X.1 : Int)) <| zt_ck (0 ≤ (v5 + (2 : Int)) ∧ (v5 + (2 : Int)) < (X.1 : Int)) <| zt_bd (F_M_could (zt_x X (v5 + (1 : Int))) (zt_x X (v5 + (2 : Int))) s136) fun a137 s138 =>
  zt_bd (F_M_thrown s138) fun a139 s140 =>
  zt_ck (zt_in a139 ∧ zt_in a135) <| if a139 = a135 then
    zt_ck (zt_in a135) <| if a135 = (0 : Int) then
      zt_ck (zt_in a137) <| if a137 = (0 : Int) then
        F_L_law_1588 X r28 v5 (0 : Int64) (s140.2.1 184 (0 : Int)) s140
      else
        F_L_law_1588 X r28 v5 (1 : Int64) (s140.2.1 184 (0 : Int)) s140
    else
      F_L_law_1594 X r28 v5 s140
  else
    some ((0 : Int), s140)
def F_L_law_1650 (X : q_X)  (r28 : Int → zt_S → Option (Int × zt_S)) (v5 : Int) (σ : zt_S) : Option (Int × zt_S) :=
  F_L_law_2598 X r28 v5 σ
def F_L_law_1597 (X : q_X)  (r28 : Int → zt_S → Option (Int × zt_S)) (v5 : Int) (σ : zt_S) : Option (Int × zt_S) :=
  zt_ck (0 ≤ (v5 + (1 : Int)) ∧ (v5 + (1 : Int)) < (X.1 : Int)) <| zt_bd (F_L_unseen (zt_x X (v5 + (1 : Int))) σ) fun a141 s142 =>
  zt_ck (0 ≤ (v5 + (1 : Int)) ∧ (v5 + (1 : Int)) < (X.1 : Int)) <| zt_bd (F_M_unseen (zt_x X (v5 + (1 : Int))) s142) fun a143 s144 =>
  zt_bd (F_M_thrown s144) fun a145 s146 =>
  zt_ck (zt_in a145 ∧ zt_in a141) <| if a145 = a141 then
    zt_ck (zt_in a141) <| if a141 = (0 : Int) then
      if (zt_lc (s146.2.1 184 (0 : Int)) (zt_l a143)) = (0 : Int) then
        F_L_law_1650 X r28 v5 s146
      else
        some ((0 : Int), s146)
    else
      F_L_law_1650 X r28 v5 s146
  else
    some ((0 : Int), s146)
def F_L_law_1713 (X : q_X)  (r28 : Int → zt_S → Option (Int × zt_S)) (v5 : Int) (σ : zt_S) : Option (Int × zt_S) :=
  F_L_law_2598 X r28 v5 σ
def F_L_law_1707 (X : q_X)  (r28 : Int → zt_S → Option (Int × zt_S)) (v5 : Int) (x0 : Int64) (x1 : Int64) (σ : zt_S) : Option (Int × zt_S) :=
  if (zt_lc x1 x0) = (0 : Int) then
    F_L_law_1713 X r28 v5 σ
  else
    some ((0 : Int), σ)
def F_L_law_1653 (X : q_X)  (r28 : Int → zt_S → Option (Int × zt_S)) (v5 : Int) (σ : zt_S) : Option (Int × zt_S) :=
  zt_ck (0 ≤ (v5 + (1 : Int)) ∧ (v5 + (1 : Int)) < (X.1 : Int)) <| zt_bd (F_L_isMaster (zt_x X (v5 + (1 : Int))) σ) fun a147 s148 =>
  zt_ck (0 ≤ (v5 + (1 : Int)) ∧ (v5 + (1 : Int)) < (X.1 : Int)) <| zt_bd (F_M_isMaster (zt_x X (v5 + (1 : Int))) s148) fun a149 s150 =>
  zt_bd (F_M_thrown s150) fun a151 s152 =>
  zt_ck (zt_in a151 ∧ zt_in a147) <| if a151 = a147 then
    zt_ck (zt_in a147) <| if a147 = (0 : Int) then
      zt_ck (zt_in a149) <| if a149 = (0 : Int) then
        F_L_law_1707 X r28 v5 (0 : Int64) (s152.2.1 184 (0 : Int)) s152
      else
        F_L_law_1707 X r28 v5 (1 : Int64) (s152.2.1 184 (0 : Int)) s152
    else
      F_L_law_1713 X r28 v5 s152
  else
    some ((0 : Int), s152)
def F_L_law_1769 (X : q_X)  (r28 : Int → zt_S → Option (Int × zt_S)) (v5 : Int) (σ : zt_S) : Option (Int × zt_S) :=
  F_L_law_2598 X r28 v5 σ
def F_L_law_1716 (X : q_X)  (r28 : Int → zt_S → Option (Int × zt_S)) (v5 : Int) (σ : zt_S) : Option (Int × zt_S) :=
  zt_ck (0 ≤ (v5 + (1 : Int)) ∧ (v5 + (1 : Int)) < (X.1 : Int)) <| zt_bd (F_L_masters (zt_x X (v5 + (1 : Int))) σ) fun a153 s154 =>
  zt_ck (0 ≤ (v5 + (1 : Int)) ∧ (v5 + (1 : Int)) < (X.1 : Int)) <| zt_bd (F_M_masters (zt_x X (v5 + (1 : Int))) s154) fun a155 s156 =>
  zt_bd (F_M_thrown s156) fun a157 s158 =>
  zt_ck (zt_in a157 ∧ zt_in a153) <| if a157 = a153 then
    zt_ck (zt_in a153) <| if a153 = (0 : Int) then
      if (zt_lc (s158.2.1 184 (0 : Int)) (zt_l a155)) = (0 : Int) then
        F_L_law_1769 X r28 v5 s158
      else
        some ((0 : Int), s158)
    else
      F_L_law_1769 X r28 v5 s158
  else
    some ((0 : Int), s158)
def F_L_law_1772 (X : q_X)  (r28 : Int → zt_S → Option (Int × zt_S)) (v5 : Int) (σ : zt_S) : Option (Int × zt_S) :=
  zt_bd (F_C_darkIn σ) fun a159 s160 =>
  zt_bd (F_M_darkIn s160) fun a161 s162 =>
  zt_ck (zt_in a159 ∧ zt_in a161) <| if a159 = a161 then
    F_L_law_2598 X r28 v5 s162
  else
    some ((0 : Int), s162)
def F_L_law_1785 (X : q_X)  (r28 : Int → zt_S → Option (Int × zt_S)) (v5 : Int) (σ : zt_S) : Option (Int × zt_S) :=
  zt_bd (F_C_sure σ) fun a163 s164 =>
  zt_bd (F_M_sure s164) fun a165 s166 =>
  zt_ck (zt_in a163 ∧ zt_in a165) <| if a163 = a165 then
    F_L_law_2598 X r28 v5 s166
  else
    some ((0 : Int), s166)
def F_L_law_1798 (X : q_X)  (r28 : Int → zt_S → Option (Int × zt_S)) (v5 : Int) (σ : zt_S) : Option (Int × zt_S) :=
  zt_bd (F_C_sureCard σ) fun a167 s168 =>
  zt_bd (F_M_sureCard s168) fun a169 s170 =>
  zt_ck (zt_in a167 ∧ zt_in a169) <| if a167 = a169 then
    F_L_law_2598 X r28 v5 s170
  else
    some ((0 : Int), s170)
def F_L_law_1885 (X : q_X)  (r28 : Int → zt_S → Option (Int × zt_S)) (v5 : Int) (σ : zt_S) : Option (Int × zt_S) :=
  F_L_law_2598 X r28 v5 σ
def F_L_law_1883 (X : q_X)    (σ : zt_S) : Option (Int × zt_S) :=
  some ((0 : Int), σ)
def F_L_law_1811 (X : q_X)  (r28 : Int → zt_S → Option (Int × zt_S)) (v5 : Int) (σ : zt_S) : Option (Int × zt_S) :=
  zt_ck (0 ≤ (v5 + (1 : Int)) ∧ (v5 + (1 : Int)) < (X.1 : Int)) <| zt_bd (F_L_meanRank (zt_x X (v5 + (1 : Int))) σ) fun a171 s172 =>
  zt_ck (0 ≤ (v5 + (1 : Int)) ∧ (v5 + (1 : Int)) < (X.1 : Int)) <| zt_bd (F_M_meanRank (zt_x X (v5 + (1 : Int))) s172) fun a173 s174 =>
  zt_bd (F_M_thrown s174) fun a175 s176 =>
  zt_ck (zt_in a175 ∧ zt_in a171) <| if a175 = a171 then
    zt_ck (zt_in a171) <| if a171 = (0 : Int) then
      if (zt_dc (s176.2.2.1 (0 : Int)) a173 .l) = (0 : Int) then
        F_L_law_1885 X r28 v5 s176
      else
        if (zt_dc (s176.2.2.1 (0 : Int)) (s176.2.2.1 (0 : Int)) .l) = (0 : Int) then
          F_L_law_1883 X s176
        else
          if (zt_dc a173 a173 .l) = (0 : Int) then
            F_L_law_1883 X s176
          else
            F_L_law_1885 X r28 v5 s176
    else
      F_L_law_1885 X r28 v5 s176
  else
    some ((0 : Int), s176)
def F_L_law_1963 (X : q_X)  (r28 : Int → zt_S → Option (Int × zt_S)) (v5 : Int) (σ : zt_S) : Option (Int × zt_S) :=
  F_L_law_2598 X r28 v5 σ
def F_L_law_1961 (X : q_X)    (σ : zt_S) : Option (Int × zt_S) :=
  some ((0 : Int), σ)
def F_L_law_1888 (X : q_X)  (r28 : Int → zt_S → Option (Int × zt_S)) (v5 : Int) (σ : zt_S) : Option (Int × zt_S) :=
  zt_ck (0 ≤ (v5 + (1 : Int)) ∧ (v5 + (1 : Int)) < (X.1 : Int)) <| zt_bd (F_L_share (zt_x X (v5 + (1 : Int))) σ) fun a177 s178 =>
  zt_ck (0 ≤ (v5 + (1 : Int)) ∧ (v5 + (1 : Int)) < (X.1 : Int)) <| zt_bd (F_M_share (zt_x X (v5 + (1 : Int))) s178) fun a179 s180 =>
  zt_bd (F_M_thrown s180) fun a181 s182 =>
  zt_ck (zt_in a181 ∧ zt_in a177) <| if a181 = a177 then
    zt_ck (zt_in a177) <| if a177 = (0 : Int) then
      zt_ck (FP.f2d a179 &&& 0x7fffffffffffffff ≤ 0x7ff0000000000000) <| if (zt_dc (s182.2.2.1 (0 : Int)) (FP.f2d a179) .l) = (0 : Int) then
        F_L_law_1963 X r28 v5 s182
      else
        if (zt_dc (s182.2.2.1 (0 : Int)) (s182.2.2.1 (0 : Int)) .l) = (0 : Int) then
          F_L_law_1961 X s182
        else
          if (zt_fc a179 a179 .l) = (0 : Int) then
            F_L_law_1961 X s182
          else
            F_L_law_1963 X r28 v5 s182
    else
      F_L_law_1963 X r28 v5 s182
  else
    some ((0 : Int), s182)
def F_L_law_2019 (X : q_X)  (r28 : Int → zt_S → Option (Int × zt_S)) (v5 : Int) (σ : zt_S) : Option (Int × zt_S) :=
  F_L_law_2598 X r28 v5 σ
def F_L_law_1966 (X : q_X)  (r28 : Int → zt_S → Option (Int × zt_S)) (v5 : Int) (σ : zt_S) : Option (Int × zt_S) :=
  zt_ck (0 ≤ (v5 + (1 : Int)) ∧ (v5 + (1 : Int)) < (X.1 : Int)) <| zt_bd (F_L_play (zt_x X (v5 + (1 : Int))) σ) fun a183 s184 =>
  zt_ck (0 ≤ (v5 + (1 : Int)) ∧ (v5 + (1 : Int)) < (X.1 : Int)) <| zt_bd (F_M_play (zt_x X (v5 + (1 : Int))) s184) fun a185 s186 =>
  zt_bd (F_M_thrown s186) fun a187 s188 =>
  zt_ck (zt_in a187 ∧ zt_in a183) <| if a187 = a183 then
    zt_ck (zt_in a183) <| if a183 = (0 : Int) then
      if (zt_lc (s188.2.1 184 (0 : Int)) (zt_l a185)) = (0 : Int) then
        F_L_law_2019 X r28 v5 s188
      else
        some ((0 : Int), s188)
    else
      F_L_law_2019 X r28 v5 s188
  else
    some ((0 : Int), s188)
def F_L_law_2075 (X : q_X)  (r28 : Int → zt_S → Option (Int × zt_S)) (v5 : Int) (σ : zt_S) : Option (Int × zt_S) :=
  F_L_law_2598 X r28 v5 σ
def F_L_law_2022 (X : q_X)  (r28 : Int → zt_S → Option (Int × zt_S)) (v5 : Int) (σ : zt_S) : Option (Int × zt_S) :=
  zt_ck (0 ≤ (v5 + (1 : Int)) ∧ (v5 + (1 : Int)) < (X.1 : Int)) <| zt_bd (F_L_auto (zt_x X (v5 + (1 : Int))) σ) fun a189 s190 =>
  zt_ck (0 ≤ (v5 + (1 : Int)) ∧ (v5 + (1 : Int)) < (X.1 : Int)) <| zt_bd (F_M_auto (zt_x X (v5 + (1 : Int))) s190) fun a191 s192 =>
  zt_bd (F_M_thrown s192) fun a193 s194 =>
  zt_ck (zt_in a193 ∧ zt_in a189) <| if a193 = a189 then
    zt_ck (zt_in a189) <| if a189 = (0 : Int) then
      if (zt_lc (s194.2.1 184 (0 : Int)) (zt_l a191)) = (0 : Int) then
        F_L_law_2075 X r28 v5 s194
      else
        some ((0 : Int), s194)
    else
      F_L_law_2075 X r28 v5 s194
  else
    some ((0 : Int), s194)
def F_L_law_2143 (X : q_X)  (r28 : Int → zt_S → Option (Int × zt_S)) (v5 : Int) (σ : zt_S) : Option (Int × zt_S) :=
  F_L_law_2598 X r28 v5 σ
def F_L_law_2078 (X : q_X)  (r28 : Int → zt_S → Option (Int × zt_S)) (v5 : Int) (σ : zt_S) : Option (Int × zt_S) :=
  zt_ck (0 ≤ (v5 + (1 : Int)) ∧ (v5 + (1 : Int)) < (X.1 : Int)) <| zt_ck (0 ≤ (v5 + (2 : Int)) ∧ (v5 + (2 : Int)) < (X.1 : Int)) <| zt_bd (F_L_tell (zt_x X (v5 + (1 : Int))) (zt_x X (v5 + (2 : Int))) σ) fun a195 s196 =>
  zt_ck (0 ≤ (v5 + (1 : Int)) ∧ (v5 + (1 : Int)) < (X.1 : Int)) <| zt_ck (0 ≤ (v5 + (2 : Int)) ∧ (v5 + (2 : Int)) < (X.1 : Int)) <| zt_bd (F_M_tell (zt_x X (v5 + (1 : Int))) (zt_x X (v5 + (2 : Int))) s196) fun a197 s198 =>
  zt_bd (F_M_thrown s198) fun a199 s200 =>
  zt_ck (zt_in a199 ∧ zt_in a195) <| if a199 = a195 then
    zt_ck (zt_in a195) <| if a195 = (0 : Int) then
      if (zt_lc (s200.2.1 184 (0 : Int)) (zt_l a197)) = (0 : Int) then
        F_L_law_2143 X r28 v5 s200
      else
        some ((0 : Int), s200)
    else
      F_L_law_2143 X r28 v5 s200
  else
    some ((0 : Int), s200)
def F_L_law_2199 (X : q_X)  (r28 : Int → zt_S → Option (Int × zt_S)) (v5 : Int) (σ : zt_S) : Option (Int × zt_S) :=
  F_L_law_2598 X r28 v5 σ
def F_L_law_2146 (X : q_X)  (r28 : Int → zt_S → Option (Int × zt_S)) (v5 : Int) (σ : zt_S) : Option (Int × zt_S) :=
  zt_ck (0 ≤ (v5 + (1 : Int)) ∧ (v5 + (1 : Int)) < (X.1 : Int)) <| zt_bd (F_L_deal (zt_x X (v5 + (1 : Int))) σ) fun a201 s202 =>
  zt_ck (0 ≤ (v5 + (1 : Int)) ∧ (v5 + (1 : Int)) < (X.1 : Int)) <| zt_bd (F_M_deal (zt_x X (v5 + (1 : Int))) s202) fun a203 s204 =>
  zt_bd (F_M_thrown s204) fun a205 s206 =>
  zt_ck (zt_in a205 ∧ zt_in a201) <| if a205 = a201 then
    zt_ck (zt_in a201) <| if a201 = (0 : Int) then
      if (zt_lc (s206.2.1 184 (0 : Int)) (zt_l a203)) = (0 : Int) then
        F_L_law_2199 X r28 v5 s206
      else
        some ((0 : Int), s206)
    else
      F_L_law_2199 X r28 v5 s206
  else
    some ((0 : Int), s206)
def F_L_law_2255 (X : q_X)  (r28 : Int → zt_S → Option (Int × zt_S)) (v5 : Int) (σ : zt_S) : Option (Int × zt_S) :=
  F_L_law_2598 X r28 v5 σ
def F_L_law_2202 (X : q_X)  (r28 : Int → zt_S → Option (Int × zt_S)) (v5 : Int) (σ : zt_S) : Option (Int × zt_S) :=
  zt_ck (0 ≤ (v5 + (1 : Int)) ∧ (v5 + (1 : Int)) < (X.1 : Int)) <| zt_bd (F_L_setTrump (zt_x X (v5 + (1 : Int))) σ) fun a207 s208 =>
  zt_ck (0 ≤ (v5 + (1 : Int)) ∧ (v5 + (1 : Int)) < (X.1 : Int)) <| zt_bd (F_M_setTrump (zt_x X (v5 + (1 : Int))) s208) fun a209 s210 =>
  zt_bd (F_M_thrown s210) fun a211 s212 =>
  zt_ck (zt_in a211 ∧ zt_in a207) <| if a211 = a207 then
    zt_ck (zt_in a207) <| if a207 = (0 : Int) then
      if (zt_lc (s212.2.1 184 (0 : Int)) (zt_l a209)) = (0 : Int) then
        F_L_law_2255 X r28 v5 s212
      else
        some ((0 : Int), s212)
    else
      F_L_law_2255 X r28 v5 s212
  else
    some ((0 : Int), s212)
def F_L_law_2311 (X : q_X)  (r28 : Int → zt_S → Option (Int × zt_S)) (v5 : Int) (σ : zt_S) : Option (Int × zt_S) :=
  F_L_law_2598 X r28 v5 σ
def F_L_law_2258 (X : q_X)  (r28 : Int → zt_S → Option (Int × zt_S)) (v5 : Int) (σ : zt_S) : Option (Int × zt_S) :=
  zt_ck (0 ≤ (v5 + (1 : Int)) ∧ (v5 + (1 : Int)) < (X.1 : Int)) <| zt_bd (F_L_setRule (zt_x X (v5 + (1 : Int))) σ) fun a213 s214 =>
  zt_ck (0 ≤ (v5 + (1 : Int)) ∧ (v5 + (1 : Int)) < (X.1 : Int)) <| zt_bd (F_M_setRule (zt_x X (v5 + (1 : Int))) s214) fun a215 s216 =>
  zt_bd (F_M_thrown s216) fun a217 s218 =>
  zt_ck (zt_in a217 ∧ zt_in a213) <| if a217 = a213 then
    zt_ck (zt_in a213) <| if a213 = (0 : Int) then
      if (zt_lc (s218.2.1 184 (0 : Int)) (zt_l a215)) = (0 : Int) then
        F_L_law_2311 X r28 v5 s218
      else
        some ((0 : Int), s218)
    else
      F_L_law_2311 X r28 v5 s218
  else
    some ((0 : Int), s218)
def F_L_law_2367 (X : q_X)  (r28 : Int → zt_S → Option (Int × zt_S)) (v5 : Int) (σ : zt_S) : Option (Int × zt_S) :=
  F_L_law_2598 X r28 v5 σ
def F_L_law_2314 (X : q_X)  (r28 : Int → zt_S → Option (Int × zt_S)) (v5 : Int) (σ : zt_S) : Option (Int × zt_S) :=
  zt_ck (0 ≤ (v5 + (1 : Int)) ∧ (v5 + (1 : Int)) < (X.1 : Int)) <| zt_bd (F_L_setFade (zt_x X (v5 + (1 : Int))) σ) fun a219 s220 =>
  zt_ck (0 ≤ (v5 + (1 : Int)) ∧ (v5 + (1 : Int)) < (X.1 : Int)) <| zt_bd (F_M_setFade (zt_x X (v5 + (1 : Int))) s220) fun a221 s222 =>
  zt_bd (F_M_thrown s222) fun a223 s224 =>
  zt_ck (zt_in a223 ∧ zt_in a219) <| if a223 = a219 then
    zt_ck (zt_in a219) <| if a219 = (0 : Int) then
      if (zt_lc (s224.2.1 184 (0 : Int)) (zt_l a221)) = (0 : Int) then
        F_L_law_2367 X r28 v5 s224
      else
        some ((0 : Int), s224)
    else
      F_L_law_2367 X r28 v5 s224
  else
    some ((0 : Int), s224)
def F_L_law_2403 (X : q_X)  (r28 : Int → zt_S → Option (Int × zt_S)) (v5 : Int) (x0 : Int) (x2 : Int) (σ : zt_S) : Option (Int × zt_S) :=
  zt_bd (F_M_setRevive x0 σ) fun a227 s228 =>
  zt_ck (zt_in x2 ∧ zt_in a227) <| if x2 = a227 then
    F_L_law_2598 X r28 v5 s228
  else
    some ((0 : Int), s228)
def F_L_law_2385 (X : q_X)  (r28 : Int → zt_S → Option (Int × zt_S)) (v5 : Int) (x0 : Int) (σ : zt_S) : Option (Int × zt_S) :=
  zt_bd (F_C_setRevive x0 σ) fun a225 s226 =>
  zt_ck (0 ≤ (v5 + (1 : Int)) ∧ (v5 + (1 : Int)) < (X.1 : Int)) <| if (zt_x X (v5 + (1 : Int))) = (0 : Int) then
    F_L_law_2403 X r28 v5 (0 : Int) a225 s226
  else
    F_L_law_2403 X r28 v5 (1 : Int) a225 s226
def F_L_law_2370 (X : q_X)  (r28 : Int → zt_S → Option (Int × zt_S)) (v5 : Int) (σ : zt_S) : Option (Int × zt_S) :=
  zt_ck (0 ≤ (v5 + (1 : Int)) ∧ (v5 + (1 : Int)) < (X.1 : Int)) <| if (zt_x X (v5 + (1 : Int))) = (0 : Int) then
    F_L_law_2385 X r28 v5 (0 : Int) σ
  else
    F_L_law_2385 X r28 v5 (1 : Int) σ
def F_L_law_2464 (X : q_X)  (r28 : Int → zt_S → Option (Int × zt_S)) (v5 : Int) (σ : zt_S) : Option (Int × zt_S) :=
  F_L_law_2598 X r28 v5 σ
def F_L_law_2411 (X : q_X)  (r28 : Int → zt_S → Option (Int × zt_S)) (v5 : Int) (σ : zt_S) : Option (Int × zt_S) :=
  zt_ck (0 ≤ (v5 + (1 : Int)) ∧ (v5 + (1 : Int)) < (X.1 : Int)) <| zt_bd (F_L_format (zt_x X (v5 + (1 : Int))) σ) fun a229 s230 =>
  zt_ck (0 ≤ (v5 + (1 : Int)) ∧ (v5 + (1 : Int)) < (X.1 : Int)) <| zt_bd (F_M_format (zt_x X (v5 + (1 : Int))) s230) fun a231 s232 =>
  zt_bd (F_M_thrown s232) fun a233 s234 =>
  zt_ck (zt_in a233 ∧ zt_in a229) <| if a233 = a229 then
    zt_ck (zt_in a229) <| if a229 = (0 : Int) then
      if (zt_lc (s234.2.1 184 (0 : Int)) (zt_l a231)) = (0 : Int) then
        F_L_law_2464 X r28 v5 s234
      else
        some ((0 : Int), s234)
    else
      F_L_law_2464 X r28 v5 s234
  else
    some ((0 : Int), s234)
def F_L_law_2467 (X : q_X)  (r28 : Int → zt_S → Option (Int × zt_S)) (v5 : Int) (σ : zt_S) : Option (Int × zt_S) :=
  zt_ck (0 ≤ (v5 + (1 : Int)) ∧ (v5 + (1 : Int)) < (X.1 : Int)) <| zt_bd (F_C_formattedByte (zt_x X (v5 + (1 : Int))) σ) fun a235 s236 =>
  zt_ck (0 ≤ (v5 + (1 : Int)) ∧ (v5 + (1 : Int)) < (X.1 : Int)) <| zt_bd (F_M_formattedByte (zt_x X (v5 + (1 : Int))) s236) fun a237 s238 =>
  zt_ck (zt_in a235 ∧ zt_in a237) <| if a235 = a237 then
    F_L_law_2598 X r28 v5 s238
  else
    some ((0 : Int), s238)
def F_L_law_2492 (X : q_X)  (r28 : Int → zt_S → Option (Int × zt_S)) (v5 : Int) (σ : zt_S) : Option (Int × zt_S) :=
  zt_bd (F_C_undoCount σ) fun a239 s240 =>
  zt_bd (F_M_undoCount s240) fun a241 s242 =>
  zt_ck (zt_in a239 ∧ zt_in a241) <| if a239 = a241 then
    F_L_law_2598 X r28 v5 s242
  else
    some ((0 : Int), s242)
def F_L_law_2505 (X : q_X)  (r28 : Int → zt_S → Option (Int × zt_S)) (v5 : Int) (σ : zt_S) : Option (Int × zt_S) :=
  zt_bd (F_C_undo σ) fun a243 s244 =>
  zt_bd (F_M_undo s244) fun a245 s246 =>
  zt_ck (zt_in a243 ∧ zt_in a245) <| if a243 = a245 then
    F_L_law_2598 X r28 v5 s246
  else
    some ((0 : Int), s246)
def F_L_law_2518 (X : q_X)  (r28 : Int → zt_S → Option (Int × zt_S)) (v5 : Int) (σ : zt_S) : Option (Int × zt_S) :=
  zt_bd (F_C_saveSnapshot σ) fun _ s248 =>
  zt_bd (F_M_saveSnapshot s248) fun _ s250 =>
  F_L_law_2598 X r28 v5 s250
def F_L_law_2529 (X : q_X)  (r28 : Int → zt_S → Option (Int × zt_S)) (v5 : Int) (σ : zt_S) : Option (Int × zt_S) :=
  zt_bd (F_C_restoreSnapshot σ) fun a251 s252 =>
  zt_bd (F_M_restoreSnapshot s252) fun a253 s254 =>
  zt_ck (zt_in a251 ∧ zt_in a253) <| if a251 = a253 then
    F_L_law_2598 X r28 v5 s254
  else
    some ((0 : Int), s254)
def F_L_law_2595 (X : q_X)  (r28 : Int → zt_S → Option (Int × zt_S)) (v5 : Int) (σ : zt_S) : Option (Int × zt_S) :=
  F_L_law_2598 X r28 v5 σ
def F_L_law_2542 (X : q_X)  (r28 : Int → zt_S → Option (Int × zt_S)) (v5 : Int) (σ : zt_S) : Option (Int × zt_S) :=
  zt_ck (0 ≤ (v5 + (1 : Int)) ∧ (v5 + (1 : Int)) < (X.1 : Int)) <| zt_bd (F_L_query (zt_x X (v5 + (1 : Int))) σ) fun a255 s256 =>
  zt_ck (0 ≤ (v5 + (1 : Int)) ∧ (v5 + (1 : Int)) < (X.1 : Int)) <| zt_bd (F_M_query (zt_x X (v5 + (1 : Int))) s256) fun a257 s258 =>
  zt_bd (F_M_thrown s258) fun a259 s260 =>
  zt_ck (zt_in a259 ∧ zt_in a255) <| if a259 = a255 then
    zt_ck (zt_in a255) <| if a255 = (0 : Int) then
      if (zt_lc (s260.2.1 184 (0 : Int)) (zt_l a257)) = (0 : Int) then
        F_L_law_2595 X r28 v5 s260
      else
        some ((0 : Int), s260)
    else
      F_L_law_2595 X r28 v5 s260
  else
    some ((0 : Int), s260)
def F_L_law_28 (X : q_X)   : Nat → Int → zt_S → Option (Int × zt_S)
  | 0, _, _ => none
  | n + 1, v5, σ =>
  zt_ck (zt_in v5 ∧ zt_in ((X.1 : Int) - (6 : Int))) <| if ((X.1 : Int) - (6 : Int)) < v5 then
    some ((1 : Int), σ)
  else
    zt_ck (0 ≤ v5 ∧ v5 < (X.1 : Int)) <| if (zt_and (zt_x X v5) (63 : Int)) = (0 : Int) then
      F_L_law_252 X (F_L_law_28 X n) v5 σ
    else if (zt_and (zt_x X v5) (63 : Int)) = (1 : Int) then
      F_L_law_325 X (F_L_law_28 X n) v5 σ
    else if (zt_and (zt_x X v5) (63 : Int)) = (2 : Int) then
      F_L_law_381 X (F_L_law_28 X n) v5 σ
    else if (zt_and (zt_x X v5) (63 : Int)) = (3 : Int) then
      F_L_law_394 X (F_L_law_28 X n) v5 σ
    else if (zt_and (zt_x X v5) (63 : Int)) = (4 : Int) then
      F_L_law_450 X (F_L_law_28 X n) v5 σ
    else if (zt_and (zt_x X v5) (63 : Int)) = (5 : Int) then
      F_L_law_506 X (F_L_law_28 X n) v5 σ
    else if (zt_and (zt_x X v5) (63 : Int)) = (6 : Int) then
      F_L_law_562 X (F_L_law_28 X n) v5 σ
    else if (zt_and (zt_x X v5) (63 : Int)) = (7 : Int) then
      F_L_law_618 X (F_L_law_28 X n) v5 σ
    else if (zt_and (zt_x X v5) (63 : Int)) = (8 : Int) then
      F_L_law_674 X (F_L_law_28 X n) v5 σ
    else if (zt_and (zt_x X v5) (63 : Int)) = (9 : Int) then
      F_L_law_742 X (F_L_law_28 X n) v5 σ
    else if (zt_and (zt_x X v5) (63 : Int)) = (10 : Int) then
      F_L_law_810 X (F_L_law_28 X n) v5 σ
    else if (zt_and (zt_x X v5) (63 : Int)) = (11 : Int) then
      F_L_law_873 X (F_L_law_28 X n) v5 σ
    else if (zt_and (zt_x X v5) (63 : Int)) = (12 : Int) then
      F_L_law_886 X (F_L_law_28 X n) v5 σ
    else if (zt_and (zt_x X v5) (63 : Int)) = (13 : Int) then
      F_L_law_942 X (F_L_law_28 X n) v5 σ
    else if (zt_and (zt_x X v5) (63 : Int)) = (14 : Int) then
      F_L_law_955 X (F_L_law_28 X n) v5 σ
    else if (zt_and (zt_x X v5) (63 : Int)) = (15 : Int) then
      F_L_law_968 X (F_L_law_28 X n) v5 σ
    else if (zt_and (zt_x X v5) (63 : Int)) = (16 : Int) then
      F_L_law_1031 X (F_L_law_28 X n) v5 σ
    else if (zt_and (zt_x X v5) (63 : Int)) = (17 : Int) then
      F_L_law_1099 X (F_L_law_28 X n) v5 σ
    else if (zt_and (zt_x X v5) (63 : Int)) = (18 : Int) then
      F_L_law_1167 X (F_L_law_28 X n) v5 σ
    else if (zt_and (zt_x X v5) (63 : Int)) = (19 : Int) then
      F_L_law_1223 X (F_L_law_28 X n) v5 σ
    else if (zt_and (zt_x X v5) (63 : Int)) = (20 : Int) then
      F_L_law_1279 X (F_L_law_28 X n) v5 σ
    else if (zt_and (zt_x X v5) (63 : Int)) = (21 : Int) then
      F_L_law_1335 X (F_L_law_28 X n) v5 σ
    else if (zt_and (zt_x X v5) (63 : Int)) = (22 : Int) then
      F_L_law_1391 X (F_L_law_28 X n) v5 σ
    else if (zt_and (zt_x X v5) (63 : Int)) = (23 : Int) then
      F_L_law_1447 X (F_L_law_28 X n) v5 σ
    else if (zt_and (zt_x X v5) (63 : Int)) = (24 : Int) then
      F_L_law_1522 X (F_L_law_28 X n) v5 σ
    else if (zt_and (zt_x X v5) (63 : Int)) = (25 : Int) then
      F_L_law_1597 X (F_L_law_28 X n) v5 σ
    else if (zt_and (zt_x X v5) (63 : Int)) = (26 : Int) then
      F_L_law_1653 X (F_L_law_28 X n) v5 σ
    else if (zt_and (zt_x X v5) (63 : Int)) = (27 : Int) then
      F_L_law_1716 X (F_L_law_28 X n) v5 σ
    else if (zt_and (zt_x X v5) (63 : Int)) = (28 : Int) then
      F_L_law_1772 X (F_L_law_28 X n) v5 σ
    else if (zt_and (zt_x X v5) (63 : Int)) = (29 : Int) then
      F_L_law_1785 X (F_L_law_28 X n) v5 σ
    else if (zt_and (zt_x X v5) (63 : Int)) = (30 : Int) then
      F_L_law_1798 X (F_L_law_28 X n) v5 σ
    else if (zt_and (zt_x X v5) (63 : Int)) = (31 : Int) then
      F_L_law_1811 X (F_L_law_28 X n) v5 σ
    else if (zt_and (zt_x X v5) (63 : Int)) = (32 : Int) then
      F_L_law_1888 X (F_L_law_28 X n) v5 σ
    else if (zt_and (zt_x X v5) (63 : Int)) = (33 : Int) then
      F_L_law_1966 X (F_L_law_28 X n) v5 σ
    else if (zt_and (zt_x X v5) (63 : Int)) = (34 : Int) then
      F_L_law_2022 X (F_L_law_28 X n) v5 σ
    else if (zt_and (zt_x X v5) (63 : Int)) = (35 : Int) then
      F_L_law_2078 X (F_L_law_28 X n) v5 σ
    else if (zt_and (zt_x X v5) (63 : Int)) = (36 : Int) then
      F_L_law_2146 X (F_L_law_28 X n) v5 σ
    else if (zt_and (zt_x X v5) (63 : Int)) = (37 : Int) then
      F_L_law_2202 X (F_L_law_28 X n) v5 σ
    else if (zt_and (zt_x X v5) (63 : Int)) = (38 : Int) then
      F_L_law_2258 X (F_L_law_28 X n) v5 σ
    else if (zt_and (zt_x X v5) (63 : Int)) = (39 : Int) then
      F_L_law_2314 X (F_L_law_28 X n) v5 σ
    else if (zt_and (zt_x X v5) (63 : Int)) = (40 : Int) then
      F_L_law_2370 X (F_L_law_28 X n) v5 σ
    else if (zt_and (zt_x X v5) (63 : Int)) = (41 : Int) then
      F_L_law_2411 X (F_L_law_28 X n) v5 σ
    else if (zt_and (zt_x X v5) (63 : Int)) = (42 : Int) then
      F_L_law_2467 X (F_L_law_28 X n) v5 σ
    else if (zt_and (zt_x X v5) (63 : Int)) = (43 : Int) then
      F_L_law_2492 X (F_L_law_28 X n) v5 σ
    else if (zt_and (zt_x X v5) (63 : Int)) = (44 : Int) then
      F_L_law_2505 X (F_L_law_28 X n) v5 σ
    else if (zt_and (zt_x X v5) (63 : Int)) = (45 : Int) then
      F_L_law_2518 X (F_L_law_28 X n) v5 σ
    else if (zt_and (zt_x X v5) (63 : Int)) = (46 : Int) then
      F_L_law_2529 X (F_L_law_28 X n) v5 σ
    else if (zt_and (zt_x X v5) (63 : Int)) = (47 : Int) then
      F_L_law_2542 X (F_L_law_28 X n) v5 σ
    else 
    F_L_law_2598 X (F_L_law_28 X n) v5 σ
