/-! WHAT THE FUNCTIONS REST ON: answers, methods' rows, shape (by program) -/
abbrev zo_V (T : zt_T) (o : Unit × zt_S) : q_O × q_M := (.inl none, zt_M T o.2)
abbrev zo_I (T : zt_T) (o : Int × zt_S) : q_O × q_M := (.inl (some (.int (Int32.ofInt o.1))), zt_M T o.2)
abbrev zo_L (T : zt_T) (o : Int64 × zt_S) : q_O × q_M := (.inl (some (.long o.1)), zt_M T o.2)
abbrev zo_F (T : zt_T) (o : UInt32 × zt_S) : q_O × q_M := (.inl (some (.float o.1)), zt_M T o.2)
abbrev zo_D (T : zt_T) (o : UInt64 × zt_S) : q_O × q_M := (.inl (some (.double o.1)), zt_M T o.2)
abbrev zo_R (T : zt_T) (o : Nat × zt_S) : q_O × q_M := (.inl (some (.ref o.1)), zt_M T o.2)
abbrev zx_V (T : zt_T) (o : (Unit ⊕ Nat) × zt_S) : q_O × q_M := match o.1 with
  | .inl _ => (.inl none, zt_M T o.2)
  | .inr E => (.inr (zt_exn E), zt_M T o.2)
abbrev zx_I (T : zt_T) (o : (Int ⊕ Nat) × zt_S) : q_O × q_M := match o.1 with
  | .inl r => (.inl (some (.int (Int32.ofInt r))), zt_M T o.2)
  | .inr E => (.inr (zt_exn E), zt_M T o.2)
abbrev zx_F (T : zt_T) (o : (UInt32 ⊕ Nat) × zt_S) : q_O × q_M := match o.1 with
  | .inl r => (.inl (some (.float r)), zt_M T o.2)
  | .inr E => (.inr (zt_exn E), zt_M T o.2)
abbrev zx_D (T : zt_T) (o : (UInt64 ⊕ Nat) × zt_S) : q_O × q_M := match o.1 with
  | .inl r => (.inl (some (.double r)), zt_M T o.2)
  | .inr E => (.inr (zt_exn E), zt_M T o.2)
def zt_let {α β : Type} (e : α) (k : α → Option β) : Option β := k e
theorem zt_letE {α β : Type} {e : α} {k : α → Option β} {o : β} (h : zt_let e k = some o) : ∃ x, x = e ∧ k x = some o := ⟨e, rfl, h⟩
theorem zt_inT (x : Int32) : zt_in x.toInt := ⟨by have := Int32.le_toInt x; omega, by have := Int32.toInt_lt x; omega⟩
theorem zq_lt {a : Nat} (h : a < 353) : a < q_mt.length := by rw [q_mt_len]; exact h
def zt_su (t : Nat) : Nat := if t = 130 then 129 else 3
theorem zy_7 : (q_row 7).2.2 = (1, none, [], 1, 1, q_k7) := rfl
theorem zy_8 : (q_row 8).2.2 = (3, none, [], 1, 1, q_k8) := rfl
theorem zy_9 : (q_row 9).2.2 = (3, none, [], 1, 1, q_k9) := rfl
theorem zy_10 : (q_row 10).2.2 = (2, some (.object "FadingTrumps$Table"), [], 1, 1, q_k10) := rfl
theorem zy_12 : (q_row 12).2.2 = (5, none, [], 1, 2, q_k12) := rfl
theorem zy_13 : (q_row 13).2.2 = (4, none, [], 1, 2, q_k13) := rfl
theorem zy_14 : (q_row 14).2.2 = (2, some .int, [], 1, 2, q_k14) := rfl
theorem zy_29 : (q_row 29).2.2 = (2, none, [], 1, 4, q_k29) := rfl
theorem zy_30 : (q_row 30).2.2 = (1, some .int, [], 1, 4, q_k30) := rfl
theorem zy_31 : (q_row 31).2.2 = (1, some .int, [], 1, 4, q_k31) := rfl
theorem zy_32 : (q_row 32).2.2 = (1, some .int, [], 1, 4, q_k32) := rfl
theorem zy_33 : (q_row 33).2.2 = (2, some .int, [], 1, 4, q_k33) := rfl
theorem zy_34 : (q_row 34).2.2 = (2, some .int, [], 1, 4, q_k34) := rfl
theorem zy_35 : (q_row 35).2.2 = (2, some .int, [], 1, 4, q_k35) := rfl
theorem zy_36 : (q_row 36).2.2 = (2, some .long, [], 1, 4, q_k36) := rfl
theorem zy_37 : (q_row 37).2.2 = (2, some .int, [], 1, 4, q_k37) := rfl
theorem zy_50 : (q_row 50).2.2 = (1, none, [], 1, 6, q_k50) := rfl
theorem zy_51 : (q_row 51).2.2 = (2, none, [], 1, 6, q_k51) := rfl
theorem zy_52 : (q_row 52).2.2 = (2, none, [], 1, 6, q_k52) := rfl
theorem zy_53 : (q_row 53).2.2 = (1, none, [], 1, 6, q_k53) := rfl
theorem zy_54 : (q_row 54).2.2 = (1, none, [], 1, 6, q_k54) := rfl
theorem zy_55 : (q_row 55).2.2 = (4, none, [], 1, 6, q_k55) := rfl
theorem zy_56 : (q_row 56).2.2 = (5, none, [], 1, 6, q_k56) := rfl
theorem zy_57 : (q_row 57).2.2 = (2, some .int, [], 1, 6, q_k57) := rfl
theorem zy_58 : (q_row 58).2.2 = (2, some .boolean, [], 1, 6, q_k58) := rfl
theorem zy_59 : (q_row 59).2.2 = (3, none, [], 1, 6, q_k59) := rfl
theorem zy_60 : (q_row 60).2.2 = (2, some .long, [], 1, 6, q_k60) := rfl
theorem zy_61 : (q_row 61).2.2 = (4, none, [], 1, 6, q_k61) := rfl
theorem zy_62 : (q_row 62).2.2 = (4, some .long, [], 1, 6, q_k62) := rfl
theorem zy_63 : (q_row 63).2.2 = (3, some .int, [], 1, 6, q_k63) := rfl
theorem zy_64 : (q_row 64).2.2 = (1, some .boolean, [], 1, 6, q_k64) := rfl
theorem zy_65 : (q_row 65).2.2 = (1, some .long, [], 1, 6, q_k65) := rfl
theorem zy_66 : (q_row 66).2.2 = (3, none, [], 1, 6, q_k66) := rfl
theorem zy_67 : (q_row 67).2.2 = (3, none, [], 1, 6, q_k67) := rfl
theorem zy_68 : (q_row 68).2.2 = (2, none, [], 1, 6, q_k68) := rfl
theorem zy_69 : (q_row 69).2.2 = (2, none, [], 1, 6, q_k69) := rfl
theorem zy_70 : (q_row 70).2.2 = (4, some .int, [], 1, 6, q_k70) := rfl
theorem zy_74 : (q_row 74).2.2 = (1, some .int, [], 1, 6, q_k74) := rfl
theorem zy_75 : (q_row 75).2.2 = (7, some .int, [], 1, 6, q_k75) := rfl
theorem zy_76 : (q_row 76).2.2 = (6, some .int, [], 1, 6, q_k76) := rfl
theorem zy_77 : (q_row 77).2.2 = (3, some .boolean, [], 1, 6, q_k77) := rfl
theorem zy_79 : (q_row 79).2.2 = (3, some .int, [], 1, 7, q_k79) := rfl
theorem zy_80 : (q_row 80).2.2 = (1, none, [], 1, 7, q_k80) := rfl
theorem zy_81 : (q_row 81).2.2 = (1, none, [], 1, 7, q_k81) := rfl
theorem zy_82 : (q_row 82).2.2 = (1, none, [], 1, 7, q_k82) := rfl
theorem zy_83 : (q_row 83).2.2 = (2, none, [], 1, 7, q_k83) := rfl
theorem zy_84 : (q_row 84).2.2 = (4, none, [], 1, 7, q_k84) := rfl
theorem zy_85 : (q_row 85).2.2 = (3, none, [], 1, 7, q_k85) := rfl
theorem zy_86 : (q_row 86).2.2 = (3, none, [], 1, 7, q_k86) := rfl
theorem zy_87 : (q_row 87).2.2 = (1, none, [], 1, 7, q_k87) := rfl
theorem zy_89 : (q_row 89).2.2 = (2, none, [], 1, 8, q_k89) := rfl
theorem zy_90 : (q_row 90).2.2 = (1, none, [], 1, 8, q_k90) := rfl
theorem zy_91 : (q_row 91).2.2 = (3, some .int, [], 1, 8, q_k91) := rfl
theorem zy_92 : (q_row 92).2.2 = (2, some .int, [], 1, 8, q_k92) := rfl
theorem zy_93 : (q_row 93).2.2 = (1, some .boolean, [], 1, 8, q_k93) := rfl
theorem zy_94 : (q_row 94).2.2 = (2, none, [], 1, 8, q_k94) := rfl
theorem zy_95 : (q_row 95).2.2 = (1, some .boolean, [], 1, 8, q_k95) := rfl
theorem zy_96 : (q_row 96).2.2 = (1, some .boolean, [], 1, 8, q_k96) := rfl
theorem zy_97 : (q_row 97).2.2 = (2, some .boolean, [], 1, 8, q_k97) := rfl
theorem zy_98 : (q_row 98).2.2 = (3, some .boolean, [], 1, 8, q_k98) := rfl
theorem zy_99 : (q_row 99).2.2 = (2, some .boolean, [], 1, 8, q_k99) := rfl
theorem zy_100 : (q_row 100).2.2 = (2, some .boolean, [], 1, 8, q_k100) := rfl
theorem zy_101 : (q_row 101).2.2 = (2, none, [], 1, 8, q_k101) := rfl
theorem zy_102 : (q_row 102).2.2 = (2, none, [], 1, 8, q_k102) := rfl
theorem zy_103 : (q_row 103).2.2 = (3, some .int, [], 1, 8, q_k103) := rfl
theorem zy_104 : (q_row 104).2.2 = (4, some .int, [], 1, 8, q_k104) := rfl
theorem zy_106 : (q_row 106).2.2 = (2, none, [], 1, 9, q_k106) := rfl
theorem zy_107 : (q_row 107).2.2 = (2, none, [], 1, 9, q_k107) := rfl
theorem zy_108 : (q_row 108).2.2 = (4, some .int, [], 1, 9, q_k108) := rfl
theorem zy_110 : (q_row 110).2.2 = (3, some .boolean, [], 1, 9, q_k110) := rfl
theorem zy_111 : (q_row 111).2.2 = (4, none, [], 1, 9, q_k111) := rfl
theorem zy_112 : (q_row 112).2.2 = (4, none, [], 1, 9, q_k112) := rfl
theorem zy_113 : (q_row 113).2.2 = (4, none, [], 1, 9, q_k113) := rfl
theorem zy_114 : (q_row 114).2.2 = (9, some .long, [], 1, 9, q_k114) := rfl
theorem zy_115 : (q_row 115).2.2 = (5, some .long, [], 1, 9, q_k115) := rfl
theorem zy_117 : (q_row 117).2.2 = (6, some .int, [], 1, 10, q_k117) := rfl
theorem zy_118 : (q_row 118).2.2 = (3, none, [], 1, 10, q_k118) := rfl
theorem zy_119 : (q_row 119).2.2 = (3, some .int, [], 1, 10, q_k119) := rfl
theorem zy_120 : (q_row 120).2.2 = (1, some .int, [], 1, 10, q_k120) := rfl
theorem zy_122 : (q_row 122).2.2 = (2, some .int, [], 1, 10, q_k122) := rfl
theorem zy_123 : (q_row 123).2.2 = (2, some .int, [], 1, 10, q_k123) := rfl
theorem zy_124 : (q_row 124).2.2 = (2, some .int, [], 1, 10, q_k124) := rfl
theorem zy_125 : (q_row 125).2.2 = (2, some .int, [], 1, 10, q_k125) := rfl
theorem zy_126 : (q_row 126).2.2 = (2, some .int, [], 1, 10, q_k126) := rfl
theorem zy_127 : (q_row 127).2.2 = (7, some .int, [], 1, 10, q_k127) := rfl
theorem zy_128 : (q_row 128).2.2 = (3, some .int, [], 1, 10, q_k128) := rfl
theorem zy_129 : (q_row 129).2.2 = (2, some .boolean, [], 1, 10, q_k129) := rfl
theorem zy_130 : (q_row 130).2.2 = (1, some .int, [], 1, 10, q_k130) := rfl
theorem zy_131 : (q_row 131).2.2 = (2, some .int, [], 1, 10, q_k131) := rfl
theorem zy_132 : (q_row 132).2.2 = (1, some .int, [], 1, 10, q_k132) := rfl
theorem zy_133 : (q_row 133).2.2 = (1, some .int, [], 1, 10, q_k133) := rfl
theorem zy_134 : (q_row 134).2.2 = (2, some .boolean, [], 1, 10, q_k134) := rfl
theorem zy_135 : (q_row 135).2.2 = (3, some .int, [], 1, 10, q_k135) := rfl
theorem zy_136 : (q_row 136).2.2 = (3, some .int, [], 1, 10, q_k136) := rfl
theorem zy_137 : (q_row 137).2.2 = (2, some .int, [], 1, 10, q_k137) := rfl
theorem zy_151 : (q_row 151).2.2 = (2, some .float, [], 1, 10, q_k151) := rfl
theorem zy_152 : (q_row 152).2.2 = (2, some .int, [], 1, 10, q_k152) := rfl
theorem zy_153 : (q_row 153).2.2 = (3, some .int, [], 1, 10, q_k153) := rfl
theorem zy_154 : (q_row 154).2.2 = (4, some .int, [], 1, 10, q_k154) := rfl
theorem zy_155 : (q_row 155).2.2 = (2, some .int, [], 1, 10, q_k155) := rfl
theorem zy_156 : (q_row 156).2.2 = (3, some .int, [], 1, 10, q_k156) := rfl
theorem zy_157 : (q_row 157).2.2 = (3, some .int, [], 1, 10, q_k157) := rfl
theorem zy_158 : (q_row 158).2.2 = (3, some .int, [], 1, 10, q_k158) := rfl
theorem zy_159 : (q_row 159).2.2 = (3, some .int, [], 1, 10, q_k159) := rfl
theorem zy_163 : (q_row 163).2.2 = (1, some .int, [], 1, 10, q_k163) := rfl
theorem zy_166 : (q_row 166).2.2 = (2, none, [], 1, 10, q_k166) := rfl
theorem zy_167 : (q_row 167).2.2 = (2, none, [], 1, 10, q_k167) := rfl
theorem zy_168 : (q_row 168).2.2 = (2, none, [], 1, 10, q_k168) := rfl
theorem zy_169 : (q_row 169).2.2 = (4, none, [], 1, 10, q_k169) := rfl
theorem zy_309 : (q_row 309).2.2 = (2, some .int, [], 0, 12, q_k309) := rfl
theorem zy_310 : (q_row 310).2.2 = (3, none, [], 0, 12, q_k310) := rfl
theorem zy_311 : (q_row 311).2.2 = (3, none, [], 0, 12, q_k311) := rfl
theorem zy_312 : (q_row 312).2.2 = (2, none, [], 0, 12, q_k312) := rfl
theorem zy_313 : (q_row 313).2.2 = (2, none, [], 0, 12, q_k313) := rfl
theorem zy_314 : (q_row 314).2.2 = (3, some .boolean, [], 0, 12, q_k314) := rfl
theorem zy_315 : (q_row 315).2.2 = (3, some .long, [], 0, 12, q_k315) := rfl
theorem zy_316 : (q_row 316).2.2 = (3, some .long, [], 0, 12, q_k316) := rfl
theorem zy_352 : (q_row 352).2.2 = (2, some .int, [], 0, 14, q_k352) := rfl
theorem zk_0_0 : zt_fk 0 10 0 = some (1 + 2) := by decide +kernel
theorem zk_0_1 : zt_fk 0 10 1 = some (0) := by decide +kernel
theorem zk_0_2 : zt_fk 0 10 2 = some (2 + 2) := by decide +kernel
theorem zk_0_3 : zt_fk 0 10 3 = some (3 + 2) := by decide +kernel
theorem zk_0_4 : zt_fk 0 10 4 = some (4 + 2) := by decide +kernel
theorem zk_0_5 : zt_fk 0 10 5 = some (6 + 2) := by decide +kernel
theorem zk_0_6 : zt_fk 0 10 6 = some (16 + 2) := by decide +kernel
theorem zk_0_7 : zt_fk 0 10 7 = some (118 + 2) := by decide +kernel
theorem zk_0_8 : zt_fk 0 10 8 = some (0) := by decide +kernel
theorem zk_0_9 : zt_fk 0 10 9 = some (128 + 2) := by decide +kernel
theorem zk_0_10 : zt_fk 0 10 10 = some (140 + 2) := by decide +kernel
theorem zk_0_11 : zt_fk 0 10 11 = some (144 + 2) := by decide +kernel
theorem zk_0_12 : zt_fk 0 10 12 = some (161 + 2) := by decide +kernel
theorem zk_2_0 : zt_fk 2 8 0 = some (1 + 2) := by decide +kernel
theorem zk_2_1 : zt_fk 2 8 1 = some (0) := by decide +kernel
theorem zk_2_2 : zt_fk 2 8 2 = some (0) := by decide +kernel
theorem zk_2_3 : zt_fk 2 8 3 = some (0) := by decide +kernel
theorem zk_2_4 : zt_fk 2 8 4 = some (0) := by decide +kernel
theorem zk_2_5 : zt_fk 2 8 5 = some (0) := by decide +kernel
theorem zk_2_6 : zt_fk 2 8 6 = some (0) := by decide +kernel
theorem zk_2_7 : zt_fk 2 8 7 = some (0) := by decide +kernel
theorem zk_3_0 : zt_fk 3 4 0 = some (0) := by decide +kernel
theorem zk_3_1 : zt_fk 3 4 1 = some (0) := by decide +kernel
theorem zk_3_2 : zt_fk 3 4 2 = some (0) := by decide +kernel
theorem zk_3_3 : zt_fk 3 4 3 = some (0) := by decide +kernel
theorem zk_4_0 : zt_fk 4 2 0 = some (5 + 2) := by decide +kernel
theorem zk_6_1 : zt_fk 6 6 1 = some (7 + 2) := by decide +kernel
theorem zk_6_3 : zt_fk 6 6 3 = some (9 + 2) := by decide +kernel
theorem zk_6_4 : zt_fk 6 6 4 = some (10 + 2) := by decide +kernel
theorem zk_6_6 : zt_fk 6 6 6 = some (12 + 2) := by decide +kernel
theorem zk_6_7 : zt_fk 6 6 7 = some (13 + 2) := by decide +kernel
theorem zk_6_8 : zt_fk 6 6 8 = some (14 + 2) := by decide +kernel
theorem zk_6_9 : zt_fk 6 6 9 = some (15 + 2) := by decide +kernel
theorem zk_6_10 : zt_fk 6 6 10 = some (1) := by decide +kernel
theorem zk_6_11 : zt_fk 6 6 11 = some (0) := by decide +kernel
theorem zk_6_12 : zt_fk 6 6 12 = some (0) := by decide +kernel
theorem zk_6_13 : zt_fk 6 6 13 = some (0) := by decide +kernel
theorem zk_6_14 : zt_fk 6 6 14 = some (0) := by decide +kernel
theorem zk_6_15 : zt_fk 6 6 15 = some (0) := by decide +kernel
theorem zk_6_16 : zt_fk 6 6 16 = some (0) := by decide +kernel
theorem zk_6_17 : zt_fk 6 6 17 = some (0) := by decide +kernel
theorem zk_6_18 : zt_fk 6 6 18 = some (0) := by decide +kernel
theorem zk_7_0 : zt_fk 7 9 0 = some (0) := by decide +kernel
theorem zk_7_1 : zt_fk 7 9 1 = some (0) := by decide +kernel
theorem zk_7_2 : zt_fk 7 9 2 = some (0) := by decide +kernel
theorem zk_7_3 : zt_fk 7 9 3 = some (0) := by decide +kernel
theorem zk_7_6 : zt_fk 7 9 6 = some (0) := by decide +kernel
theorem zk_7_7 : zt_fk 7 9 7 = some (0) := by decide +kernel
theorem zk_7_8 : zt_fk 7 9 8 = some (0) := by decide +kernel
theorem zk_16_0 : zt_fk 16 1 0 = some (17 + 2) := by decide +kernel
theorem zk_16_1 : zt_fk 16 1 1 = some (0) := by decide +kernel
theorem zk_16_2 : zt_fk 16 1 2 = some (0) := by decide +kernel
theorem zk_128_0 : zt_fk 128 7 0 = some (129 + 2) := by decide +kernel
theorem zk_128_1 : zt_fk 128 7 1 = some (130 + 2) := by decide +kernel
theorem zk_128_2 : zt_fk 128 7 2 = some (2 + 2) := by decide +kernel
theorem zk_128_3 : zt_fk 128 7 3 = some (4 + 2) := by decide +kernel
theorem zk_128_4 : zt_fk 128 7 4 = some (0) := by decide +kernel
theorem zk_129_0 : zt_fk 129 4 0 = some (0) := by decide +kernel
theorem zk_129_1 : zt_fk 129 4 1 = some (0) := by decide +kernel
theorem zk_129_2 : zt_fk 129 4 2 = some (0) := by decide +kernel
theorem zk_129_3 : zt_fk 129 4 3 = some (0) := by decide +kernel
theorem zk_130_3 : zt_fk 130 6 3 = some (133 + 2) := by decide +kernel
theorem zk_130_11 : zt_fk 130 6 11 = some (0) := by decide +kernel
theorem zk_130_12 : zt_fk 130 6 12 = some (0) := by decide +kernel
theorem zk_130_13 : zt_fk 130 6 13 = some (0) := by decide +kernel
theorem zk_130_14 : zt_fk 130 6 14 = some (0) := by decide +kernel
theorem zk_130_15 : zt_fk 130 6 15 = some (0) := by decide +kernel
theorem zk_140_0 : zt_fk 140 3 0 = some (2 + 2) := by decide +kernel
theorem zk_140_1 : zt_fk 140 3 1 = some (141 + 2) := by decide +kernel
theorem zk_140_2 : zt_fk 140 3 2 = some (142 + 2) := by decide +kernel
theorem zk_140_3 : zt_fk 140 3 3 = some (143 + 2) := by decide +kernel
theorem zk_140_4 : zt_fk 140 3 4 = some (0) := by decide +kernel
theorem zk_140_5 : zt_fk 140 3 5 = some (0) := by decide +kernel
theorem zk_144_0 : zt_fk 144 5 0 = some (6 + 2) := by decide +kernel
theorem zk_144_1 : zt_fk 144 5 1 = some (3 + 2) := by decide +kernel
theorem zk_144_2 : zt_fk 144 5 2 = some (145 + 2) := by decide +kernel
theorem zk_144_3 : zt_fk 144 5 3 = some (146 + 2) := by decide +kernel
theorem zk_144_4 : zt_fk 144 5 4 = some (147 + 2) := by decide +kernel
theorem zk_144_5 : zt_fk 144 5 5 = some (1) := by decide +kernel
theorem zk_144_6 : zt_fk 144 5 6 = some (0) := by decide +kernel
theorem zk_144_7 : zt_fk 144 5 7 = some (0) := by decide +kernel
theorem zk_144_8 : zt_fk 144 5 8 = some (0) := by decide +kernel
theorem zk_161_0 : zt_fk 161 0 0 = some (162 + 2) := by decide +kernel
theorem zk_161_1 : zt_fk 161 0 1 = some (0) := by decide +kernel
theorem zk_K_0 {t : Nat} (h : t ∈ zt_tris) : zt_fk t 9 0 = some 0 := (show ∀ t ∈ zt_tris, zt_fk t 9 0 = some 0 by decide +kernel) t h
theorem zk_K_1 {t : Nat} (h : t ∈ zt_tris) : zt_fk t 9 1 = some 0 := (show ∀ t ∈ zt_tris, zt_fk t 9 1 = some 0 by decide +kernel) t h
theorem zk_K_2 {t : Nat} (h : t ∈ zt_tris) : zt_fk t 9 2 = some 0 := (show ∀ t ∈ zt_tris, zt_fk t 9 2 = some 0 by decide +kernel) t h
theorem zk_K_3 {t : Nat} (h : t ∈ zt_tris) : zt_fk t 9 3 = some 0 := (show ∀ t ∈ zt_tris, zt_fk t 9 3 = some 0 by decide +kernel) t h
theorem zk_K_4 {t : Nat} (h : t ∈ zt_tris) : zt_fk t 9 4 = some 0 := (show ∀ t ∈ zt_tris, zt_fk t 9 4 = some 0 by decide +kernel) t h
theorem zk_K_5 {t : Nat} (h : t ∈ zt_tris) : zt_fk t 9 5 = some 0 := (show ∀ t ∈ zt_tris, zt_fk t 9 5 = some 0 by decide +kernel) t h
theorem zk_K_6 {t : Nat} (h : t ∈ zt_tris) : zt_fk t 9 6 = some 0 := (show ∀ t ∈ zt_tris, zt_fk t 9 6 = some 0 by decide +kernel) t h
theorem zk_K_7 {t : Nat} (h : t ∈ zt_tris) : zt_fk t 9 7 = some 0 := (show ∀ t ∈ zt_tris, zt_fk t 9 7 = some 0 by decide +kernel) t h
theorem zk_K_8 {t : Nat} (h : t ∈ zt_tris) : zt_fk t 9 8 = some 0 := (show ∀ t ∈ zt_tris, zt_fk t 9 8 = some 0 by decide +kernel) t h
theorem zk_S_0 {t : Nat} (h : t ∈ zt_sets) : zt_fk t 4 0 = some 0 := (show ∀ t ∈ zt_sets, zt_fk t 4 0 = some 0 by decide +kernel) t h
theorem zk_S_1 {t : Nat} (h : t ∈ zt_sets) : zt_fk t 4 1 = some 0 := (show ∀ t ∈ zt_sets, zt_fk t 4 1 = some 0 by decide +kernel) t h
theorem zk_S_2 {t : Nat} (h : t ∈ zt_sets) : zt_fk t 4 2 = some 0 := (show ∀ t ∈ zt_sets, zt_fk t 4 2 = some 0 by decide +kernel) t h
theorem zk_S_3 {t : Nat} (h : t ∈ zt_sets) : zt_fk t 4 3 = some 0 := (show ∀ t ∈ zt_sets, zt_fk t 4 3 = some 0 by decide +kernel) t h
theorem zk_T_0 {t : Nat} (h : t ∈ zt_tabs) : zt_fk t 6 0 = some (zt_su t + 2) := (show ∀ t ∈ zt_tabs, zt_fk t 6 0 = some (zt_su t + 2) by decide +kernel) t h
theorem zk_T_1 {t : Nat} (h : t ∈ zt_tabs) : zt_fk t 6 1 = some (t + 1 + 2) := (show ∀ t ∈ zt_tabs, zt_fk t 6 1 = some (t + 1 + 2) by decide +kernel) t h
theorem zk_T_2 {t : Nat} (h : t ∈ zt_tabs) : zt_fk t 6 2 = some (t + 2 + 2) := (show ∀ t ∈ zt_tabs, zt_fk t 6 2 = some (t + 2 + 2) by decide +kernel) t h
theorem zk_T_3 {t : Nat} (h : t ∈ zt_tabs) : zt_fk t 6 3 = some (t + 3 + 2) := (show ∀ t ∈ zt_tabs, zt_fk t 6 3 = some (t + 3 + 2) by decide +kernel) t h
theorem zk_T_4 {t : Nat} (h : t ∈ zt_tabs) : zt_fk t 6 4 = some (t + 4 + 2) := (show ∀ t ∈ zt_tabs, zt_fk t 6 4 = some (t + 4 + 2) by decide +kernel) t h
theorem zk_T_5 {t : Nat} (h : t ∈ zt_tabs) : zt_fk t 6 5 = some (t + 5 + 2) := (show ∀ t ∈ zt_tabs, zt_fk t 6 5 = some (t + 5 + 2) by decide +kernel) t h
theorem zk_T_6 {t : Nat} (h : t ∈ zt_tabs) : zt_fk t 6 6 = some (t + 6 + 2) := (show ∀ t ∈ zt_tabs, zt_fk t 6 6 = some (t + 6 + 2) by decide +kernel) t h
theorem zk_T_7 {t : Nat} (h : t ∈ zt_tabs) : zt_fk t 6 7 = some (t + 7 + 2) := (show ∀ t ∈ zt_tabs, zt_fk t 6 7 = some (t + 7 + 2) by decide +kernel) t h
theorem zk_T_8 {t : Nat} (h : t ∈ zt_tabs) : zt_fk t 6 8 = some (t + 8 + 2) := (show ∀ t ∈ zt_tabs, zt_fk t 6 8 = some (t + 8 + 2) by decide +kernel) t h
theorem zk_T_9 {t : Nat} (h : t ∈ zt_tabs) : zt_fk t 6 9 = some (t + 9 + 2) := (show ∀ t ∈ zt_tabs, zt_fk t 6 9 = some (t + 9 + 2) by decide +kernel) t h
theorem zk_T_10 {t : Nat} (h : t ∈ zt_tabs) : zt_fk t 6 10 = some 1 := (show ∀ t ∈ zt_tabs, zt_fk t 6 10 = some 1 by decide +kernel) t h
theorem zk_T_11 {t : Nat} (h : t ∈ zt_tabs) : zt_fk t 6 11 = some 0 := (show ∀ t ∈ zt_tabs, zt_fk t 6 11 = some 0 by decide +kernel) t h
theorem zk_T_12 {t : Nat} (h : t ∈ zt_tabs) : zt_fk t 6 12 = some 0 := (show ∀ t ∈ zt_tabs, zt_fk t 6 12 = some 0 by decide +kernel) t h
theorem zk_T_13 {t : Nat} (h : t ∈ zt_tabs) : zt_fk t 6 13 = some 0 := (show ∀ t ∈ zt_tabs, zt_fk t 6 13 = some 0 by decide +kernel) t h
theorem zk_T_14 {t : Nat} (h : t ∈ zt_tabs) : zt_fk t 6 14 = some 0 := (show ∀ t ∈ zt_tabs, zt_fk t 6 14 = some 0 by decide +kernel) t h
theorem zk_T_15 {t : Nat} (h : t ∈ zt_tabs) : zt_fk t 6 15 = some 0 := (show ∀ t ∈ zt_tabs, zt_fk t 6 15 = some 0 by decide +kernel) t h
theorem zk_T_16 {t : Nat} (h : t ∈ zt_tabs) : zt_fk t 6 16 = some 0 := (show ∀ t ∈ zt_tabs, zt_fk t 6 16 = some 0 by decide +kernel) t h
theorem zk_T_17 {t : Nat} (h : t ∈ zt_tabs) : zt_fk t 6 17 = some 0 := (show ∀ t ∈ zt_tabs, zt_fk t 6 17 = some 0 by decide +kernel) t h
theorem zk_T_18 {t : Nat} (h : t ∈ zt_tabs) : zt_fk t 6 18 = some 0 := (show ∀ t ∈ zt_tabs, zt_fk t 6 18 = some 0 by decide +kernel) t h
theorem za_1 : zt_sh[1]? = some (.inl (2, 500)) := by decide +kernel
theorem za_5 : zt_sh[5]? = some (.inl (0, 52)) := by decide +kernel
theorem za_9 : zt_sh[9]? = some (.inl (0, 4)) := by decide +kernel
theorem za_10 : zt_sh[10]? = some (.inl (0, 4)) := by decide +kernel
theorem za_12 : zt_sh[12]? = some (.inl (0, 4)) := by decide +kernel
theorem za_13 : zt_sh[13]? = some (.inl (0, 52)) := by decide +kernel
theorem za_14 : zt_sh[14]? = some (.inl (0, 52)) := by decide +kernel
theorem za_15 : zt_sh[15]? = some (.inl (0, 78)) := by decide +kernel
theorem za_17 : zt_sh[17]? = some (.inl (5, 10)) := by decide +kernel
theorem za_133 : zt_sh[133]? = some (.inl (0, 4)) := by decide +kernel
theorem za_141 : zt_sh[141]? = some (.inl (0, 200)) := by decide +kernel
theorem za_142 : zt_sh[142]? = some (.inl (0, 200)) := by decide +kernel
theorem za_143 : zt_sh[143]? = some (.inl (0, 200)) := by decide +kernel
theorem za_145 : zt_sh[145]? = some (.inl (6, 13)) := by decide +kernel
theorem za_146 : zt_sh[146]? = some (.inl (0, 12)) := by decide +kernel
theorem za_147 : zt_sh[147]? = some (.inl (1, 16384)) := by decide +kernel
theorem za_162 : zt_sh[162]? = some (.inl (2, 51)) := by decide +kernel
theorem za_T2 {t : Nat} (h : t ∈ zt_tabs) : zt_sh[t + 2]? = some (.inl (1, 4)) := (show ∀ t ∈ zt_tabs, zt_sh[t + 2]? = some (.inl (1, 4)) by decide +kernel) t h
theorem za_T3 {t : Nat} (h : t ∈ zt_tabs) : zt_sh[t + 3]? = some (.inl (0, 4)) := (show ∀ t ∈ zt_tabs, zt_sh[t + 3]? = some (.inl (0, 4)) by decide +kernel) t h
theorem za_T4 {t : Nat} (h : t ∈ zt_tabs) : zt_sh[t + 4]? = some (.inl (0, 4)) := (show ∀ t ∈ zt_tabs, zt_sh[t + 4]? = some (.inl (0, 4)) by decide +kernel) t h
theorem za_T5 {t : Nat} (h : t ∈ zt_tabs) : zt_sh[t + 5]? = some (.inl (0, 4)) := (show ∀ t ∈ zt_tabs, zt_sh[t + 5]? = some (.inl (0, 4)) by decide +kernel) t h
theorem za_T6 {t : Nat} (h : t ∈ zt_tabs) : zt_sh[t + 6]? = some (.inl (0, 4)) := (show ∀ t ∈ zt_tabs, zt_sh[t + 6]? = some (.inl (0, 4)) by decide +kernel) t h
theorem za_T7 {t : Nat} (h : t ∈ zt_tabs) : zt_sh[t + 7]? = some (.inl (0, 52)) := (show ∀ t ∈ zt_tabs, zt_sh[t + 7]? = some (.inl (0, 52)) by decide +kernel) t h
theorem za_T8 {t : Nat} (h : t ∈ zt_tabs) : zt_sh[t + 8]? = some (.inl (0, 52)) := (show ∀ t ∈ zt_tabs, zt_sh[t + 8]? = some (.inl (0, 52)) by decide +kernel) t h
theorem za_T9 {t : Nat} (h : t ∈ zt_tabs) : zt_sh[t + 9]? = some (.inl (0, 78)) := (show ∀ t ∈ zt_tabs, zt_sh[t + 9]? = some (.inl (0, 78)) by decide +kernel) t h
theorem zc_0 : zt_cn 0 = some 10 := by decide +kernel
theorem zc_2 : zt_cn 2 = some 8 := by decide +kernel
theorem zc_3 : zt_cn 3 = some 4 := by decide +kernel
theorem zc_4 : zt_cn 4 = some 2 := by decide +kernel
theorem zc_6 : zt_cn 6 = some 6 := by decide +kernel
theorem zc_7 : zt_cn 7 = some 9 := by decide +kernel
theorem zc_16 : zt_cn 16 = some 1 := by decide +kernel
theorem zc_118 : zt_cn 118 = some 6 := by decide +kernel
theorem zc_128 : zt_cn 128 = some 7 := by decide +kernel
theorem zc_129 : zt_cn 129 = some 4 := by decide +kernel
theorem zc_130 : zt_cn 130 = some 6 := by decide +kernel
theorem zc_140 : zt_cn 140 = some 3 := by decide +kernel
theorem zc_144 : zt_cn 144 = some 5 := by decide +kernel
theorem zc_161 : zt_cn 161 = some 0 := by decide +kernel
theorem zc_T {t : Nat} (h : t ∈ zt_tabs) : zt_cn t = some 6 := (show ∀ t ∈ zt_tabs, zt_cn t = some 6 by decide +kernel) t h
theorem zc_K {t : Nat} (h : t ∈ zt_tris) : zt_cn t = some 9 := (show ∀ t ∈ zt_tris, zt_cn t = some 9 by decide +kernel) t h
theorem zc_S {t : Nat} (h : t ∈ zt_sets) : zt_cn t = some 4 := (show ∀ t ∈ zt_sets, zt_cn t = some 4 by decide +kernel) t h
theorem zm_T0 {t : Nat} (h : t ∈ zt_tabs) : zt_su t ∈ zt_sets := (show ∀ t ∈ zt_tabs, zt_su t ∈ zt_sets by decide +kernel) t h
theorem zm_T1 {t : Nat} (h : t ∈ zt_tabs) : t + 1 ∈ zt_tris := (show ∀ t ∈ zt_tabs, t + 1 ∈ zt_tris by decide +kernel) t h
theorem zm_145 {j : Int} (h : 0 ≤ j ∧ j < ((13 : Nat) : Int)) : 148 + j.toNat ∈ zt_tris := (show ∀ k < 13, 148 + k ∈ zt_tris by decide +kernel) j.toNat (by omega)
theorem zm_17 {j : Int} (h : 0 ≤ j ∧ j < ((10 : Nat) : Int)) : 18 + 10 * j.toNat ∈ zt_tabs := (show ∀ k < 10, 18 + 10 * k ∈ zt_tabs by decide +kernel) j.toNat (by omega)
theorem zg_145' : ∀ k < 13, zt_g 145 k = some (148 + k) := bt_zg145
theorem zg_17' : ∀ k < 10, zt_g 17 k = some (18 + 10 * k) := bt_zg17
theorem zg_145 {j : Int} (h : 0 ≤ j ∧ j < ((13 : Nat) : Int)) : zt_g 145 j.toNat = some (148 + j.toNat) := zg_145' j.toNat (by omega)
theorem zg_17 {j : Int} (h : 0 ≤ j ∧ j < ((10 : Nat) : Int)) : zt_g 17 j.toNat = some (18 + 10 * j.toNat) := zg_17' j.toNat (by omega)
theorem zw_0 : zt_isS (q_big + 1 + 0) := ⟨Nat.le_of_ble_eq_true rfl, by decide +kernel⟩
theorem zw_1 : zt_isS (q_big + 1 + 1) := ⟨Nat.le_of_ble_eq_true rfl, by decide +kernel⟩
theorem zw_2 : zt_isS (q_big + 1 + 2) := ⟨Nat.le_of_ble_eq_true rfl, by decide +kernel⟩
theorem zw_3 : zt_isS (q_big + 1 + 3) := ⟨Nat.le_of_ble_eq_true rfl, by decide +kernel⟩
theorem zw_4 : zt_isS (q_big + 1 + 4) := ⟨Nat.le_of_ble_eq_true rfl, by decide +kernel⟩
theorem zw_5 : zt_isS (q_big + 1 + 5) := ⟨Nat.le_of_ble_eq_true rfl, by decide +kernel⟩
theorem zw_6 : zt_isS (q_big + 1 + 6) := ⟨Nat.le_of_ble_eq_true rfl, by decide +kernel⟩
theorem zw_7 : zt_isS (q_big + 1 + 7) := ⟨Nat.le_of_ble_eq_true rfl, by decide +kernel⟩
theorem zw_8 : zt_isS (q_big + 1 + 8) := ⟨Nat.le_of_ble_eq_true rfl, by decide +kernel⟩
theorem zw_9 : zt_isS (q_big + 1 + 9) := ⟨Nat.le_of_ble_eq_true rfl, by decide +kernel⟩
theorem zw_10 : zt_isS (q_big + 1 + 10) := ⟨Nat.le_of_ble_eq_true rfl, by decide +kernel⟩
theorem zw_11 : zt_isS (q_big + 1 + 11) := ⟨Nat.le_of_ble_eq_true rfl, by decide +kernel⟩
theorem zw_12 : zt_isS (q_big + 1 + 12) := ⟨Nat.le_of_ble_eq_true rfl, by decide +kernel⟩
theorem zw_13 : zt_isS (q_big + 1 + 13) := ⟨Nat.le_of_ble_eq_true rfl, by decide +kernel⟩
theorem zw_14 : zt_isS (q_big + 1 + 14) := ⟨Nat.le_of_ble_eq_true rfl, by decide +kernel⟩
theorem zw_15 : zt_isS (q_big + 1 + 15) := ⟨Nat.le_of_ble_eq_true rfl, by decide +kernel⟩
theorem zw_16 : zt_isS (q_big + 1 + 16) := ⟨Nat.le_of_ble_eq_true rfl, by decide +kernel⟩
theorem zw_17 : zt_isS (q_big + 1 + 17) := ⟨Nat.le_of_ble_eq_true rfl, by decide +kernel⟩
theorem zw_18 : zt_isS (q_big + 1 + 18) := ⟨Nat.le_of_ble_eq_true rfl, by decide +kernel⟩
theorem zw_19 : zt_isS (q_big + 1 + 19) := ⟨Nat.le_of_ble_eq_true rfl, by decide +kernel⟩
