/-! WHAT THE FUNCTIONS REST ON: answers, methods' rows, shape (by program) -/
abbrev zo_V (o : Unit × zt_S) : q_O × q_M := (.inl none, zt_M o.2)
abbrev zo_I (o : Int × zt_S) : q_O × q_M := (.inl (some (.int (Int32.ofInt o.1))), zt_M o.2)
abbrev zo_L (o : Int64 × zt_S) : q_O × q_M := (.inl (some (.long o.1)), zt_M o.2)
abbrev zo_F (o : UInt32 × zt_S) : q_O × q_M := (.inl (some (.float o.1)), zt_M o.2)
abbrev zo_D (o : UInt64 × zt_S) : q_O × q_M := (.inl (some (.double o.1)), zt_M o.2)
abbrev zo_R (o : Nat × zt_S) : q_O × q_M := (.inl (some (.ref o.1)), zt_M o.2)
abbrev zx_V (o : (Unit ⊕ Nat) × zt_S) : q_O × q_M := match o.1 with
  | .inl _ => (.inl none, zt_M o.2)
  | .inr E => (.inr (zt_exn E), zt_M o.2)
abbrev zx_I (o : (Int ⊕ Nat) × zt_S) : q_O × q_M := match o.1 with
  | .inl r => (.inl (some (.int (Int32.ofInt r))), zt_M o.2)
  | .inr E => (.inr (zt_exn E), zt_M o.2)
abbrev zx_F (o : (UInt32 ⊕ Nat) × zt_S) : q_O × q_M := match o.1 with
  | .inl r => (.inl (some (.float r)), zt_M o.2)
  | .inr E => (.inr (zt_exn E), zt_M o.2)
abbrev zx_D (o : (UInt64 ⊕ Nat) × zt_S) : q_O × q_M := match o.1 with
  | .inl r => (.inl (some (.double r)), zt_M o.2)
  | .inr E => (.inr (zt_exn E), zt_M o.2)
def zt_let {α β : Type} (e : α) (k : α → Option β) : Option β := k e
theorem zt_letE {α β : Type} {e : α} {k : α → Option β} {o : β} (h : zt_let e k = some o) : ∃ x, x = e ∧ k x = some o := ⟨e, rfl, h⟩
theorem zt_inT (x : Int32) : zt_in x.toInt := ⟨by have := Int32.le_toInt x; omega, by have := Int32.toInt_lt x; omega⟩
theorem zq_lt {a : Nat} (h : a < 353) : a < q_mt.length := by rw [q_mt_len]; exact h
def zt_su (t : Nat) : Nat := if t = 130 then 129 else 3
theorem zy_1 : (q_row 1).2.2 = (5, some .int, [], 1, 0, q_k1) := rfl
theorem zy_2 : (q_row 2).2.2 = (1, some .int, [], 0, 0, q_k2) := rfl
theorem zy_3 : (q_row 3).2.2 = (2, none, [], 1, 0, q_k3) := rfl
theorem zy_4 : (q_row 4).2.2 = (2, none, [], 1, 0, q_k4) := rfl
theorem zy_5 : (q_row 5).2.2 = (2, some .int, [], 1, 0, q_k5) := rfl
theorem zy_7 : (q_row 7).2.2 = (1, none, [], 1, 1, q_k7) := rfl
theorem zy_8 : (q_row 8).2.2 = (3, none, [], 1, 1, q_k8) := rfl
theorem zy_9 : (q_row 9).2.2 = (3, none, [], 1, 1, q_k9) := rfl
theorem zy_10 : (q_row 10).2.2 = (2, some (.object "FadingTrumps$Table"), [], 1, 1, q_k10) := rfl
theorem zy_12 : (q_row 12).2.2 = (5, none, [], 1, 2, q_k12) := rfl
theorem zy_13 : (q_row 13).2.2 = (4, none, [], 1, 2, q_k13) := rfl
theorem zy_14 : (q_row 14).2.2 = (2, some .int, [], 1, 2, q_k14) := rfl
theorem zy_16 : (q_row 16).2.2 = (2, some .int, [], 1, 3, q_k16) := rfl
theorem zy_17 : (q_row 17).2.2 = (4, none, [], 1, 3, q_k17) := rfl
theorem zy_18 : (q_row 18).2.2 = (2, none, [], 1, 3, q_k18) := rfl
theorem zy_19 : (q_row 19).2.2 = (4, none, [], 1, 3, q_k19) := rfl
theorem zy_20 : (q_row 20).2.2 = (1, some .int, [], 1, 3, q_k20) := rfl
theorem zy_21 : (q_row 21).2.2 = (2, some .int, [], 1, 3, q_k21) := rfl
theorem zy_22 : (q_row 22).2.2 = (1, some .int, [], 1, 3, q_k22) := rfl
theorem zy_23 : (q_row 23).2.2 = (4, none, [], 1, 3, q_k23) := rfl
theorem zy_24 : (q_row 24).2.2 = (6, some .int, [], 1, 3, q_k24) := rfl
theorem zy_25 : (q_row 25).2.2 = (11, some .boolean, [], 1, 3, q_k25) := rfl
theorem zy_26 : (q_row 26).2.2 = (3, some .boolean, [], 0, 3, q_k26) := rfl
theorem zy_27 : (q_row 27).2.2 = (5, some .int, [], 0, 3, q_k27) := rfl
theorem zy_29 : (q_row 29).2.2 = (2, none, [], 1, 4, q_k29) := rfl
theorem zy_30 : (q_row 30).2.2 = (1, some .int, [], 1, 4, q_k30) := rfl
theorem zy_31 : (q_row 31).2.2 = (1, some .int, [], 1, 4, q_k31) := rfl
theorem zy_32 : (q_row 32).2.2 = (1, some .int, [], 1, 4, q_k32) := rfl
theorem zy_33 : (q_row 33).2.2 = (2, some .int, [], 1, 4, q_k33) := rfl
theorem zy_34 : (q_row 34).2.2 = (2, some .int, [], 1, 4, q_k34) := rfl
theorem zy_35 : (q_row 35).2.2 = (2, some .int, [], 1, 4, q_k35) := rfl
theorem zy_36 : (q_row 36).2.2 = (2, some .long, [], 1, 4, q_k36) := rfl
theorem zy_37 : (q_row 37).2.2 = (2, some .int, [], 1, 4, q_k37) := rfl
theorem zy_39 : (q_row 39).2.2 = (1, some .boolean, [], 1, 5, q_k39) := rfl
theorem zy_40 : (q_row 40).2.2 = (4, some .int, [], 1, 5, q_k40) := rfl
theorem zy_41 : (q_row 41).2.2 = (4, none, [], 1, 5, q_k41) := rfl
theorem zy_42 : (q_row 42).2.2 = (2, some (.object "FadingTrumps$Trick"), [], 1, 5, q_k42) := rfl
theorem zy_43 : (q_row 43).2.2 = (9, some .int, [], 1, 5, q_k43) := rfl
theorem zy_44 : (q_row 44).2.2 = (15, some .int, [], 1, 5, q_k44) := rfl
theorem zy_45 : (q_row 45).2.2 = (8, some .int, [], 1, 5, q_k45) := rfl
theorem zy_46 : (q_row 46).2.2 = (6, some .int, [], 1, 5, q_k46) := rfl
theorem zy_47 : (q_row 47).2.2 = (3, some .int, [], 1, 5, q_k47) := rfl
theorem zy_48 : (q_row 48).2.2 = (4, none, [], 1, 5, q_k48) := rfl
theorem zy_50 : (q_row 50).2.2 = (1, none, [], 1, 6, q_k50) := rfl
theorem zy_51 : (q_row 51).2.2 = (2, none, [], 1, 6, q_k51) := rfl
theorem zy_52 : (q_row 52).2.2 = (2, none, [], 1, 6, q_k52) := rfl
theorem zy_53 : (q_row 53).2.2 = (1, none, [], 1, 6, q_k53) := rfl
theorem zy_54 : (q_row 54).2.2 = (1, none, [], 1, 6, q_k54) := rfl
theorem zy_55 : (q_row 55).2.2 = (4, none, [], 1, 6, q_k55) := rfl
theorem zy_56 : (q_row 56).2.2 = (5, none, [], 1, 6, q_k56) := rfl
theorem zy_57 : (q_row 57).2.2 = (2, some .int, [], 1, 6, q_k57) := rfl
theorem zy_58 : (q_row 58).2.2 = (2, some .boolean, [], 1, 6, q_k58) := rfl
theorem zy_59 : (q_row 59).2.2 = (3, none, [], 1, 6, q_k59) := rfl
theorem zy_60 : (q_row 60).2.2 = (2, some .long, [], 1, 6, q_k60) := rfl
theorem zy_61 : (q_row 61).2.2 = (4, none, [], 1, 6, q_k61) := rfl
theorem zy_62 : (q_row 62).2.2 = (4, some .long, [], 1, 6, q_k62) := rfl
theorem zy_63 : (q_row 63).2.2 = (3, some .int, [], 1, 6, q_k63) := rfl
theorem zy_64 : (q_row 64).2.2 = (1, some .boolean, [], 1, 6, q_k64) := rfl
theorem zy_65 : (q_row 65).2.2 = (1, some .long, [], 1, 6, q_k65) := rfl
theorem zy_66 : (q_row 66).2.2 = (3, none, [], 1, 6, q_k66) := rfl
theorem zy_67 : (q_row 67).2.2 = (3, none, [], 1, 6, q_k67) := rfl
theorem zy_68 : (q_row 68).2.2 = (2, none, [], 1, 6, q_k68) := rfl
theorem zy_69 : (q_row 69).2.2 = (2, none, [], 1, 6, q_k69) := rfl
theorem zy_70 : (q_row 70).2.2 = (4, some .int, [], 1, 6, q_k70) := rfl
theorem zy_71 : (q_row 71).2.2 = (6, some .int, [], 1, 6, q_k71) := rfl
theorem zy_72 : (q_row 72).2.2 = (3, some .boolean, [], 1, 6, q_k72) := rfl
theorem zy_73 : (q_row 73).2.2 = (9, some .boolean, [], 1, 6, q_k73) := rfl
theorem zy_74 : (q_row 74).2.2 = (1, some .int, [], 1, 6, q_k74) := rfl
theorem zy_75 : (q_row 75).2.2 = (7, some .int, [], 1, 6, q_k75) := rfl
theorem zy_76 : (q_row 76).2.2 = (6, some .int, [], 1, 6, q_k76) := rfl
theorem zy_77 : (q_row 77).2.2 = (3, some .boolean, [], 1, 6, q_k77) := rfl
theorem zy_79 : (q_row 79).2.2 = (3, some .int, [], 1, 7, q_k79) := rfl
theorem zy_80 : (q_row 80).2.2 = (1, none, [], 1, 7, q_k80) := rfl
theorem zy_81 : (q_row 81).2.2 = (1, none, [], 1, 7, q_k81) := rfl
theorem zy_82 : (q_row 82).2.2 = (1, none, [], 1, 7, q_k82) := rfl
theorem zy_83 : (q_row 83).2.2 = (2, none, [], 1, 7, q_k83) := rfl
theorem zy_84 : (q_row 84).2.2 = (4, none, [], 1, 7, q_k84) := rfl
theorem zy_85 : (q_row 85).2.2 = (3, none, [], 1, 7, q_k85) := rfl
theorem zy_86 : (q_row 86).2.2 = (3, none, [], 1, 7, q_k86) := rfl
theorem zy_87 : (q_row 87).2.2 = (1, none, [], 1, 7, q_k87) := rfl
theorem zy_89 : (q_row 89).2.2 = (2, none, [], 1, 8, q_k89) := rfl
theorem zy_90 : (q_row 90).2.2 = (1, none, [], 1, 8, q_k90) := rfl
theorem zy_91 : (q_row 91).2.2 = (3, some .int, [], 1, 8, q_k91) := rfl
theorem zy_92 : (q_row 92).2.2 = (2, some .int, [], 1, 8, q_k92) := rfl
theorem zy_93 : (q_row 93).2.2 = (1, some .boolean, [], 1, 8, q_k93) := rfl
theorem zy_94 : (q_row 94).2.2 = (2, none, [], 1, 8, q_k94) := rfl
theorem zy_95 : (q_row 95).2.2 = (1, some .boolean, [], 1, 8, q_k95) := rfl
theorem zy_96 : (q_row 96).2.2 = (1, some .boolean, [], 1, 8, q_k96) := rfl
theorem zy_97 : (q_row 97).2.2 = (2, some .boolean, [], 1, 8, q_k97) := rfl
theorem zy_98 : (q_row 98).2.2 = (3, some .boolean, [], 1, 8, q_k98) := rfl
theorem zy_99 : (q_row 99).2.2 = (2, some .boolean, [], 1, 8, q_k99) := rfl
theorem zy_100 : (q_row 100).2.2 = (2, some .boolean, [], 1, 8, q_k100) := rfl
theorem zy_101 : (q_row 101).2.2 = (2, none, [], 1, 8, q_k101) := rfl
theorem zy_102 : (q_row 102).2.2 = (2, none, [], 1, 8, q_k102) := rfl
theorem zy_103 : (q_row 103).2.2 = (3, some .int, [], 1, 8, q_k103) := rfl
theorem zy_104 : (q_row 104).2.2 = (4, some .int, [], 1, 8, q_k104) := rfl
theorem zy_106 : (q_row 106).2.2 = (2, none, [], 1, 9, q_k106) := rfl
theorem zy_107 : (q_row 107).2.2 = (2, none, [], 1, 9, q_k107) := rfl
theorem zy_108 : (q_row 108).2.2 = (4, some .int, [], 1, 9, q_k108) := rfl
theorem zy_109 : (q_row 109).2.2 = (3, some .int, [], 1, 9, q_k109) := rfl
theorem zy_110 : (q_row 110).2.2 = (3, some .boolean, [], 1, 9, q_k110) := rfl
theorem zy_111 : (q_row 111).2.2 = (4, none, [], 1, 9, q_k111) := rfl
theorem zy_112 : (q_row 112).2.2 = (4, none, [], 1, 9, q_k112) := rfl
theorem zy_113 : (q_row 113).2.2 = (4, none, [], 1, 9, q_k113) := rfl
theorem zy_114 : (q_row 114).2.2 = (9, some .long, [], 1, 9, q_k114) := rfl
theorem zy_115 : (q_row 115).2.2 = (5, some .long, [], 1, 9, q_k115) := rfl
theorem zy_117 : (q_row 117).2.2 = (6, some .int, [], 1, 10, q_k117) := rfl
theorem zy_118 : (q_row 118).2.2 = (3, none, [], 1, 10, q_k118) := rfl
theorem zy_119 : (q_row 119).2.2 = (3, some .int, [], 1, 10, q_k119) := rfl
theorem zy_120 : (q_row 120).2.2 = (1, some .int, [], 1, 10, q_k120) := rfl
theorem zy_121 : (q_row 121).2.2 = (3, some .int, [], 1, 10, q_k121) := rfl
theorem zy_122 : (q_row 122).2.2 = (2, some .int, [], 1, 10, q_k122) := rfl
theorem zy_123 : (q_row 123).2.2 = (2, some .int, [], 1, 10, q_k123) := rfl
theorem zy_124 : (q_row 124).2.2 = (2, some .int, [], 1, 10, q_k124) := rfl
theorem zy_125 : (q_row 125).2.2 = (2, some .int, [], 1, 10, q_k125) := rfl
theorem zy_126 : (q_row 126).2.2 = (2, some .int, [], 1, 10, q_k126) := rfl
theorem zy_127 : (q_row 127).2.2 = (7, some .int, [], 1, 10, q_k127) := rfl
theorem zy_128 : (q_row 128).2.2 = (3, some .int, [], 1, 10, q_k128) := rfl
theorem zy_129 : (q_row 129).2.2 = (2, some .boolean, [], 1, 10, q_k129) := rfl
theorem zy_130 : (q_row 130).2.2 = (1, some .int, [], 1, 10, q_k130) := rfl
theorem zy_131 : (q_row 131).2.2 = (2, some .int, [], 1, 10, q_k131) := rfl
theorem zy_132 : (q_row 132).2.2 = (1, some .int, [], 1, 10, q_k132) := rfl
theorem zy_133 : (q_row 133).2.2 = (1, some .int, [], 1, 10, q_k133) := rfl
theorem zy_134 : (q_row 134).2.2 = (2, some .boolean, [], 1, 10, q_k134) := rfl
theorem zy_135 : (q_row 135).2.2 = (3, some .int, [], 1, 10, q_k135) := rfl
theorem zy_136 : (q_row 136).2.2 = (3, some .int, [], 1, 10, q_k136) := rfl
theorem zy_137 : (q_row 137).2.2 = (2, some .int, [], 1, 10, q_k137) := rfl
theorem zy_138 : (q_row 138).2.2 = (2, some .int, [], 1, 10, q_k138) := rfl
theorem zy_139 : (q_row 139).2.2 = (2, some .int, [], 1, 10, q_k139) := rfl
theorem zy_140 : (q_row 140).2.2 = (2, some .int, [], 1, 10, q_k140) := rfl
theorem zy_141 : (q_row 141).2.2 = (3, some .int, [], 1, 10, q_k141) := rfl
theorem zy_142 : (q_row 142).2.2 = (3, some .boolean, [], 1, 10, q_k142) := rfl
theorem zy_143 : (q_row 143).2.2 = (3, some .boolean, [], 1, 10, q_k143) := rfl
theorem zy_144 : (q_row 144).2.2 = (2, some .int, [], 1, 10, q_k144) := rfl
theorem zy_145 : (q_row 145).2.2 = (2, some .boolean, [], 1, 10, q_k145) := rfl
theorem zy_146 : (q_row 146).2.2 = (4, some .int, [], 1, 10, q_k146) := rfl
theorem zy_147 : (q_row 147).2.2 = (3, some .int, [], 1, 10, q_k147) := rfl
theorem zy_148 : (q_row 148).2.2 = (1, some .int, [], 1, 10, q_k148) := rfl
theorem zy_149 : (q_row 149).2.2 = (1, some .int, [], 1, 10, q_k149) := rfl
theorem zy_150 : (q_row 150).2.2 = (6, some .double, [], 1, 10, q_k150) := rfl
theorem zy_151 : (q_row 151).2.2 = (2, some .float, [], 1, 10, q_k151) := rfl
theorem zy_152 : (q_row 152).2.2 = (2, some .int, [], 1, 10, q_k152) := rfl
theorem zy_153 : (q_row 153).2.2 = (3, some .int, [], 1, 10, q_k153) := rfl
theorem zy_154 : (q_row 154).2.2 = (4, some .int, [], 1, 10, q_k154) := rfl
theorem zy_155 : (q_row 155).2.2 = (2, some .int, [], 1, 10, q_k155) := rfl
theorem zy_156 : (q_row 156).2.2 = (3, some .int, [], 1, 10, q_k156) := rfl
theorem zy_157 : (q_row 157).2.2 = (3, some .int, [], 1, 10, q_k157) := rfl
theorem zy_158 : (q_row 158).2.2 = (3, some .int, [], 1, 10, q_k158) := rfl
theorem zy_159 : (q_row 159).2.2 = (3, some .int, [], 1, 10, q_k159) := rfl
theorem zy_160 : (q_row 160).2.2 = (2, some .int, [], 1, 10, q_k160) := rfl
theorem zy_161 : (q_row 161).2.2 = (2, some .int, [], 1, 10, q_k161) := rfl
theorem zy_162 : (q_row 162).2.2 = (1, some .int, [], 1, 10, q_k162) := rfl
theorem zy_163 : (q_row 163).2.2 = (1, some .int, [], 1, 10, q_k163) := rfl
theorem zy_164 : (q_row 164).2.2 = (1, none, [], 1, 10, q_k164) := rfl
theorem zy_165 : (q_row 165).2.2 = (1, some .boolean, [], 1, 10, q_k165) := rfl
theorem zy_166 : (q_row 166).2.2 = (2, none, [], 1, 10, q_k166) := rfl
theorem zy_167 : (q_row 167).2.2 = (2, none, [], 1, 10, q_k167) := rfl
theorem zy_168 : (q_row 168).2.2 = (2, none, [], 1, 10, q_k168) := rfl
theorem zy_169 : (q_row 169).2.2 = (4, none, [], 1, 10, q_k169) := rfl
theorem zy_170 : (q_row 170).2.2 = (1, some .int, [], 1, 11, q_k170) := rfl
theorem zy_171 : (q_row 171).2.2 = (6, some .boolean, [], 0, 11, q_k171) := rfl
theorem zy_172 : (q_row 172).2.2 = (2, some .int, [], 0, 11, q_k172) := rfl
theorem zy_173 : (q_row 173).2.2 = (2, some .int, [], 0, 11, q_k173) := rfl
theorem zy_174 : (q_row 174).2.2 = (3, some .boolean, [], 1, 11, q_k174) := rfl
theorem zy_176 : (q_row 176).2.2 = (5, none, [], 0, 11, q_k176) := rfl
theorem zy_177 : (q_row 177).2.2 = (5, none, [], 1, 11, q_k177) := rfl
theorem zy_178 : (q_row 178).2.2 = (2, none, [], 0, 11, q_k178) := rfl
theorem zy_179 : (q_row 179).2.2 = (1, none, [], 0, 11, q_k179) := rfl
theorem zy_180 : (q_row 180).2.2 = (7, none, [], 1, 11, q_k180) := rfl
theorem zy_181 : (q_row 181).2.2 = (4, none, [], 1, 11, q_k181) := rfl
theorem zy_182 : (q_row 182).2.2 = (3, none, [], 1, 11, q_k182) := rfl
theorem zy_183 : (q_row 183).2.2 = (6, some .int, [], 1, 11, q_k183) := rfl
theorem zy_184 : (q_row 184).2.2 = (1, some .int, [], 1, 11, q_k184) := rfl
theorem zy_185 : (q_row 185).2.2 = (2, some .int, [], 1, 11, q_k185) := rfl
theorem zy_186 : (q_row 186).2.2 = (1, some .boolean, [], 0, 11, q_k186) := rfl
theorem zy_187 : (q_row 187).2.2 = (1, some .boolean, [], 0, 11, q_k187) := rfl
theorem zy_188 : (q_row 188).2.2 = (1, none, [], 1, 11, q_k188) := rfl
theorem zy_189 : (q_row 189).2.2 = (1, none, [], 1, 11, q_k189) := rfl
theorem zy_190 : (q_row 190).2.2 = (1, none, [], 1, 11, q_k190) := rfl
theorem zy_191 : (q_row 191).2.2 = (2, none, [], 1, 11, q_k191) := rfl
theorem zy_192 : (q_row 192).2.2 = (2, some .boolean, [], 1, 11, q_k192) := rfl
theorem zy_193 : (q_row 193).2.2 = (1, some .boolean, [], 1, 11, q_k193) := rfl
theorem zy_194 : (q_row 194).2.2 = (3, some .boolean, [], 1, 11, q_k194) := rfl
theorem zy_195 : (q_row 195).2.2 = (3, some .boolean, [], 1, 11, q_k195) := rfl
theorem zy_196 : (q_row 196).2.2 = (2, some .boolean, [], 1, 11, q_k196) := rfl
theorem zy_197 : (q_row 197).2.2 = (2, none, [], 1, 11, q_k197) := rfl
theorem zy_198 : (q_row 198).2.2 = (4, some .int, [], 1, 11, q_k198) := rfl
theorem zy_199 : (q_row 199).2.2 = (5, some .int, [], 1, 11, q_k199) := rfl
theorem zy_200 : (q_row 200).2.2 = (2, none, [], 1, 11, q_k200) := rfl
theorem zy_201 : (q_row 201).2.2 = (3, none, [], 1, 11, q_k201) := rfl
theorem zy_202 : (q_row 202).2.2 = (1, none, [], 1, 11, q_k202) := rfl
theorem zy_203 : (q_row 203).2.2 = (4, none, [], 1, 11, q_k203) := rfl
theorem zy_204 : (q_row 204).2.2 = (4, none, [], 1, 11, q_k204) := rfl
theorem zy_205 : (q_row 205).2.2 = (2, none, [], 1, 11, q_k205) := rfl
theorem zy_206 : (q_row 206).2.2 = (2, some .int, [], 1, 11, q_k206) := rfl
theorem zy_207 : (q_row 207).2.2 = (1, some .int, [], 1, 11, q_k207) := rfl
theorem zy_208 : (q_row 208).2.2 = (2, some .boolean, [], 1, 11, q_k208) := rfl
theorem zy_209 : (q_row 209).2.2 = (2, some .int, [], 1, 11, q_k209) := rfl
theorem zy_210 : (q_row 210).2.2 = (2, some .int, [], 1, 11, q_k210) := rfl
theorem zy_211 : (q_row 211).2.2 = (1, some .boolean, [], 1, 11, q_k211) := rfl
theorem zy_212 : (q_row 212).2.2 = (1, some .int, [], 1, 11, q_k212) := rfl
theorem zy_213 : (q_row 213).2.2 = (2, some .int, [], 1, 11, q_k213) := rfl
theorem zy_214 : (q_row 214).2.2 = (1, some .int, [], 1, 11, q_k214) := rfl
theorem zy_215 : (q_row 215).2.2 = (1, some .int, [], 1, 11, q_k215) := rfl
theorem zy_216 : (q_row 216).2.2 = (4, some .int, [], 1, 11, q_k216) := rfl
theorem zy_217 : (q_row 217).2.2 = (2, some .int, [], 1, 11, q_k217) := rfl
theorem zy_218 : (q_row 218).2.2 = (3, some .int, [], 1, 11, q_k218) := rfl
theorem zy_219 : (q_row 219).2.2 = (2, some .boolean, [], 1, 11, q_k219) := rfl
theorem zy_220 : (q_row 220).2.2 = (2, some .int, [], 1, 11, q_k220) := rfl
theorem zy_221 : (q_row 221).2.2 = (5, some .int, [], 1, 11, q_k221) := rfl
theorem zy_222 : (q_row 222).2.2 = (4, some .boolean, [], 1, 11, q_k222) := rfl
theorem zy_223 : (q_row 223).2.2 = (5, some .boolean, [], 1, 11, q_k223) := rfl
theorem zy_224 : (q_row 224).2.2 = (3, some .boolean, [], 1, 11, q_k224) := rfl
theorem zy_225 : (q_row 225).2.2 = (3, some .int, [], 1, 11, q_k225) := rfl
theorem zy_226 : (q_row 226).2.2 = (3, none, [], 1, 11, q_k226) := rfl
theorem zy_227 : (q_row 227).2.2 = (5, none, [], 1, 11, q_k227) := rfl
theorem zy_228 : (q_row 228).2.2 = (3, none, [], 1, 11, q_k228) := rfl
theorem zy_229 : (q_row 229).2.2 = (4, some .int, [], 1, 11, q_k229) := rfl
theorem zy_230 : (q_row 230).2.2 = (4, some .int, [], 1, 11, q_k230) := rfl
theorem zy_231 : (q_row 231).2.2 = (2, none, [], 1, 11, q_k231) := rfl
theorem zy_232 : (q_row 232).2.2 = (2, some .int, [], 1, 11, q_k232) := rfl
theorem zy_233 : (q_row 233).2.2 = (2, some .int, [], 1, 11, q_k233) := rfl
theorem zy_234 : (q_row 234).2.2 = (2, some .int, [], 1, 11, q_k234) := rfl
theorem zy_235 : (q_row 235).2.2 = (2, some .int, [], 1, 11, q_k235) := rfl
theorem zy_236 : (q_row 236).2.2 = (2, some .boolean, [], 1, 11, q_k236) := rfl
theorem zy_237 : (q_row 237).2.2 = (1, some .boolean, [], 0, 11, q_k237) := rfl
theorem zy_238 : (q_row 238).2.2 = (2, some .int, [], 1, 11, q_k238) := rfl
theorem zy_239 : (q_row 239).2.2 = (5, some .int, [], 1, 11, q_k239) := rfl
theorem zy_240 : (q_row 240).2.2 = (3, some .int, [], 1, 11, q_k240) := rfl
theorem zy_241 : (q_row 241).2.2 = (2, some .boolean, [], 1, 11, q_k241) := rfl
theorem zy_242 : (q_row 242).2.2 = (3, some .int, [], 1, 11, q_k242) := rfl
theorem zy_243 : (q_row 243).2.2 = (2, some .int, [], 1, 11, q_k243) := rfl
theorem zy_244 : (q_row 244).2.2 = (1, some .int, [], 1, 11, q_k244) := rfl
theorem zy_245 : (q_row 245).2.2 = (2, some .int, [], 1, 11, q_k245) := rfl
theorem zy_246 : (q_row 246).2.2 = (2, some .boolean, [], 1, 11, q_k246) := rfl
theorem zy_247 : (q_row 247).2.2 = (3, some .int, [], 1, 11, q_k247) := rfl
theorem zy_248 : (q_row 248).2.2 = (3, some .int, [], 1, 11, q_k248) := rfl
theorem zy_249 : (q_row 249).2.2 = (2, some .int, [], 1, 11, q_k249) := rfl
theorem zy_250 : (q_row 250).2.2 = (2, some .int, [], 1, 11, q_k250) := rfl
theorem zy_251 : (q_row 251).2.2 = (2, some .int, [], 1, 11, q_k251) := rfl
theorem zy_252 : (q_row 252).2.2 = (2, some .int, [], 1, 11, q_k252) := rfl
theorem zy_253 : (q_row 253).2.2 = (5, some .int, [], 1, 11, q_k253) := rfl
theorem zy_254 : (q_row 254).2.2 = (3, some .boolean, [], 1, 11, q_k254) := rfl
theorem zy_255 : (q_row 255).2.2 = (3, some .boolean, [], 1, 11, q_k255) := rfl
theorem zy_256 : (q_row 256).2.2 = (3, some .boolean, [], 1, 11, q_k256) := rfl
theorem zy_257 : (q_row 257).2.2 = (2, some .int, [], 1, 11, q_k257) := rfl
theorem zy_258 : (q_row 258).2.2 = (5, some .boolean, [], 1, 11, q_k258) := rfl
theorem zy_259 : (q_row 259).2.2 = (2, some .boolean, [], 1, 11, q_k259) := rfl
theorem zy_260 : (q_row 260).2.2 = (4, some .int, [], 1, 11, q_k260) := rfl
theorem zy_261 : (q_row 261).2.2 = (1, some .int, [], 1, 11, q_k261) := rfl
theorem zy_262 : (q_row 262).2.2 = (3, none, [], 1, 11, q_k262) := rfl
theorem zy_263 : (q_row 263).2.2 = (2, some .int, [], 1, 11, q_k263) := rfl
theorem zy_264 : (q_row 264).2.2 = (4, some .int, [], 1, 11, q_k264) := rfl
theorem zy_265 : (q_row 265).2.2 = (4, none, [], 1, 11, q_k265) := rfl
theorem zy_266 : (q_row 266).2.2 = (4, none, [], 1, 11, q_k266) := rfl
theorem zy_267 : (q_row 267).2.2 = (6, none, [], 1, 11, q_k267) := rfl
theorem zy_268 : (q_row 268).2.2 = (3, some .int, [], 1, 11, q_k268) := rfl
theorem zy_269 : (q_row 269).2.2 = (3, some .int, [], 1, 11, q_k269) := rfl
theorem zy_270 : (q_row 270).2.2 = (6, none, [], 1, 11, q_k270) := rfl
theorem zy_271 : (q_row 271).2.2 = (1, some .int, [], 1, 11, q_k271) := rfl
theorem zy_272 : (q_row 272).2.2 = (1, some .int, [], 1, 11, q_k272) := rfl
theorem zy_273 : (q_row 273).2.2 = (2, some .int, [], 1, 11, q_k273) := rfl
theorem zy_274 : (q_row 274).2.2 = (4, some .double, [], 1, 11, q_k274) := rfl
theorem zy_275 : (q_row 275).2.2 = (2, some .float, [], 1, 11, q_k275) := rfl
theorem zy_276 : (q_row 276).2.2 = (2, none, [], 1, 11, q_k276) := rfl
theorem zy_277 : (q_row 277).2.2 = (3, some .int, [], 1, 11, q_k277) := rfl
theorem zy_278 : (q_row 278).2.2 = (4, some .int, [], 1, 11, q_k278) := rfl
theorem zy_279 : (q_row 279).2.2 = (3, some .int, [], 1, 11, q_k279) := rfl
theorem zy_280 : (q_row 280).2.2 = (3, some .int, [], 1, 11, q_k280) := rfl
theorem zy_281 : (q_row 281).2.2 = (4, some .int, [], 1, 11, q_k281) := rfl
theorem zy_282 : (q_row 282).2.2 = (2, some .int, [], 1, 11, q_k282) := rfl
theorem zy_283 : (q_row 283).2.2 = (3, some .int, [], 1, 11, q_k283) := rfl
theorem zy_284 : (q_row 284).2.2 = (4, some .int, [], 1, 11, q_k284) := rfl
theorem zy_285 : (q_row 285).2.2 = (2, some .int, [], 1, 11, q_k285) := rfl
theorem zy_286 : (q_row 286).2.2 = (2, some .int, [], 1, 11, q_k286) := rfl
theorem zy_287 : (q_row 287).2.2 = (2, some .int, [], 1, 11, q_k287) := rfl
theorem zy_288 : (q_row 288).2.2 = (1, some .int, [], 1, 11, q_k288) := rfl
theorem zy_289 : (q_row 289).2.2 = (1, some .int, [], 1, 11, q_k289) := rfl
theorem zy_290 : (q_row 290).2.2 = (1, none, [], 1, 11, q_k290) := rfl
theorem zy_291 : (q_row 291).2.2 = (1, some .boolean, [], 1, 11, q_k291) := rfl
theorem zy_292 : (q_row 292).2.2 = (2, none, [], 1, 11, q_k292) := rfl
theorem zy_293 : (q_row 293).2.2 = (4, some .int, [], 1, 11, q_k293) := rfl
theorem zy_294 : (q_row 294).2.2 = (2, some .int, [], 1, 11, q_k294) := rfl
theorem zy_295 : (q_row 295).2.2 = (2, none, [], 1, 11, q_k295) := rfl
theorem zy_296 : (q_row 296).2.2 = (1, some .int, [], 1, 11, q_k296) := rfl
theorem zy_297 : (q_row 297).2.2 = (2, none, [], 1, 11, q_k297) := rfl
theorem zy_298 : (q_row 298).2.2 = (2, some .boolean, [], 1, 11, q_k298) := rfl
theorem zy_299 : (q_row 299).2.2 = (1, some .int, [], 0, 11, q_k299) := rfl
theorem zy_300 : (q_row 300).2.2 = (2, none, [], 1, 11, q_k300) := rfl
theorem zy_301 : (q_row 301).2.2 = (2, some .boolean, [], 1, 11, q_k301) := rfl
theorem zy_302 : (q_row 302).2.2 = (2, none, [], 1, 11, q_k302) := rfl
theorem zy_303 : (q_row 303).2.2 = (1, none, [], 1, 11, q_k303) := rfl
theorem zy_304 : (q_row 304).2.2 = (3, none, [], 1, 11, q_k304) := rfl
theorem zy_305 : (q_row 305).2.2 = (3, some .int, [], 1, 11, q_k305) := rfl
theorem zy_306 : (q_row 306).2.2 = (3, some .boolean, [], 0, 11, q_k306) := rfl
theorem zy_307 : (q_row 307).2.2 = (5, some .boolean, [], 1, 11, q_k307) := rfl
theorem zy_308 : (q_row 308).2.2 = (5, some .int, [], 1, 11, q_k308) := rfl
theorem zy_309 : (q_row 309).2.2 = (2, some .int, [], 0, 12, q_k309) := rfl
theorem zy_310 : (q_row 310).2.2 = (3, none, [], 0, 12, q_k310) := rfl
theorem zy_311 : (q_row 311).2.2 = (3, none, [], 0, 12, q_k311) := rfl
theorem zy_312 : (q_row 312).2.2 = (2, none, [], 0, 12, q_k312) := rfl
theorem zy_313 : (q_row 313).2.2 = (2, none, [], 0, 12, q_k313) := rfl
theorem zy_314 : (q_row 314).2.2 = (3, some .boolean, [], 0, 12, q_k314) := rfl
theorem zy_315 : (q_row 315).2.2 = (3, some .long, [], 0, 12, q_k315) := rfl
theorem zy_316 : (q_row 316).2.2 = (3, some .long, [], 0, 12, q_k316) := rfl
theorem zy_317 : (q_row 317).2.2 = (4, some .int, [(0, 9, 12, 13)], 0, 13, q_k317) := rfl
theorem zy_318 : (q_row 318).2.2 = (4, some .int, [(0, 9, 12, 18)], 0, 13, q_k318) := rfl
theorem zy_319 : (q_row 319).2.2 = (4, some .int, [(0, 9, 12, 18)], 0, 13, q_k319) := rfl
theorem zy_320 : (q_row 320).2.2 = (4, some .int, [(0, 9, 12, 18)], 0, 13, q_k320) := rfl
theorem zy_321 : (q_row 321).2.2 = (4, some .int, [(0, 9, 12, 18)], 0, 13, q_k321) := rfl
theorem zy_322 : (q_row 322).2.2 = (4, some .int, [(0, 9, 12, 18)], 0, 13, q_k322) := rfl
theorem zy_323 : (q_row 323).2.2 = (5, some .int, [(0, 10, 13, 18)], 0, 13, q_k323) := rfl
theorem zy_324 : (q_row 324).2.2 = (5, some .int, [(0, 10, 13, 18)], 0, 13, q_k324) := rfl
theorem zy_325 : (q_row 325).2.2 = (4, some .int, [(0, 16, 19, 18)], 0, 13, q_k325) := rfl
theorem zy_326 : (q_row 326).2.2 = (4, some .int, [(0, 9, 12, 18)], 0, 13, q_k326) := rfl
theorem zy_327 : (q_row 327).2.2 = (4, some .int, [(0, 16, 19, 18)], 0, 13, q_k327) := rfl
theorem zy_328 : (q_row 328).2.2 = (5, some .int, [(0, 10, 13, 18)], 0, 13, q_k328) := rfl
theorem zy_329 : (q_row 329).2.2 = (5, some .int, [(0, 10, 13, 18)], 0, 13, q_k329) := rfl
theorem zy_330 : (q_row 330).2.2 = (4, some .int, [(0, 9, 12, 18)], 0, 13, q_k330) := rfl
theorem zy_331 : (q_row 331).2.2 = (4, some .int, [(0, 9, 12, 18)], 0, 13, q_k331) := rfl
theorem zy_332 : (q_row 332).2.2 = (4, some .int, [(0, 9, 12, 18)], 0, 13, q_k332) := rfl
theorem zy_333 : (q_row 333).2.2 = (4, some .int, [(0, 9, 12, 18)], 0, 13, q_k333) := rfl
theorem zy_334 : (q_row 334).2.2 = (4, some .int, [(0, 9, 12, 18)], 0, 13, q_k334) := rfl
theorem zy_335 : (q_row 335).2.2 = (5, some .int, [(0, 17, 20, 18)], 0, 13, q_k335) := rfl
theorem zy_336 : (q_row 336).2.2 = (5, some .int, [(0, 17, 20, 18)], 0, 13, q_k336) := rfl
theorem zy_337 : (q_row 337).2.2 = (4, some .int, [(0, 9, 12, 18)], 0, 13, q_k337) := rfl
theorem zy_338 : (q_row 338).2.2 = (4, some .int, [(0, 16, 19, 18)], 0, 13, q_k338) := rfl
theorem zy_339 : (q_row 339).2.2 = (4, some .int, [(0, 9, 12, 18)], 0, 13, q_k339) := rfl
theorem zy_340 : (q_row 340).2.2 = (4, some .int, [(0, 8, 11, 18)], 0, 13, q_k340) := rfl
theorem zy_341 : (q_row 341).2.2 = (4, some .int, [(0, 9, 12, 18)], 0, 13, q_k341) := rfl
theorem zy_342 : (q_row 342).2.2 = (4, some .int, [(0, 9, 12, 18)], 0, 13, q_k342) := rfl
theorem zy_343 : (q_row 343).2.2 = (4, some .int, [(0, 9, 12, 13)], 0, 13, q_k343) := rfl
theorem zy_344 : (q_row 344).2.2 = (5, some .int, [(0, 10, 13, 18), (0, 10, 17, 13)], 0, 13, q_k344) := rfl
theorem zy_345 : (q_row 345).2.2 = (4, some .int, [(0, 9, 12, 13)], 0, 13, q_k345) := rfl
theorem zy_346 : (q_row 346).2.2 = (4, some .int, [(0, 9, 12, 13)], 0, 13, q_k346) := rfl
theorem zy_347 : (q_row 347).2.2 = (4, some .int, [(0, 9, 12, 13)], 0, 13, q_k347) := rfl
theorem zy_348 : (q_row 348).2.2 = (4, some .int, [(0, 9, 12, 13)], 0, 13, q_k348) := rfl
theorem zy_349 : (q_row 349).2.2 = (4, some .int, [(0, 9, 12, 18)], 0, 13, q_k349) := rfl
theorem zy_350 : (q_row 350).2.2 = (4, some .int, [(0, 9, 12, 13)], 0, 13, q_k350) := rfl
theorem zy_351 : (q_row 351).2.2 = (9, some .boolean, [], 0, 13, q_k351) := rfl
theorem zy_352 : (q_row 352).2.2 = (2, some .int, [], 0, 14, q_k352) := rfl
theorem zk_0_0 : zt_fk 0 10 0 = some (1 + 2) := by decide +kernel
theorem zk_0_1 : zt_fk 0 10 1 = some (0) := by decide +kernel
theorem zk_0_2 : zt_fk 0 10 2 = some (2 + 2) := by decide +kernel
theorem zk_0_3 : zt_fk 0 10 3 = some (3 + 2) := by decide +kernel
theorem zk_0_4 : zt_fk 0 10 4 = some (4 + 2) := by decide +kernel
theorem zk_0_5 : zt_fk 0 10 5 = some (6 + 2) := by decide +kernel
theorem zk_0_6 : zt_fk 0 10 6 = some (16 + 2) := by decide +kernel
theorem zk_0_7 : zt_fk 0 10 7 = some (118 + 2) := by decide +kernel
theorem zk_0_8 : zt_fk 0 10 8 = some (0) := by decide +kernel
theorem zk_0_9 : zt_fk 0 10 9 = some (128 + 2) := by decide +kernel
theorem zk_0_10 : zt_fk 0 10 10 = some (140 + 2) := by decide +kernel
theorem zk_0_11 : zt_fk 0 10 11 = some (144 + 2) := by decide +kernel
theorem zk_0_12 : zt_fk 0 10 12 = some (161 + 2) := by decide +kernel
theorem zk_2_0 : zt_fk 2 8 0 = some (1 + 2) := by decide +kernel
theorem zk_2_1 : zt_fk 2 8 1 = some (0) := by decide +kernel
theorem zk_2_2 : zt_fk 2 8 2 = some (0) := by decide +kernel
theorem zk_2_3 : zt_fk 2 8 3 = some (0) := by decide +kernel
theorem zk_2_4 : zt_fk 2 8 4 = some (0) := by decide +kernel
theorem zk_2_5 : zt_fk 2 8 5 = some (0) := by decide +kernel
theorem zk_2_6 : zt_fk 2 8 6 = some (0) := by decide +kernel
theorem zk_2_7 : zt_fk 2 8 7 = some (0) := by decide +kernel
theorem zk_3_0 : zt_fk 3 4 0 = some (0) := by decide +kernel
theorem zk_3_1 : zt_fk 3 4 1 = some (0) := by decide +kernel
theorem zk_3_2 : zt_fk 3 4 2 = some (0) := by decide +kernel
theorem zk_3_3 : zt_fk 3 4 3 = some (0) := by decide +kernel
theorem zk_4_0 : zt_fk 4 2 0 = some (5 + 2) := by decide +kernel
theorem zk_6_1 : zt_fk 6 6 1 = some (7 + 2) := by decide +kernel
theorem zk_6_3 : zt_fk 6 6 3 = some (9 + 2) := by decide +kernel
theorem zk_6_4 : zt_fk 6 6 4 = some (10 + 2) := by decide +kernel
theorem zk_6_6 : zt_fk 6 6 6 = some (12 + 2) := by decide +kernel
theorem zk_6_7 : zt_fk 6 6 7 = some (13 + 2) := by decide +kernel
theorem zk_6_8 : zt_fk 6 6 8 = some (14 + 2) := by decide +kernel
theorem zk_6_9 : zt_fk 6 6 9 = some (15 + 2) := by decide +kernel
theorem zk_6_10 : zt_fk 6 6 10 = some (1) := by decide +kernel
theorem zk_6_11 : zt_fk 6 6 11 = some (0) := by decide +kernel
theorem zk_6_12 : zt_fk 6 6 12 = some (0) := by decide +kernel
theorem zk_6_13 : zt_fk 6 6 13 = some (0) := by decide +kernel
theorem zk_6_14 : zt_fk 6 6 14 = some (0) := by decide +kernel
theorem zk_6_15 : zt_fk 6 6 15 = some (0) := by decide +kernel
theorem zk_6_16 : zt_fk 6 6 16 = some (0) := by decide +kernel
theorem zk_6_17 : zt_fk 6 6 17 = some (0) := by decide +kernel
theorem zk_6_18 : zt_fk 6 6 18 = some (0) := by decide +kernel
theorem zk_7_0 : zt_fk 7 9 0 = some (0) := by decide +kernel
theorem zk_7_1 : zt_fk 7 9 1 = some (0) := by decide +kernel
theorem zk_7_2 : zt_fk 7 9 2 = some (0) := by decide +kernel
theorem zk_7_3 : zt_fk 7 9 3 = some (0) := by decide +kernel
theorem zk_7_6 : zt_fk 7 9 6 = some (0) := by decide +kernel
theorem zk_7_7 : zt_fk 7 9 7 = some (0) := by decide +kernel
theorem zk_7_8 : zt_fk 7 9 8 = some (0) := by decide +kernel
theorem zk_16_0 : zt_fk 16 1 0 = some (17 + 2) := by decide +kernel
theorem zk_16_1 : zt_fk 16 1 1 = some (0) := by decide +kernel
theorem zk_16_2 : zt_fk 16 1 2 = some (0) := by decide +kernel
theorem zk_128_0 : zt_fk 128 7 0 = some (129 + 2) := by decide +kernel
theorem zk_128_1 : zt_fk 128 7 1 = some (130 + 2) := by decide +kernel
theorem zk_128_2 : zt_fk 128 7 2 = some (2 + 2) := by decide +kernel
theorem zk_128_3 : zt_fk 128 7 3 = some (4 + 2) := by decide +kernel
theorem zk_128_4 : zt_fk 128 7 4 = some (0) := by decide +kernel
theorem zk_129_0 : zt_fk 129 4 0 = some (0) := by decide +kernel
theorem zk_129_1 : zt_fk 129 4 1 = some (0) := by decide +kernel
theorem zk_129_2 : zt_fk 129 4 2 = some (0) := by decide +kernel
theorem zk_129_3 : zt_fk 129 4 3 = some (0) := by decide +kernel
theorem zk_130_3 : zt_fk 130 6 3 = some (133 + 2) := by decide +kernel
theorem zk_130_11 : zt_fk 130 6 11 = some (0) := by decide +kernel
theorem zk_130_12 : zt_fk 130 6 12 = some (0) := by decide +kernel
theorem zk_130_13 : zt_fk 130 6 13 = some (0) := by decide +kernel
theorem zk_130_14 : zt_fk 130 6 14 = some (0) := by decide +kernel
theorem zk_130_15 : zt_fk 130 6 15 = some (0) := by decide +kernel
theorem zk_140_0 : zt_fk 140 3 0 = some (2 + 2) := by decide +kernel
theorem zk_140_1 : zt_fk 140 3 1 = some (141 + 2) := by decide +kernel
theorem zk_140_2 : zt_fk 140 3 2 = some (142 + 2) := by decide +kernel
theorem zk_140_3 : zt_fk 140 3 3 = some (143 + 2) := by decide +kernel
theorem zk_140_4 : zt_fk 140 3 4 = some (0) := by decide +kernel
theorem zk_140_5 : zt_fk 140 3 5 = some (0) := by decide +kernel
theorem zk_144_0 : zt_fk 144 5 0 = some (6 + 2) := by decide +kernel
theorem zk_144_1 : zt_fk 144 5 1 = some (3 + 2) := by decide +kernel
theorem zk_144_2 : zt_fk 144 5 2 = some (145 + 2) := by decide +kernel
theorem zk_144_3 : zt_fk 144 5 3 = some (146 + 2) := by decide +kernel
theorem zk_144_4 : zt_fk 144 5 4 = some (147 + 2) := by decide +kernel
theorem zk_144_5 : zt_fk 144 5 5 = some (1) := by decide +kernel
theorem zk_144_6 : zt_fk 144 5 6 = some (0) := by decide +kernel
theorem zk_144_7 : zt_fk 144 5 7 = some (0) := by decide +kernel
theorem zk_144_8 : zt_fk 144 5 8 = some (0) := by decide +kernel
theorem zk_161_0 : zt_fk 161 0 0 = some (162 + 2) := by decide +kernel
theorem zk_161_1 : zt_fk 161 0 1 = some (0) := by decide +kernel
theorem zk_163_0 : zt_fk 163 11 0 = some (0) := by decide +kernel
theorem zk_163_1 : zt_fk 163 11 1 = some (164 + 2) := by decide +kernel
theorem zk_163_2 : zt_fk 163 11 2 = some (165 + 2) := by decide +kernel
theorem zk_163_3 : zt_fk 163 11 3 = some (166 + 2) := by decide +kernel
theorem zk_163_4 : zt_fk 163 11 4 = some (167 + 2) := by decide +kernel
theorem zk_163_5 : zt_fk 163 11 5 = some (0) := by decide +kernel
theorem zk_163_6 : zt_fk 163 11 6 = some (0) := by decide +kernel
theorem zk_163_7 : zt_fk 163 11 7 = some (168 + 2) := by decide +kernel
theorem zk_163_8 : zt_fk 163 11 8 = some (169 + 2) := by decide +kernel
theorem zk_163_9 : zt_fk 163 11 9 = some (0) := by decide +kernel
theorem zk_163_10 : zt_fk 163 11 10 = some (0) := by decide +kernel
theorem zk_163_11 : zt_fk 163 11 11 = some (0) := by decide +kernel
theorem zk_163_12 : zt_fk 163 11 12 = some (0) := by decide +kernel
theorem zk_163_13 : zt_fk 163 11 13 = some (0) := by decide +kernel
theorem zk_163_14 : zt_fk 163 11 14 = some (0) := by decide +kernel
theorem zk_163_15 : zt_fk 163 11 15 = some (1) := by decide +kernel
theorem zk_163_16 : zt_fk 163 11 16 = some (0) := by decide +kernel
theorem zk_163_17 : zt_fk 163 11 17 = some (0) := by decide +kernel
theorem zk_163_18 : zt_fk 163 11 18 = some (170 + 2) := by decide +kernel
theorem zk_163_19 : zt_fk 163 11 19 = some (171 + 2) := by decide +kernel
theorem zk_163_20 : zt_fk 163 11 20 = some (172 + 2) := by decide +kernel
theorem zk_163_21 : zt_fk 163 11 21 = some (173 + 2) := by decide +kernel
theorem zk_163_22 : zt_fk 163 11 22 = some (174 + 2) := by decide +kernel
theorem zk_163_23 : zt_fk 163 11 23 = some (175 + 2) := by decide +kernel
theorem zk_163_24 : zt_fk 163 11 24 = some (176 + 2) := by decide +kernel
theorem zk_163_25 : zt_fk 163 11 25 = some (177 + 2) := by decide +kernel
theorem zk_163_26 : zt_fk 163 11 26 = some (178 + 2) := by decide +kernel
theorem zk_163_27 : zt_fk 163 11 27 = some (179 + 2) := by decide +kernel
theorem zk_163_28 : zt_fk 163 11 28 = some (0) := by decide +kernel
theorem zk_163_29 : zt_fk 163 11 29 = some (0) := by decide +kernel
theorem zk_163_30 : zt_fk 163 11 30 = some (180 + 2) := by decide +kernel
theorem zk_163_31 : zt_fk 163 11 31 = some (0) := by decide +kernel
theorem zk_163_32 : zt_fk 163 11 32 = some (181 + 2) := by decide +kernel
theorem zk_163_33 : zt_fk 163 11 33 = some (182 + 2) := by decide +kernel
theorem zk_163_34 : zt_fk 163 11 34 = some (183 + 2) := by decide +kernel
theorem zk_163_35 : zt_fk 163 11 35 = some (0) := by decide +kernel
theorem zk_163_36 : zt_fk 163 11 36 = some (0) := by decide +kernel
theorem zk_163_37 : zt_fk 163 11 37 = some (0) := by decide +kernel
theorem zk_K_0 {t : Nat} (h : t ∈ zt_tris) : zt_fk t 9 0 = some 0 := (show ∀ t ∈ zt_tris, zt_fk t 9 0 = some 0 by decide +kernel) t h
theorem zk_K_1 {t : Nat} (h : t ∈ zt_tris) : zt_fk t 9 1 = some 0 := (show ∀ t ∈ zt_tris, zt_fk t 9 1 = some 0 by decide +kernel) t h
theorem zk_K_2 {t : Nat} (h : t ∈ zt_tris) : zt_fk t 9 2 = some 0 := (show ∀ t ∈ zt_tris, zt_fk t 9 2 = some 0 by decide +kernel) t h
theorem zk_K_3 {t : Nat} (h : t ∈ zt_tris) : zt_fk t 9 3 = some 0 := (show ∀ t ∈ zt_tris, zt_fk t 9 3 = some 0 by decide +kernel) t h
theorem zk_K_4 {t : Nat} (h : t ∈ zt_tris) : zt_fk t 9 4 = some 0 := (show ∀ t ∈ zt_tris, zt_fk t 9 4 = some 0 by decide +kernel) t h
theorem zk_K_5 {t : Nat} (h : t ∈ zt_tris) : zt_fk t 9 5 = some 0 := (show ∀ t ∈ zt_tris, zt_fk t 9 5 = some 0 by decide +kernel) t h
theorem zk_K_6 {t : Nat} (h : t ∈ zt_tris) : zt_fk t 9 6 = some 0 := (show ∀ t ∈ zt_tris, zt_fk t 9 6 = some 0 by decide +kernel) t h
theorem zk_K_7 {t : Nat} (h : t ∈ zt_tris) : zt_fk t 9 7 = some 0 := (show ∀ t ∈ zt_tris, zt_fk t 9 7 = some 0 by decide +kernel) t h
theorem zk_K_8 {t : Nat} (h : t ∈ zt_tris) : zt_fk t 9 8 = some 0 := (show ∀ t ∈ zt_tris, zt_fk t 9 8 = some 0 by decide +kernel) t h
theorem zk_S_0 {t : Nat} (h : t ∈ zt_sets) : zt_fk t 4 0 = some 0 := (show ∀ t ∈ zt_sets, zt_fk t 4 0 = some 0 by decide +kernel) t h
theorem zk_S_1 {t : Nat} (h : t ∈ zt_sets) : zt_fk t 4 1 = some 0 := (show ∀ t ∈ zt_sets, zt_fk t 4 1 = some 0 by decide +kernel) t h
theorem zk_S_2 {t : Nat} (h : t ∈ zt_sets) : zt_fk t 4 2 = some 0 := (show ∀ t ∈ zt_sets, zt_fk t 4 2 = some 0 by decide +kernel) t h
theorem zk_S_3 {t : Nat} (h : t ∈ zt_sets) : zt_fk t 4 3 = some 0 := (show ∀ t ∈ zt_sets, zt_fk t 4 3 = some 0 by decide +kernel) t h
theorem zk_T_0 {t : Nat} (h : t ∈ zt_tabs) : zt_fk t 6 0 = some (zt_su t + 2) := (show ∀ t ∈ zt_tabs, zt_fk t 6 0 = some (zt_su t + 2) by decide +kernel) t h
theorem zk_T_1 {t : Nat} (h : t ∈ zt_tabs) : zt_fk t 6 1 = some (t + 1 + 2) := (show ∀ t ∈ zt_tabs, zt_fk t 6 1 = some (t + 1 + 2) by decide +kernel) t h
theorem zk_T_2 {t : Nat} (h : t ∈ zt_tabs) : zt_fk t 6 2 = some (t + 2 + 2) := (show ∀ t ∈ zt_tabs, zt_fk t 6 2 = some (t + 2 + 2) by decide +kernel) t h
theorem zk_T_3 {t : Nat} (h : t ∈ zt_tabs) : zt_fk t 6 3 = some (t + 3 + 2) := (show ∀ t ∈ zt_tabs, zt_fk t 6 3 = some (t + 3 + 2) by decide +kernel) t h
theorem zk_T_4 {t : Nat} (h : t ∈ zt_tabs) : zt_fk t 6 4 = some (t + 4 + 2) := (show ∀ t ∈ zt_tabs, zt_fk t 6 4 = some (t + 4 + 2) by decide +kernel) t h
theorem zk_T_5 {t : Nat} (h : t ∈ zt_tabs) : zt_fk t 6 5 = some (t + 5 + 2) := (show ∀ t ∈ zt_tabs, zt_fk t 6 5 = some (t + 5 + 2) by decide +kernel) t h
theorem zk_T_6 {t : Nat} (h : t ∈ zt_tabs) : zt_fk t 6 6 = some (t + 6 + 2) := (show ∀ t ∈ zt_tabs, zt_fk t 6 6 = some (t + 6 + 2) by decide +kernel) t h
theorem zk_T_7 {t : Nat} (h : t ∈ zt_tabs) : zt_fk t 6 7 = some (t + 7 + 2) := (show ∀ t ∈ zt_tabs, zt_fk t 6 7 = some (t + 7 + 2) by decide +kernel) t h
theorem zk_T_8 {t : Nat} (h : t ∈ zt_tabs) : zt_fk t 6 8 = some (t + 8 + 2) := (show ∀ t ∈ zt_tabs, zt_fk t 6 8 = some (t + 8 + 2) by decide +kernel) t h
theorem zk_T_9 {t : Nat} (h : t ∈ zt_tabs) : zt_fk t 6 9 = some (t + 9 + 2) := (show ∀ t ∈ zt_tabs, zt_fk t 6 9 = some (t + 9 + 2) by decide +kernel) t h
theorem zk_T_10 {t : Nat} (h : t ∈ zt_tabs) : zt_fk t 6 10 = some 1 := (show ∀ t ∈ zt_tabs, zt_fk t 6 10 = some 1 by decide +kernel) t h
theorem zk_T_11 {t : Nat} (h : t ∈ zt_tabs) : zt_fk t 6 11 = some 0 := (show ∀ t ∈ zt_tabs, zt_fk t 6 11 = some 0 by decide +kernel) t h
theorem zk_T_12 {t : Nat} (h : t ∈ zt_tabs) : zt_fk t 6 12 = some 0 := (show ∀ t ∈ zt_tabs, zt_fk t 6 12 = some 0 by decide +kernel) t h
theorem zk_T_13 {t : Nat} (h : t ∈ zt_tabs) : zt_fk t 6 13 = some 0 := (show ∀ t ∈ zt_tabs, zt_fk t 6 13 = some 0 by decide +kernel) t h
theorem zk_T_14 {t : Nat} (h : t ∈ zt_tabs) : zt_fk t 6 14 = some 0 := (show ∀ t ∈ zt_tabs, zt_fk t 6 14 = some 0 by decide +kernel) t h
theorem zk_T_15 {t : Nat} (h : t ∈ zt_tabs) : zt_fk t 6 15 = some 0 := (show ∀ t ∈ zt_tabs, zt_fk t 6 15 = some 0 by decide +kernel) t h
theorem zk_T_16 {t : Nat} (h : t ∈ zt_tabs) : zt_fk t 6 16 = some 0 := (show ∀ t ∈ zt_tabs, zt_fk t 6 16 = some 0 by decide +kernel) t h
theorem zk_T_17 {t : Nat} (h : t ∈ zt_tabs) : zt_fk t 6 17 = some 0 := (show ∀ t ∈ zt_tabs, zt_fk t 6 17 = some 0 by decide +kernel) t h
theorem zk_T_18 {t : Nat} (h : t ∈ zt_tabs) : zt_fk t 6 18 = some 0 := (show ∀ t ∈ zt_tabs, zt_fk t 6 18 = some 0 by decide +kernel) t h
theorem za_1 : zt_sh[1]? = some (.inl (2, 500)) := by decide +kernel
theorem za_5 : zt_sh[5]? = some (.inl (0, 52)) := by decide +kernel
theorem za_9 : zt_sh[9]? = some (.inl (0, 4)) := by decide +kernel
theorem za_10 : zt_sh[10]? = some (.inl (0, 4)) := by decide +kernel
theorem za_12 : zt_sh[12]? = some (.inl (0, 4)) := by decide +kernel
theorem za_13 : zt_sh[13]? = some (.inl (0, 52)) := by decide +kernel
theorem za_14 : zt_sh[14]? = some (.inl (0, 52)) := by decide +kernel
theorem za_15 : zt_sh[15]? = some (.inl (0, 78)) := by decide +kernel
theorem za_17 : zt_sh[17]? = some (.inl (5, 10)) := by decide +kernel
theorem za_133 : zt_sh[133]? = some (.inl (0, 4)) := by decide +kernel
theorem za_141 : zt_sh[141]? = some (.inl (0, 200)) := by decide +kernel
theorem za_142 : zt_sh[142]? = some (.inl (0, 200)) := by decide +kernel
theorem za_143 : zt_sh[143]? = some (.inl (0, 200)) := by decide +kernel
theorem za_145 : zt_sh[145]? = some (.inl (6, 13)) := by decide +kernel
theorem za_146 : zt_sh[146]? = some (.inl (0, 12)) := by decide +kernel
theorem za_147 : zt_sh[147]? = some (.inl (1, 16384)) := by decide +kernel
theorem za_162 : zt_sh[162]? = some (.inl (2, 51)) := by decide +kernel
theorem za_164 : zt_sh[164]? = some (.inl (0, 274)) := by decide +kernel
theorem za_165 : zt_sh[165]? = some (.inl (0, 274)) := by decide +kernel
theorem za_166 : zt_sh[166]? = some (.inl (0, 274)) := by decide +kernel
theorem za_167 : zt_sh[167]? = some (.inl (0, 2740)) := by decide +kernel
theorem za_168 : zt_sh[168]? = some (.inl (0, 52)) := by decide +kernel
theorem za_169 : zt_sh[169]? = some (.inl (0, 500)) := by decide +kernel
theorem za_170 : zt_sh[170]? = some (.inl (0, 13)) := by decide +kernel
theorem za_171 : zt_sh[171]? = some (.inl (0, 13)) := by decide +kernel
theorem za_172 : zt_sh[172]? = some (.inl (3, 13)) := by decide +kernel
theorem za_173 : zt_sh[173]? = some (.inl (0, 13)) := by decide +kernel
theorem za_174 : zt_sh[174]? = some (.inl (0, 13)) := by decide +kernel
theorem za_175 : zt_sh[175]? = some (.inl (0, 13)) := by decide +kernel
theorem za_176 : zt_sh[176]? = some (.inl (0, 13)) := by decide +kernel
theorem za_177 : zt_sh[177]? = some (.inl (0, 13)) := by decide +kernel
theorem za_178 : zt_sh[178]? = some (.inl (0, 13)) := by decide +kernel
theorem za_179 : zt_sh[179]? = some (.inl (0, 13)) := by decide +kernel
theorem za_180 : zt_sh[180]? = some (.inl (0, 60)) := by decide +kernel
theorem za_181 : zt_sh[181]? = some (.inl (0, 200)) := by decide +kernel
theorem za_182 : zt_sh[182]? = some (.inl (0, 200)) := by decide +kernel
theorem za_183 : zt_sh[183]? = some (.inl (0, 200)) := by decide +kernel
theorem za_184 : zt_sh[184]? = some (.inl (1, 1)) := by decide +kernel
theorem za_185 : zt_sh[185]? = some (.inl (4, 1)) := by decide +kernel
theorem za_T2 {t : Nat} (h : t ∈ zt_tabs) : zt_sh[t + 2]? = some (.inl (1, 4)) := (show ∀ t ∈ zt_tabs, zt_sh[t + 2]? = some (.inl (1, 4)) by decide +kernel) t h
theorem za_T3 {t : Nat} (h : t ∈ zt_tabs) : zt_sh[t + 3]? = some (.inl (0, 4)) := (show ∀ t ∈ zt_tabs, zt_sh[t + 3]? = some (.inl (0, 4)) by decide +kernel) t h
theorem za_T4 {t : Nat} (h : t ∈ zt_tabs) : zt_sh[t + 4]? = some (.inl (0, 4)) := (show ∀ t ∈ zt_tabs, zt_sh[t + 4]? = some (.inl (0, 4)) by decide +kernel) t h
theorem za_T5 {t : Nat} (h : t ∈ zt_tabs) : zt_sh[t + 5]? = some (.inl (0, 4)) := (show ∀ t ∈ zt_tabs, zt_sh[t + 5]? = some (.inl (0, 4)) by decide +kernel) t h
theorem za_T6 {t : Nat} (h : t ∈ zt_tabs) : zt_sh[t + 6]? = some (.inl (0, 4)) := (show ∀ t ∈ zt_tabs, zt_sh[t + 6]? = some (.inl (0, 4)) by decide +kernel) t h
theorem za_T7 {t : Nat} (h : t ∈ zt_tabs) : zt_sh[t + 7]? = some (.inl (0, 52)) := (show ∀ t ∈ zt_tabs, zt_sh[t + 7]? = some (.inl (0, 52)) by decide +kernel) t h
theorem za_T8 {t : Nat} (h : t ∈ zt_tabs) : zt_sh[t + 8]? = some (.inl (0, 52)) := (show ∀ t ∈ zt_tabs, zt_sh[t + 8]? = some (.inl (0, 52)) by decide +kernel) t h
theorem za_T9 {t : Nat} (h : t ∈ zt_tabs) : zt_sh[t + 9]? = some (.inl (0, 78)) := (show ∀ t ∈ zt_tabs, zt_sh[t + 9]? = some (.inl (0, 78)) by decide +kernel) t h
theorem zc_0 : zt_cn 0 = some 10 := by decide +kernel
theorem zc_2 : zt_cn 2 = some 8 := by decide +kernel
theorem zc_3 : zt_cn 3 = some 4 := by decide +kernel
theorem zc_4 : zt_cn 4 = some 2 := by decide +kernel
theorem zc_6 : zt_cn 6 = some 6 := by decide +kernel
theorem zc_7 : zt_cn 7 = some 9 := by decide +kernel
theorem zc_16 : zt_cn 16 = some 1 := by decide +kernel
theorem zc_118 : zt_cn 118 = some 6 := by decide +kernel
theorem zc_128 : zt_cn 128 = some 7 := by decide +kernel
theorem zc_129 : zt_cn 129 = some 4 := by decide +kernel
theorem zc_130 : zt_cn 130 = some 6 := by decide +kernel
theorem zc_140 : zt_cn 140 = some 3 := by decide +kernel
theorem zc_144 : zt_cn 144 = some 5 := by decide +kernel
theorem zc_161 : zt_cn 161 = some 0 := by decide +kernel
theorem zc_163 : zt_cn 163 = some 11 := by decide +kernel
theorem zc_T {t : Nat} (h : t ∈ zt_tabs) : zt_cn t = some 6 := (show ∀ t ∈ zt_tabs, zt_cn t = some 6 by decide +kernel) t h
theorem zc_K {t : Nat} (h : t ∈ zt_tris) : zt_cn t = some 9 := (show ∀ t ∈ zt_tris, zt_cn t = some 9 by decide +kernel) t h
theorem zc_S {t : Nat} (h : t ∈ zt_sets) : zt_cn t = some 4 := (show ∀ t ∈ zt_sets, zt_cn t = some 4 by decide +kernel) t h
theorem zm_T0 {t : Nat} (h : t ∈ zt_tabs) : zt_su t ∈ zt_sets := (show ∀ t ∈ zt_tabs, zt_su t ∈ zt_sets by decide +kernel) t h
theorem zm_T1 {t : Nat} (h : t ∈ zt_tabs) : t + 1 ∈ zt_tris := (show ∀ t ∈ zt_tabs, t + 1 ∈ zt_tris by decide +kernel) t h
theorem zm_145 {j : Int} (h : 0 ≤ j ∧ j < ((13 : Nat) : Int)) : 148 + j.toNat ∈ zt_tris := (show ∀ k < 13, 148 + k ∈ zt_tris by decide +kernel) j.toNat (by omega)
theorem zm_17 {j : Int} (h : 0 ≤ j ∧ j < ((10 : Nat) : Int)) : 18 + 10 * j.toNat ∈ zt_tabs := (show ∀ k < 10, 18 + 10 * k ∈ zt_tabs by decide +kernel) j.toNat (by omega)
theorem zg_145' : ∀ k < 13, zt_g 145 k = some (148 + k) := bt_zg145
theorem zg_17' : ∀ k < 10, zt_g 17 k = some (18 + 10 * k) := bt_zg17
theorem zg_145 {j : Int} (h : 0 ≤ j ∧ j < ((13 : Nat) : Int)) : zt_g 145 j.toNat = some (148 + j.toNat) := zg_145' j.toNat (by omega)
theorem zg_17 {j : Int} (h : 0 ≤ j ∧ j < ((10 : Nat) : Int)) : zt_g 17 j.toNat = some (18 + 10 * j.toNat) := zg_17' j.toNat (by omega)
theorem zw_0 : zt_isS (q_big + 1 + 0) := ⟨Nat.le_of_ble_eq_true rfl, by decide +kernel⟩
theorem zw_1 : zt_isS (q_big + 1 + 1) := ⟨Nat.le_of_ble_eq_true rfl, by decide +kernel⟩
theorem zw_2 : zt_isS (q_big + 1 + 2) := ⟨Nat.le_of_ble_eq_true rfl, by decide +kernel⟩
theorem zw_3 : zt_isS (q_big + 1 + 3) := ⟨Nat.le_of_ble_eq_true rfl, by decide +kernel⟩
theorem zw_4 : zt_isS (q_big + 1 + 4) := ⟨Nat.le_of_ble_eq_true rfl, by decide +kernel⟩
theorem zw_5 : zt_isS (q_big + 1 + 5) := ⟨Nat.le_of_ble_eq_true rfl, by decide +kernel⟩
theorem zw_6 : zt_isS (q_big + 1 + 6) := ⟨Nat.le_of_ble_eq_true rfl, by decide +kernel⟩
theorem zw_7 : zt_isS (q_big + 1 + 7) := ⟨Nat.le_of_ble_eq_true rfl, by decide +kernel⟩
theorem zw_8 : zt_isS (q_big + 1 + 8) := ⟨Nat.le_of_ble_eq_true rfl, by decide +kernel⟩
theorem zw_9 : zt_isS (q_big + 1 + 9) := ⟨Nat.le_of_ble_eq_true rfl, by decide +kernel⟩
theorem zw_10 : zt_isS (q_big + 1 + 10) := ⟨Nat.le_of_ble_eq_true rfl, by decide +kernel⟩
theorem zw_11 : zt_isS (q_big + 1 + 11) := ⟨Nat.le_of_ble_eq_true rfl, by decide +kernel⟩
theorem zw_12 : zt_isS (q_big + 1 + 12) := ⟨Nat.le_of_ble_eq_true rfl, by decide +kernel⟩
theorem zw_13 : zt_isS (q_big + 1 + 13) := ⟨Nat.le_of_ble_eq_true rfl, by decide +kernel⟩
theorem zw_14 : zt_isS (q_big + 1 + 14) := ⟨Nat.le_of_ble_eq_true rfl, by decide +kernel⟩
theorem zw_15 : zt_isS (q_big + 1 + 15) := ⟨Nat.le_of_ble_eq_true rfl, by decide +kernel⟩
theorem zw_16 : zt_isS (q_big + 1 + 16) := ⟨Nat.le_of_ble_eq_true rfl, by decide +kernel⟩
theorem zw_17 : zt_isS (q_big + 1 + 17) := ⟨Nat.le_of_ble_eq_true rfl, by decide +kernel⟩
theorem zw_18 : zt_isS (q_big + 1 + 18) := ⟨Nat.le_of_ble_eq_true rfl, by decide +kernel⟩
theorem zw_19 : zt_isS (q_big + 1 + 19) := ⟨Nat.le_of_ble_eq_true rfl, by decide +kernel⟩
theorem zw_20 : zt_isS (q_big + 1 + 20) := ⟨Nat.le_of_ble_eq_true rfl, by decide +kernel⟩
theorem zw_21 : zt_isS (q_big + 1 + 21) := ⟨Nat.le_of_ble_eq_true rfl, by decide +kernel⟩
theorem zw_22 : zt_isS (q_big + 1 + 22) := ⟨Nat.le_of_ble_eq_true rfl, by decide +kernel⟩
