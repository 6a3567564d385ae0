theorem zkA : ∀ m, m < 148 → (zcode m).all (zck m) = true := lt_s (lt_s (lt_s (lt_s (lt_s (lt_s (lt_s (lt_s (lt_s (lt_s (lt_s (lt_s (lt_s (lt_s (lt_s (lt_s (lt_s (lt_s (lt_s (lt_s (lt_s (lt_s (lt_s (lt_s (lt_s (lt_s (lt_s (lt_s (lt_s (lt_s (lt_s (lt_s (lt_s (lt_s (lt_s (lt_s (lt_s (lt_s (lt_s (lt_s (lt_s (lt_s (lt_s (lt_s (lt_s (lt_s (lt_s (lt_s (lt_s (lt_s (lt_s (lt_s (lt_s (lt_s (lt_s (lt_s (lt_s (lt_s (lt_s (lt_s (lt_s (lt_s (lt_s (lt_s (lt_s (lt_s (lt_s (lt_s (lt_s (lt_s (lt_s (lt_s (lt_s (lt_s (lt_s (lt_s (lt_s (lt_s (lt_s (lt_s (lt_s (lt_s (lt_s (lt_s (lt_s (lt_s (lt_s (lt_s (lt_s (lt_s (lt_s (lt_s (lt_s (lt_s (lt_s (lt_s (lt_s (lt_s (lt_s (lt_s (lt_s (lt_s (lt_s (lt_s (lt_s (lt_s (lt_s (lt_s (lt_s (lt_s (lt_s (lt_s (lt_s (lt_s (lt_s (lt_s (lt_s (lt_s (lt_s (lt_s (lt_s (lt_s (lt_s (lt_s (lt_s (lt_s (lt_s (lt_s (lt_s (lt_s (lt_s (lt_s (lt_s (lt_s (lt_s (lt_s (lt_s (lt_s (lt_s (lt_s (lt_s (lt_s (lt_s (lt_s (lt_s (lt_s (lt_s (lt_s (lt_0) zk_0) zk_1) zk_2) zk_3) zk_4) zk_5) zk_6) zk_7) zk_8) zk_9) zk_10) zk_11) zk_12) zk_13) zk_14) zk_15) zk_16) zk_17) zk_18) zk_19) zk_20) zk_21) zk_22) zk_23) zk_24) zk_25) zk_26) zk_27) zk_28) zk_29) zk_30) zk_31) zk_32) zk_33) zk_34) zk_35) zk_36) zk_37) zk_38) zk_39) zk_40) zk_41) zk_42) zk_43) zk_44) zk_45) zk_46) zk_47) zk_48) zk_49) zk_50) zk_51) zk_52) zk_53) zk_54) zk_55) zk_56) zk_57) zk_58) zk_59) zk_60) zk_61) zk_62) zk_63) zk_64) zk_65) zk_66) zk_67) zk_68) zk_69) zk_70) zk_71) zk_72) zk_73) zk_74) zk_75) zk_76) zk_77) zk_78) zk_79) zk_80) zk_81) zk_82) zk_83) zk_84) zk_85) zk_86) zk_87) zk_88) zk_89) zk_90) zk_91) zk_92) zk_93) zk_94) zk_95) zk_96) zk_97) zk_98) zk_99) zk_100) zk_101) zk_102) zk_103) zk_104) zk_105) zk_106) zk_107) zk_108) zk_109) zk_110) zk_111) zk_112) zk_113) zk_114) zk_115) zk_116) zk_117) zk_118) zk_119) zk_120) zk_121) zk_122) zk_123) zk_124) zk_125) zk_126) zk_127) zk_128) zk_129) zk_130) zk_131) zk_132) zk_133) zk_134) zk_135) zk_136) zk_137) zk_138) zk_139) zk_140) zk_141) zk_142) zk_143) zk_144) zk_145) zk_146) zk_147
theorem zlk {l : List (Nat × MI)} {pc : Nat} {i : MI} (h : l.lookup pc = some i) : (pc, i) ∈ l := by
  induction l with
  | nil => simp at h
  | cons q l ih =>
    obtain ⟨a, b⟩ := q
    rw [List.lookup_cons] at h
    split at h
    · rename_i e
      have e1 : pc = a := by simpa using e
      cases h
      rw [e1]
      exact List.mem_cons_self
    · exact List.mem_cons_of_mem _ (ih h)
theorem zdc {m pc : Nat} {i : MI} (h : cod m pc = some i) : decode (zby m) pc = .ok (dcd pc i) ∧ wck (zyn m).cls i = true ∧ bck pc i = true ∧ m < 148 := by
  by_cases hm : m < 148
  · have h1 := List.all_eq_true.mp (zkA m hm) _ (zlk h)
    simp only [zck, Bool.and_eq_true, decide_eq_true_eq] at h1
    exact ⟨h1.1.1, h1.1.2, h1.2, hm⟩
  · have e : zcode m = [] := by
      have hl : zcL.length = 148 := by decide +kernel
      unfold zcode
      rw [List.getD_eq_getElem?_getD, List.getElem?_eq_none (by omega)]
      rfl
    unfold cod at h
    rw [e] at h
    simp at h
def zmk (m : Nat) : Bool :=
  (if zst m then inW (zwp m).2.1 (.static (zyn m)) else inW (zwp m).2.1 (.instanceMethod (zyn m))) &&
  (zst m || decide ((zyn m).name = "<init>") || inW (zwp m).2.2.1 (.selects (zyn m).cls (zyn m) (zyn m))) &&
  inW (zwp m).2.2.2 (.initialized (zyn m).cls) && plainName (zyn m).cls && decide ((zyn m).cls ≠ "java/lang/invoke/MethodHandle" ∧ (zyn m).cls ≠ "java/lang/invoke/VarHandle") &&
  decide ((parseMethodDescriptor (zyn m).desc).map (fun d => d.parameters.length) = some (zna m)) && decide (zml m ≤ 14)
theorem zmkA : (List.range 147).all zmk = true := by decide +kernel
def zcw (m : Nat) : Cond := if (ztb m).isEmpty then .code (zyn m) (zby m) (zml m) (zrt m) else .codeWith (zyn m) (zby m) (zml m) (zrt m) (ztb m)

set_option maxRecDepth 50000 in
theorem zcw_0 : lw_tbl[163]? = some (zcw 0) := rfl
set_option maxRecDepth 50000 in
theorem zcw_1 : lw_tbl[690]? = some (zcw 1) := rfl
set_option maxRecDepth 50000 in
theorem zcw_2 : lw_tbl[730]? = some (zcw 2) := rfl
set_option maxRecDepth 50000 in
theorem zcw_3 : lw_tbl[157]? = some (zcw 3) := rfl
set_option maxRecDepth 50000 in
theorem zcw_4 : lw_tbl[694]? = some (zcw 4) := rfl
set_option maxRecDepth 50000 in
theorem zcw_5 : lw_tbl[701]? = some (zcw 5) := rfl
set_option maxRecDepth 50000 in
theorem zcw_6 : lw_tbl[709]? = some (zcw 6) := rfl
set_option maxRecDepth 50000 in
theorem zcw_7 : lw_tbl[717]? = some (zcw 7) := rfl
set_option maxRecDepth 50000 in
theorem zcw_8 : lw_tbl[259]? = some (zcw 8) := rfl
set_option maxRecDepth 50000 in
theorem zcw_9 : lw_tbl[686]? = some (zcw 9) := rfl
set_option maxRecDepth 50000 in
theorem zcw_10 : lw_tbl[135]? = some (zcw 10) := rfl
set_option maxRecDepth 50000 in
theorem zcw_11 : lw_tbl[669]? = some (zcw 11) := rfl
set_option maxRecDepth 50000 in
theorem zcw_12 : lw_tbl[657]? = some (zcw 12) := rfl
set_option maxRecDepth 50000 in
theorem zcw_13 : lw_tbl[561]? = some (zcw 13) := rfl
set_option maxRecDepth 50000 in
theorem zcw_14 : lw_tbl[550]? = some (zcw 14) := rfl
set_option maxRecDepth 50000 in
theorem zcw_15 : lw_tbl[554]? = some (zcw 15) := rfl
set_option maxRecDepth 50000 in
theorem zcw_16 : lw_tbl[327]? = some (zcw 16) := rfl
set_option maxRecDepth 50000 in
theorem zcw_17 : lw_tbl[792]? = some (zcw 17) := rfl
set_option maxRecDepth 50000 in
theorem zcw_18 : lw_tbl[966]? = some (zcw 18) := rfl
set_option maxRecDepth 50000 in
theorem zcw_19 : lw_tbl[796]? = some (zcw 19) := rfl
set_option maxRecDepth 50000 in
theorem zcw_20 : lw_tbl[801]? = some (zcw 20) := rfl
set_option maxRecDepth 50000 in
theorem zcw_21 : lw_tbl[811]? = some (zcw 21) := rfl
set_option maxRecDepth 50000 in
theorem zcw_22 : lw_tbl[806]? = some (zcw 22) := rfl
set_option maxRecDepth 50000 in
theorem zcw_23 : lw_tbl[129]? = some (zcw 23) := rfl
set_option maxRecDepth 50000 in
theorem zcw_24 : lw_tbl[579]? = some (zcw 24) := rfl
set_option maxRecDepth 50000 in
theorem zcw_25 : lw_tbl[583]? = some (zcw 25) := rfl
set_option maxRecDepth 50000 in
theorem zcw_26 : lw_tbl[665]? = some (zcw 26) := rfl
set_option maxRecDepth 50000 in
theorem zcw_27 : lw_tbl[678]? = some (zcw 27) := rfl
set_option maxRecDepth 50000 in
theorem zcw_28 : lw_tbl[751]? = some (zcw 28) := rfl
set_option maxRecDepth 50000 in
theorem zcw_29 : lw_tbl[738]? = some (zcw 29) := rfl
set_option maxRecDepth 50000 in
theorem zcw_30 : lw_tbl[742]? = some (zcw 30) := rfl
set_option maxRecDepth 50000 in
theorem zcw_31 : lw_tbl[747]? = some (zcw 31) := rfl
set_option maxRecDepth 50000 in
theorem zcw_32 : lw_tbl[758]? = some (zcw 32) := rfl
set_option maxRecDepth 50000 in
theorem zcw_33 : lw_tbl[762]? = some (zcw 33) := rfl
set_option maxRecDepth 50000 in
theorem zcw_34 : lw_tbl[766]? = some (zcw 34) := rfl
set_option maxRecDepth 50000 in
theorem zcw_35 : lw_tbl[527]? = some (zcw 35) := rfl
set_option maxRecDepth 50000 in
theorem zcw_36 : lw_tbl[780]? = some (zcw 36) := rfl
set_option maxRecDepth 50000 in
theorem zcw_37 : lw_tbl[566]? = some (zcw 37) := rfl
set_option maxRecDepth 50000 in
theorem zcw_38 : lw_tbl[770]? = some (zcw 38) := rfl
set_option maxRecDepth 50000 in
theorem zcw_39 : lw_tbl[776]? = some (zcw 39) := rfl
set_option maxRecDepth 50000 in
theorem zcw_40 : lw_tbl[784]? = some (zcw 40) := rfl
set_option maxRecDepth 50000 in
theorem zcw_41 : lw_tbl[788]? = some (zcw 41) := rfl
set_option maxRecDepth 50000 in
theorem zcw_42 : lw_tbl[102]? = some (zcw 42) := rfl
set_option maxRecDepth 50000 in
theorem zcw_43 : lw_tbl[594]? = some (zcw 43) := rfl
set_option maxRecDepth 50000 in
theorem zcw_44 : lw_tbl[600]? = some (zcw 44) := rfl
set_option maxRecDepth 50000 in
theorem zcw_45 : lw_tbl[608]? = some (zcw 45) := rfl
set_option maxRecDepth 50000 in
theorem zcw_46 : lw_tbl[623]? = some (zcw 46) := rfl
set_option maxRecDepth 50000 in
theorem zcw_47 : lw_tbl[651]? = some (zcw 47) := rfl
set_option maxRecDepth 50000 in
theorem zcw_48 : lw_tbl[627]? = some (zcw 48) := rfl
set_option maxRecDepth 50000 in
theorem zcw_49 : lw_tbl[615]? = some (zcw 49) := rfl
set_option maxRecDepth 50000 in
theorem zcw_50 : lw_tbl[612]? = some (zcw 50) := rfl
set_option maxRecDepth 50000 in
theorem zcw_51 : lw_tbl[604]? = some (zcw 51) := rfl
set_option maxRecDepth 50000 in
theorem zcw_52 : lw_tbl[619]? = some (zcw 52) := rfl
set_option maxRecDepth 50000 in
theorem zcw_53 : lw_tbl[674]? = some (zcw 53) := rfl
set_option maxRecDepth 50000 in
theorem zcw_54 : lw_tbl[631]? = some (zcw 54) := rfl
set_option maxRecDepth 50000 in
theorem zcw_55 : lw_tbl[635]? = some (zcw 55) := rfl
set_option maxRecDepth 50000 in
theorem zcw_56 : lw_tbl[682]? = some (zcw 56) := rfl
set_option maxRecDepth 50000 in
theorem zcw_57 : lw_tbl[640]? = some (zcw 57) := rfl
set_option maxRecDepth 50000 in
theorem zcw_58 : lw_tbl[645]? = some (zcw 58) := rfl
set_option maxRecDepth 50000 in
theorem zcw_59 : lw_tbl[420]? = some (zcw 59) := rfl
set_option maxRecDepth 50000 in
theorem zcw_60 : lw_tbl[1006]? = some (zcw 60) := rfl
set_option maxRecDepth 50000 in
theorem zcw_61 : lw_tbl[466]? = some (zcw 61) := rfl
set_option maxRecDepth 50000 in
theorem zcw_62 : lw_tbl[531]? = some (zcw 62) := rfl
set_option maxRecDepth 50000 in
theorem zcw_63 : lw_tbl[572]? = some (zcw 63) := rfl
set_option maxRecDepth 50000 in
theorem zcw_64 : lw_tbl[540]? = some (zcw 64) := rfl
set_option maxRecDepth 50000 in
theorem zcw_65 : lw_tbl[546]? = some (zcw 65) := rfl
set_option maxRecDepth 50000 in
theorem zcw_66 : lw_tbl[523]? = some (zcw 66) := rfl
set_option maxRecDepth 50000 in
theorem zcw_67 : lw_tbl[471]? = some (zcw 67) := rfl
set_option maxRecDepth 50000 in
theorem zcw_68 : lw_tbl[535]? = some (zcw 68) := rfl
set_option maxRecDepth 50000 in
theorem zcw_69 : lw_tbl[94]? = some (zcw 69) := rfl
set_option maxRecDepth 50000 in
theorem zcw_70 : lw_tbl[819]? = some (zcw 70) := rfl
set_option maxRecDepth 50000 in
theorem zcw_71 : lw_tbl[891]? = some (zcw 71) := rfl
set_option maxRecDepth 50000 in
theorem zcw_72 : lw_tbl[915]? = some (zcw 72) := rfl
set_option maxRecDepth 50000 in
theorem zcw_73 : lw_tbl[953]? = some (zcw 73) := rfl
set_option maxRecDepth 50000 in
theorem zcw_74 : lw_tbl[450]? = some (zcw 74) := rfl
set_option maxRecDepth 50000 in
theorem zcw_75 : lw_tbl[454]? = some (zcw 75) := rfl
set_option maxRecDepth 50000 in
theorem zcw_76 : lw_tbl[962]? = some (zcw 76) := rfl
set_option maxRecDepth 50000 in
theorem zcw_77 : lw_tbl[458]? = some (zcw 77) := rfl
set_option maxRecDepth 50000 in
theorem zcw_78 : lw_tbl[973]? = some (zcw 78) := rfl
set_option maxRecDepth 50000 in
theorem zcw_79 : lw_tbl[980]? = some (zcw 79) := rfl
set_option maxRecDepth 50000 in
theorem zcw_80 : lw_tbl[988]? = some (zcw 80) := rfl
set_option maxRecDepth 50000 in
theorem zcw_81 : lw_tbl[995]? = some (zcw 81) := rfl
set_option maxRecDepth 50000 in
theorem zcw_82 : lw_tbl[462]? = some (zcw 82) := rfl
set_option maxRecDepth 50000 in
theorem zcw_83 : lw_tbl[1002]? = some (zcw 83) := rfl
set_option maxRecDepth 50000 in
theorem zcw_84 : lw_tbl[705]? = some (zcw 84) := rfl
set_option maxRecDepth 50000 in
theorem zcw_85 : lw_tbl[1011]? = some (zcw 85) := rfl
set_option maxRecDepth 50000 in
theorem zcw_86 : lw_tbl[1185]? = some (zcw 86) := rfl
set_option maxRecDepth 50000 in
theorem zcw_87 : lw_tbl[1189]? = some (zcw 87) := rfl
set_option maxRecDepth 50000 in
theorem zcw_88 : lw_tbl[1210]? = some (zcw 88) := rfl
set_option maxRecDepth 50000 in
theorem zcw_89 : lw_tbl[1230]? = some (zcw 89) := rfl
set_option maxRecDepth 50000 in
theorem zcw_90 : lw_tbl[1227]? = some (zcw 90) := rfl
set_option maxRecDepth 50000 in
theorem zcw_91 : lw_tbl[1223]? = some (zcw 91) := rfl
set_option maxRecDepth 50000 in
theorem zcw_92 : lw_tbl[1206]? = some (zcw 92) := rfl
set_option maxRecDepth 50000 in
theorem zcw_93 : lw_tbl[1294]? = some (zcw 93) := rfl
set_option maxRecDepth 50000 in
theorem zcw_94 : lw_tbl[1239]? = some (zcw 94) := rfl
set_option maxRecDepth 50000 in
theorem zcw_95 : lw_tbl[1234]? = some (zcw 95) := rfl
set_option maxRecDepth 50000 in
theorem zcw_96 : lw_tbl[1275]? = some (zcw 96) := rfl
set_option maxRecDepth 50000 in
theorem zcw_97 : lw_tbl[1280]? = some (zcw 97) := rfl
set_option maxRecDepth 50000 in
theorem zcw_98 : lw_tbl[1258]? = some (zcw 98) := rfl
set_option maxRecDepth 50000 in
theorem zcw_99 : lw_tbl[1264]? = some (zcw 99) := rfl
set_option maxRecDepth 50000 in
theorem zcw_100 : lw_tbl[1270]? = some (zcw 100) := rfl
set_option maxRecDepth 50000 in
theorem zcw_101 : lw_tbl[1284]? = some (zcw 101) := rfl
set_option maxRecDepth 50000 in
theorem zcw_102 : lw_tbl[1201]? = some (zcw 102) := rfl
set_option maxRecDepth 50000 in
theorem zcw_103 : lw_tbl[1303]? = some (zcw 103) := rfl
set_option maxRecDepth 50000 in
theorem zcw_104 : lw_tbl[1307]? = some (zcw 104) := rfl
set_option maxRecDepth 50000 in
theorem zcw_105 : lw_tbl[1311]? = some (zcw 105) := rfl
set_option maxRecDepth 50000 in
theorem zcw_106 : lw_tbl[1215]? = some (zcw 106) := rfl
set_option maxRecDepth 50000 in
theorem zcw_107 : lw_tbl[1247]? = some (zcw 107) := rfl
set_option maxRecDepth 50000 in
theorem zcw_108 : lw_tbl[1243]? = some (zcw 108) := rfl
set_option maxRecDepth 50000 in
theorem zcw_109 : lw_tbl[1253]? = some (zcw 109) := rfl
set_option maxRecDepth 50000 in
theorem zcw_110 : lw_tbl[1290]? = some (zcw 110) := rfl
set_option maxRecDepth 50000 in
theorem zcw_111 : lw_tbl[1219]? = some (zcw 111) := rfl
set_option maxRecDepth 50000 in
theorem zcw_112 : lw_tbl[1299]? = some (zcw 112) := rfl
set_option maxRecDepth 50000 in
theorem zcw_113 : lw_tbl[1323]? = some (zcw 113) := rfl
set_option maxRecDepth 50000 in
theorem zcw_114 : lw_tbl[1319]? = some (zcw 114) := rfl
set_option maxRecDepth 50000 in
theorem zcw_115 : lw_tbl[1331]? = some (zcw 115) := rfl
set_option maxRecDepth 50000 in
theorem zcw_116 : lw_tbl[1327]? = some (zcw 116) := rfl
set_option maxRecDepth 50000 in
theorem zcw_117 : lw_tbl[1197]? = some (zcw 117) := rfl
set_option maxRecDepth 50000 in
theorem zcw_118 : lw_tbl[1193]? = some (zcw 118) := rfl
set_option maxRecDepth 50000 in
theorem zcw_119 : lw_tbl[1340]? = some (zcw 119) := rfl
set_option maxRecDepth 50000 in
theorem zcw_120 : lw_tbl[1336]? = some (zcw 120) := rfl
set_option maxRecDepth 50000 in
theorem zcw_121 : lw_tbl[1344]? = some (zcw 121) := rfl
set_option maxRecDepth 50000 in
theorem zcw_122 : lw_tbl[1348]? = some (zcw 122) := rfl
set_option maxRecDepth 50000 in
theorem zcw_123 : lw_tbl[1352]? = some (zcw 123) := rfl
set_option maxRecDepth 50000 in
theorem zcw_124 : lw_tbl[1356]? = some (zcw 124) := rfl
set_option maxRecDepth 50000 in
theorem zcw_125 : lw_tbl[1360]? = some (zcw 125) := rfl
set_option maxRecDepth 50000 in
theorem zcw_126 : lw_tbl[1364]? = some (zcw 126) := rfl
set_option maxRecDepth 50000 in
theorem zcw_127 : lw_tbl[1368]? = some (zcw 127) := rfl
set_option maxRecDepth 50000 in
theorem zcw_128 : lw_tbl[1372]? = some (zcw 128) := rfl
set_option maxRecDepth 50000 in
theorem zcw_129 : lw_tbl[1376]? = some (zcw 129) := rfl
set_option maxRecDepth 50000 in
theorem zcw_130 : lw_tbl[1390]? = some (zcw 130) := rfl
set_option maxRecDepth 50000 in
theorem zcw_131 : lw_tbl[1385]? = some (zcw 131) := rfl
set_option maxRecDepth 50000 in
theorem zcw_132 : lw_tbl[1398]? = some (zcw 132) := rfl
set_option maxRecDepth 50000 in
theorem zcw_133 : lw_tbl[1403]? = some (zcw 133) := rfl
set_option maxRecDepth 50000 in
theorem zcw_134 : lw_tbl[1394]? = some (zcw 134) := rfl
set_option maxRecDepth 50000 in
theorem zcw_135 : lw_tbl[1380]? = some (zcw 135) := rfl
set_option maxRecDepth 50000 in
theorem zcw_136 : lw_tbl[1417]? = some (zcw 136) := rfl
set_option maxRecDepth 50000 in
theorem zcw_137 : lw_tbl[814]? = some (zcw 137) := rfl
set_option maxRecDepth 50000 in
theorem zcw_138 : lw_tbl[886]? = some (zcw 138) := rfl
set_option maxRecDepth 50000 in
theorem zcw_139 : lw_tbl[909]? = some (zcw 139) := rfl
set_option maxRecDepth 50000 in
theorem zcw_140 : lw_tbl[949]? = some (zcw 140) := rfl
set_option maxRecDepth 50000 in
theorem zcw_141 : lw_tbl[958]? = some (zcw 141) := rfl
set_option maxRecDepth 50000 in
theorem zcw_142 : lw_tbl[969]? = some (zcw 142) := rfl
set_option maxRecDepth 50000 in
theorem zcw_143 : lw_tbl[976]? = some (zcw 143) := rfl
set_option maxRecDepth 50000 in
theorem zcw_144 : lw_tbl[984]? = some (zcw 144) := rfl
set_option maxRecDepth 50000 in
theorem zcw_145 : lw_tbl[991]? = some (zcw 145) := rfl
set_option maxRecDepth 50000 in
theorem zcw_146 : lw_tbl[998]? = some (zcw 146) := rfl
theorem zcwA : ∀ m, m < 147 → zcw m ∈ lw_tbl := lt_s (lt_s (lt_s (lt_s (lt_s (lt_s (lt_s (lt_s (lt_s (lt_s (lt_s (lt_s (lt_s (lt_s (lt_s (lt_s (lt_s (lt_s (lt_s (lt_s (lt_s (lt_s (lt_s (lt_s (lt_s (lt_s (lt_s (lt_s (lt_s (lt_s (lt_s (lt_s (lt_s (lt_s (lt_s (lt_s (lt_s (lt_s (lt_s (lt_s (lt_s (lt_s (lt_s (lt_s (lt_s (lt_s (lt_s (lt_s (lt_s (lt_s (lt_s (lt_s (lt_s (lt_s (lt_s (lt_s (lt_s (lt_s (lt_s (lt_s (lt_s (lt_s (lt_s (lt_s (lt_s (lt_s (lt_s (lt_s (lt_s (lt_s (lt_s (lt_s (lt_s (lt_s (lt_s (lt_s (lt_s (lt_s (lt_s (lt_s (lt_s (lt_s (lt_s (lt_s (lt_s (lt_s (lt_s (lt_s (lt_s (lt_s (lt_s (lt_s (lt_s (lt_s (lt_s (lt_s (lt_s (lt_s (lt_s (lt_s (lt_s (lt_s (lt_s (lt_s (lt_s (lt_s (lt_s (lt_s (lt_s (lt_s (lt_s (lt_s (lt_s (lt_s (lt_s (lt_s (lt_s (lt_s (lt_s (lt_s (lt_s (lt_s (lt_s (lt_s (lt_s (lt_s (lt_s (lt_s (lt_s (lt_s (lt_s (lt_s (lt_s (lt_s (lt_s (lt_s (lt_s (lt_s (lt_s (lt_s (lt_s (lt_s (lt_s (lt_s (lt_s (lt_s (lt_s (lt_0) (List.mem_of_getElem? zcw_0)) (List.mem_of_getElem? zcw_1)) (List.mem_of_getElem? zcw_2)) (List.mem_of_getElem? zcw_3)) (List.mem_of_getElem? zcw_4)) (List.mem_of_getElem? zcw_5)) (List.mem_of_getElem? zcw_6)) (List.mem_of_getElem? zcw_7)) (List.mem_of_getElem? zcw_8)) (List.mem_of_getElem? zcw_9)) (List.mem_of_getElem? zcw_10)) (List.mem_of_getElem? zcw_11)) (List.mem_of_getElem? zcw_12)) (List.mem_of_getElem? zcw_13)) (List.mem_of_getElem? zcw_14)) (List.mem_of_getElem? zcw_15)) (List.mem_of_getElem? zcw_16)) (List.mem_of_getElem? zcw_17)) (List.mem_of_getElem? zcw_18)) (List.mem_of_getElem? zcw_19)) (List.mem_of_getElem? zcw_20)) (List.mem_of_getElem? zcw_21)) (List.mem_of_getElem? zcw_22)) (List.mem_of_getElem? zcw_23)) (List.mem_of_getElem? zcw_24)) (List.mem_of_getElem? zcw_25)) (List.mem_of_getElem? zcw_26)) (List.mem_of_getElem? zcw_27)) (List.mem_of_getElem? zcw_28)) (List.mem_of_getElem? zcw_29)) (List.mem_of_getElem? zcw_30)) (List.mem_of_getElem? zcw_31)) (List.mem_of_getElem? zcw_32)) (List.mem_of_getElem? zcw_33)) (List.mem_of_getElem? zcw_34)) (List.mem_of_getElem? zcw_35)) (List.mem_of_getElem? zcw_36)) (List.mem_of_getElem? zcw_37)) (List.mem_of_getElem? zcw_38)) (List.mem_of_getElem? zcw_39)) (List.mem_of_getElem? zcw_40)) (List.mem_of_getElem? zcw_41)) (List.mem_of_getElem? zcw_42)) (List.mem_of_getElem? zcw_43)) (List.mem_of_getElem? zcw_44)) (List.mem_of_getElem? zcw_45)) (List.mem_of_getElem? zcw_46)) (List.mem_of_getElem? zcw_47)) (List.mem_of_getElem? zcw_48)) (List.mem_of_getElem? zcw_49)) (List.mem_of_getElem? zcw_50)) (List.mem_of_getElem? zcw_51)) (List.mem_of_getElem? zcw_52)) (List.mem_of_getElem? zcw_53)) (List.mem_of_getElem? zcw_54)) (List.mem_of_getElem? zcw_55)) (List.mem_of_getElem? zcw_56)) (List.mem_of_getElem? zcw_57)) (List.mem_of_getElem? zcw_58)) (List.mem_of_getElem? zcw_59)) (List.mem_of_getElem? zcw_60)) (List.mem_of_getElem? zcw_61)) (List.mem_of_getElem? zcw_62)) (List.mem_of_getElem? zcw_63)) (List.mem_of_getElem? zcw_64)) (List.mem_of_getElem? zcw_65)) (List.mem_of_getElem? zcw_66)) (List.mem_of_getElem? zcw_67)) (List.mem_of_getElem? zcw_68)) (List.mem_of_getElem? zcw_69)) (List.mem_of_getElem? zcw_70)) (List.mem_of_getElem? zcw_71)) (List.mem_of_getElem? zcw_72)) (List.mem_of_getElem? zcw_73)) (List.mem_of_getElem? zcw_74)) (List.mem_of_getElem? zcw_75)) (List.mem_of_getElem? zcw_76)) (List.mem_of_getElem? zcw_77)) (List.mem_of_getElem? zcw_78)) (List.mem_of_getElem? zcw_79)) (List.mem_of_getElem? zcw_80)) (List.mem_of_getElem? zcw_81)) (List.mem_of_getElem? zcw_82)) (List.mem_of_getElem? zcw_83)) (List.mem_of_getElem? zcw_84)) (List.mem_of_getElem? zcw_85)) (List.mem_of_getElem? zcw_86)) (List.mem_of_getElem? zcw_87)) (List.mem_of_getElem? zcw_88)) (List.mem_of_getElem? zcw_89)) (List.mem_of_getElem? zcw_90)) (List.mem_of_getElem? zcw_91)) (List.mem_of_getElem? zcw_92)) (List.mem_of_getElem? zcw_93)) (List.mem_of_getElem? zcw_94)) (List.mem_of_getElem? zcw_95)) (List.mem_of_getElem? zcw_96)) (List.mem_of_getElem? zcw_97)) (List.mem_of_getElem? zcw_98)) (List.mem_of_getElem? zcw_99)) (List.mem_of_getElem? zcw_100)) (List.mem_of_getElem? zcw_101)) (List.mem_of_getElem? zcw_102)) (List.mem_of_getElem? zcw_103)) (List.mem_of_getElem? zcw_104)) (List.mem_of_getElem? zcw_105)) (List.mem_of_getElem? zcw_106)) (List.mem_of_getElem? zcw_107)) (List.mem_of_getElem? zcw_108)) (List.mem_of_getElem? zcw_109)) (List.mem_of_getElem? zcw_110)) (List.mem_of_getElem? zcw_111)) (List.mem_of_getElem? zcw_112)) (List.mem_of_getElem? zcw_113)) (List.mem_of_getElem? zcw_114)) (List.mem_of_getElem? zcw_115)) (List.mem_of_getElem? zcw_116)) (List.mem_of_getElem? zcw_117)) (List.mem_of_getElem? zcw_118)) (List.mem_of_getElem? zcw_119)) (List.mem_of_getElem? zcw_120)) (List.mem_of_getElem? zcw_121)) (List.mem_of_getElem? zcw_122)) (List.mem_of_getElem? zcw_123)) (List.mem_of_getElem? zcw_124)) (List.mem_of_getElem? zcw_125)) (List.mem_of_getElem? zcw_126)) (List.mem_of_getElem? zcw_127)) (List.mem_of_getElem? zcw_128)) (List.mem_of_getElem? zcw_129)) (List.mem_of_getElem? zcw_130)) (List.mem_of_getElem? zcw_131)) (List.mem_of_getElem? zcw_132)) (List.mem_of_getElem? zcw_133)) (List.mem_of_getElem? zcw_134)) (List.mem_of_getElem? zcw_135)) (List.mem_of_getElem? zcw_136)) (List.mem_of_getElem? zcw_137)) (List.mem_of_getElem? zcw_138)) (List.mem_of_getElem? zcw_139)) (List.mem_of_getElem? zcw_140)) (List.mem_of_getElem? zcw_141)) (List.mem_of_getElem? zcw_142)) (List.mem_of_getElem? zcw_143)) (List.mem_of_getElem? zcw_144)) (List.mem_of_getElem? zcw_145)) (List.mem_of_getElem? zcw_146)
theorem zcwG (m : Nat) (hm : m < 147) : zcw m ∈ gW := by
  refine List.mem_filter.mpr ⟨zcwA m hm, ?_⟩
  unfold zcw
  split <;> rfl
def zty (b k : Nat) : FieldType := (parseFieldDescriptor (zfD b k).2.2.1).getD .int
def ztc (t : FieldType) (n : Nat) : Bool := match t with
  | .int => n == 0
  | .boolean => n == 1
  | .object _ => n == 4
  | .array _ => n == 4
  | _ => false
def zinL : List Nat := [160, 154, 256, 132, 324, 126, 99, 417, 91, 1008]
def ziiL : List Nat := [72, 71, 73, 70, 74, 69, 68, 75, 67, 76]
def zclk (b : Nat) : Bool :=
  (List.range (znF b)).all (fun k => inW ((zlayL.getD b []).getD k 0) (u_lay (zcn b) (zT b) k) && decide (parseFieldDescriptor (zT b k).2.2.1 = some (zty b k)) && ztc (zty b k) (zft b k) && (List.range (znF b)).all (fun j => decide (k = j) || decide ((zT b k).2.1 ≠ (zT b j).2.1))) &&
  inW (zinL.getD b 0) (.instantiable (zcn b) (znF b)) && inW (ziiL.getD b 0) (.initialized (zcn b))
theorem zclkA : (List.range 10).all zclk = true := by decide +kernel
theorem zw_ac_int : (Cond.arrayClass .int) ∈ gW := inW_ok (i := 123) (by decide +kernel)
theorem zw_ac_byte : (Cond.arrayClass .byte) ∈ gW := inW_ok (i := 124) (by decide +kernel)
theorem zw_ac_boolean : (Cond.arrayClass .boolean) ∈ gW := inW_ok (i := 350) (by decide +kernel)
theorem zw_ac_long : (Cond.arrayClass .long) ∈ gW := inW_ok (i := 1418) (by decide +kernel)
theorem zw_oi1 : (Cond.instanceMethod objectInit) ∈ gW := inW_ok (i := 96) (by decide +kernel)
theorem zw_oi2 : (Cond.code objectInit ⟨#[0xb1]⟩ 1 none) ∈ gW := inW_ok (i := 97) (by decide +kernel)
theorem zw_max1 : (Cond.static Lib.Math.max.name) ∈ gW := inW_ok (i := 556) (by decide +kernel)
theorem zw_max2 : (Cond.code Lib.Math.max.name Lib.Math.max.code 2 (some .int)) ∈ gW := inW_ok (i := 557) (by decide +kernel)
theorem zw_min1 : (Cond.static Lib.Math.min.name) ∈ gW := inW_ok (i := 585) (by decide +kernel)
theorem zw_min2 : (Cond.code Lib.Math.min.name Lib.Math.min.code 2 (some .int)) ∈ gW := inW_ok (i := 586) (by decide +kernel)
theorem zw_math : (Cond.initialized "java/lang/Math") ∈ gW := inW_ok (i := 82) (by decide +kernel)
theorem zw_ac1 : (Cond.native arraycopyName) ∈ gW := inW_ok (i := 590) (by decide +kernel)
theorem zw_ac2 : (Cond.static arraycopyName) ∈ gW := inW_ok (i := 589) (by decide +kernel)
theorem zw_sys : (Cond.initialized "java/lang/System") ∈ gW := inW_ok (i := 83) (by decide +kernel)
theorem zw_ao : (Cond.arrayOver (.object "RepairScan$Found")) ∈ lw_tbl := inV_ok (i := 255) (by decide +kernel)
theorem zw_str : ∀ i, i < 25 → Cond.stringRef (zsoL.getD i ("", 0, "", 0)).1 (zsoL.getD i ("", 0, "", 0)).2.1 (zsoL.getD i ("", 0, "", 0)).2.2.1 ∈ lw_tbl := by
  have h : (List.range 25).all (fun i => inV (zsoL.getD i ("", 0, "", 0)).2.2.2 (Cond.stringRef (zsoL.getD i ("", 0, "", 0)).1 (zsoL.getD i ("", 0, "", 0)).2.1 (zsoL.getD i ("", 0, "", 0)).2.2.1)) = true := by decide +kernel
  exact fun i hi => inV_ok (List.all_eq_true.mp h i (List.mem_range.mpr hi))
