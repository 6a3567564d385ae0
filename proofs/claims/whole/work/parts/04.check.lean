/-! each mini instruction is the one that stands in the bytes, and its words stand in the tables: decided method by method -/
def zFin (a : Nat) : Fin 4 := if h : a < 4 then ⟨a, h⟩ else 0
def zat (a : Nat) : ArrayType := match a with
  | 0 => .int
  | 1 => .byte
  | 2 => .boolean
  | _ => .long
def dcd (pc : Nat) (i : MI) : Instr × Nat :=
  match i with
  | (op, a, b, c, z, tb) =>
  match op with
  | 1 => (.iconst z, 1)
  | 2 => (.bipush z, 2)
  | 3 => (.sipush z, 3)
  | 4 => (.lconst (if a = 0 then 0 else 1), 1)
  | 5 => (.ldc2_w a, 3)
  | 6 => (.iload_n (zFin a), 1)
  | 7 => (.iload a, 2)
  | 8 => (.aload_n (zFin a), 1)
  | 9 => (.aload a, 2)
  | 10 => (.lload_n (zFin a), 1)
  | 11 => (.lload a, 2)
  | 12 => (.istore_n (zFin a), 1)
  | 13 => (.istore a, 2)
  | 14 => (.astore_n (zFin a), 1)
  | 15 => (.astore a, 2)
  | 16 => (.lstore_n (zFin a), 1)
  | 17 => (.lstore a, 2)
  | 18 => (.iinc a z, 3)
  | 19 => (.iadd, 1)
  | 20 => (.isub, 1)
  | 21 => (.imul, 1)
  | 22 => (.idiv, 1)
  | 23 => (.irem, 1)
  | 24 => (.iand, 1)
  | 25 => (.i2l, 1)
  | 26 => (.l2i, 1)
  | 27 => (.i2b, 1)
  | 28 => (.lcmp, 1)
  | 29 => (.ldiv, 1)
  | 30 => (.lrem, 1)
  | 31 => (.lshr, 1)
  | 32 => (.land, 1)
  | 33 => (.dup, 1)
  | 34 => (.dup2, 1)
  | 35 => (.pop, 1)
  | 36 => (.ifCond .eq z, 3)
  | 37 => (.ifCond .ne z, 3)
  | 38 => (.ifCond .lt z, 3)
  | 39 => (.ifCond .ge z, 3)
  | 40 => (.ifCond .gt z, 3)
  | 41 => (.ifCond .le z, 3)
  | 42 => (.if_icmp .eq z, 3)
  | 43 => (.if_icmp .ne z, 3)
  | 44 => (.if_icmp .lt z, 3)
  | 45 => (.if_icmp .ge z, 3)
  | 46 => (.if_icmp .gt z, 3)
  | 47 => (.if_icmp .le z, 3)
  | 48 => (.ifnull z, 3)
  | 49 => (.ifnonnull z, 3)
  | 50 => (.goto z, 3)
  | 51 => (.tableswitch ((a : Int) - pc) z (z + (tb.length - 1 : Nat)) (tb.map fun q => (q.2 : Int) - pc).toArray, b)
  | 52 => (.lookupswitch ((a : Int) - pc) (tb.map fun q => (q.1, (q.2 : Int) - pc)).toArray, b)
  | 53 => (.getfield a, 3)
  | 54 => (.getfield a, 3)
  | 55 => (.putfield a, 3)
  | 56 => (.putfield a, 3)
  | 57 => (.putfield a, 3)
  | 58 => (.iaload, 1)
  | 59 => (.iastore, 1)
  | 60 => (.baload, 1)
  | 61 => (.bastore, 1)
  | 62 => (.laload, 1)
  | 63 => (.lastore, 1)
  | 64 => (.aaload, 1)
  | 65 => (.aastore, 1)
  | 66 => (.arraylength, 1)
  | 67 => (.newarray (zat a), 2)
  | 68 => (.anewarray a, 3)
  | 69 => (.new a, 3)
  | 70 => (.ldc a, 2)
  | 71 => (.aconst_null, 1)
  | 72 => (.invokevirtual a, 3)
  | 73 => (.invokespecial a, 3)
  | 74 => (.invokespecial a, 3)
  | 75 => (.invokestatic a, 3)
  | 76 => (.invokestatic a, 3)
  | 77 => (.invokespecial a, 3)
  | 78 => (.invokevirtual a, 3)
  | 79 => (.invokevirtual a, 3)
  | 80 => (.invokestatic a, 3)
  | 81 => (.invokestatic a, 3)
  | 82 => (.invokestatic a, 3)
  | 83 => (.ireturn, 1)
  | 84 => (.lreturn, 1)
  | 85 => (.areturn, 1)
  | 86 => (.return_, 1)
  | 87 => (.new a, 3)
  | 98 => (.athrow, 1)
  | _ => (.invokespecial a, 3)
def gW : List Cond := lw_tbl.filter goodWord
def inW (i : Nat) (w : Cond) : Bool := decide (lw_tbl[i]? = some w) && goodWord w
theorem inW_ok {i : Nat} {w : Cond} (h : inW i w = true) : w ∈ gW := by
  simp only [inW, Bool.and_eq_true, decide_eq_true_eq] at h
  exact List.mem_filter.mpr ⟨List.mem_of_getElem? h.1, h.2⟩
def inV (i : Nat) (w : Cond) : Bool := decide (lw_tbl[i]? = some w)
theorem inV_ok {i : Nat} {w : Cond} (h : inV i w = true) : w ∈ lw_tbl := List.mem_of_getElem? (of_decide_eq_true h)
def zNest : Cond → Bool
  | .fieldLinkNest _ _ _ _ _ _ => true
  | .methodLinkNest _ _ _ _ => true
  | .castable _ _ => true
  | .declares _ => true
  | _ => false
def nW : List Cond := lw_tbl.filter zNest
def inN (i : Nat) (w : Cond) : Bool := decide (lw_tbl[i]? = some w) && zNest w
theorem inN_ok {i : Nat} {w : Cond} (h : inN i w = true) : w ∈ nW := by
  simp only [inN, Bool.and_eq_true, decide_eq_true_eq] at h
  exact List.mem_filter.mpr ⟨List.mem_of_getElem? h.1, h.2⟩
def zex (k : Nat) : String := match k with
  | 0 => "java/lang/UnsupportedOperationException"
  | 1 => "java/lang/IllegalStateException"
  | 2 => "java/util/NoSuchElementException"
  | _ => "java/lang/IndexOutOfBoundsException"
def wck (own : String) (i : MI) : Bool :=
  match i with
  | (op, a, b, c, z, tb) =>
  match op with
  | 5 => inW (66 + b) (.constantLong own a (Int64.ofInt z)) && decide (-9223372036854775808 ≤ z ∧ z < 9223372036854775808)
  | 53 => inW (66 + z.toNat) (.fieldLink own a (zfD b c).1 (zfD b c).2.1 (zfD b c).2.2.1) && decide (c < znF b ∧ b < 10)
  | 54 => inN (66 + z.toNat) (.fieldLinkNest own a (zfD b c).1 (zfD b c).2.1 (zfD b c).2.2.1 "RepairScan") && decide (c < znF b ∧ b < 10)
  | 55 => inW (66 + z.toNat) (.fieldLink own a (zfD b c).1 (zfD b c).2.1 (zfD b c).2.2.1) && decide (c < znF b ∧ b < 10 ∧ (zfD b c).2.2.2 = false)
  | 56 => inN (66 + z.toNat) (.fieldLinkNest own a (zfD b c).1 (zfD b c).2.1 (zfD b c).2.2.1 "RepairScan") && decide (c < znF b ∧ b < 10 ∧ (zfD b c).2.2.2 = false)
  | 57 => inW (66 + z.toNat) (.fieldLink own a (zfD b c).1 (zfD b c).2.1 (zfD b c).2.2.1) && decide (c < znF b ∧ b < 10 ∧ (zfD b c).2.2.2 = true ∧ (zfD b c).1 = own)
  | 68 => inW (66 + b) (.classLink own a "RepairScan$Found")
  | 69 => inW (66 + z.toNat) (.classLink own a (zcn b)) && decide (b < 10)
  | 70 => decide ((zsoL.getD b ("", 0, "", 0)).1 = own ∧ (zsoL.getD b ("", 0, "", 0)).2.1 = a ∧ b < 25)
  | 72 => inW (66 + z.toNat) (.methodLink own a (zyn b)) && decide (zst b = false ∧ (zyn b).name ≠ "<init>" ∧ b < 147)
  | 73 => inW (66 + z.toNat) (.methodLink own a (zyn b)) && decide (zst b = false ∧ (zyn b).name = "<init>" ∧ b < 147)
  | 74 => inN (66 + z.toNat) (.methodLinkNest own a (zyn b) "RepairScan") && decide (zst b = false ∧ (zyn b).name = "<init>" ∧ b < 147)
  | 75 => inW (66 + z.toNat) (.methodLink own a (zyn b)) && decide (zst b = true ∧ b < 147)
  | 76 => inN (66 + z.toNat) (.methodLinkNest own a (zyn b) "RepairScan") && decide (zst b = true ∧ b < 147)
  | 77 => inW (66 + z.toNat) (.methodLink own a objectInit)
  | 78 => inW (66 + z.toNat) (.methodLink own a ⟨"java/lang/String", "length", "()I"⟩)
  | 79 => inW (66 + z.toNat) (.methodLink own a ⟨"java/lang/String", "charAt", "(I)C"⟩)
  | 80 => inW (66 + z.toNat) (.methodLink own a Lib.Math.max.name)
  | 81 => inW (66 + z.toNat) (.methodLink own a Lib.Math.min.name)
  | 82 => inW (66 + z.toNat) (.methodLink own a arraycopyName)
  | 87 => inW (66 + z.toNat) (.classLink own a (zex b))
  | 99 => true
  | _ => true
def bck (pc : Nat) (i : MI) : Bool :=
  match i with
  | (op, a, b, c, z, tb) =>
  if op = 1 then decide (-128 ≤ z ∧ z < 128) else if op = 2 then decide (-128 ≤ z ∧ z < 128) else if op = 3 then decide (-32768 ≤ z ∧ z < 32768) else if op = 4 then decide (a < 2 ∧ z = a)
  else if op ≤ 17 then (decide (op % 2 = 1) || decide (op = 4) || decide (a < 4)) else if op = 18 then decide (-128 ≤ z ∧ z < 128) else if op ≤ 35 then true else if op ≤ 50 then decide ((pc : Int) + z = a)
  else if op = 51 then decide (tb.length ≠ 0) && (List.range tb.length).all (fun k => decide ((tb[k]?).map (·.1) = some (z + k))) else if op = 52 then (tb.zip (tb.drop 1)).all (fun q => decide (q.1.1 < q.2.1)) else true
def zck (m : Nat) (q : Nat × MI) : Bool := decide (decode (zby m) q.1 = .ok (dcd q.1 q.2)) && wck (zyn m).cls q.2 && bck q.1 q.2
theorem zk_0 : (zc_0).all (zck 0) = true := by decide +kernel
theorem zk_1 : (zc_1).all (zck 1) = true := by decide +kernel
theorem zk_2 : (zc_2).all (zck 2) = true := by decide +kernel
theorem zk_3 : (zc_3).all (zck 3) = true := by decide +kernel
theorem zk_4 : (zc_4).all (zck 4) = true := by decide +kernel
theorem zk_5 : (zc_5).all (zck 5) = true := by decide +kernel
theorem zk_6 : (zc_6).all (zck 6) = true := by decide +kernel
theorem zk_7 : (zc_7).all (zck 7) = true := by decide +kernel
theorem zk_8 : (zc_8).all (zck 8) = true := by decide +kernel
theorem zk_9 : (zc_9).all (zck 9) = true := by decide +kernel
theorem zk_10 : (zc_10).all (zck 10) = true := by decide +kernel
theorem zk_11 : (zc_11).all (zck 11) = true := by decide +kernel
theorem zk_12 : (zc_12).all (zck 12) = true := by decide +kernel
theorem zk_13 : (zc_13).all (zck 13) = true := by decide +kernel
theorem zk_14 : (zc_14).all (zck 14) = true := by decide +kernel
theorem zk_15 : (zc_15).all (zck 15) = true := by decide +kernel
theorem zk_16 : (zc_16).all (zck 16) = true := by decide +kernel
theorem zk_17 : (zc_17).all (zck 17) = true := by decide +kernel
theorem zk_18 : (zc_18).all (zck 18) = true := by decide +kernel
theorem zk_19 : (zc_19).all (zck 19) = true := by decide +kernel
theorem zk_20 : (zc_20).all (zck 20) = true := by decide +kernel
theorem zk_21 : (zc_21).all (zck 21) = true := by decide +kernel
theorem zk_22 : (zc_22).all (zck 22) = true := by decide +kernel
theorem zk_23 : (zc_23).all (zck 23) = true := by decide +kernel
theorem zk_24 : (zc_24).all (zck 24) = true := by decide +kernel
theorem zk_25 : (zc_25).all (zck 25) = true := by decide +kernel
theorem zk_26 : (zc_26).all (zck 26) = true := by decide +kernel
theorem zk_27 : (zc_27).all (zck 27) = true := by decide +kernel
theorem zk_28 : (zc_28).all (zck 28) = true := by decide +kernel
theorem zk_29 : (zc_29).all (zck 29) = true := by decide +kernel
theorem zk_30 : (zc_30).all (zck 30) = true := by decide +kernel
theorem zk_31 : (zc_31).all (zck 31) = true := by decide +kernel
theorem zk_32 : (zc_32).all (zck 32) = true := by decide +kernel
theorem zk_33 : (zc_33).all (zck 33) = true := by decide +kernel
theorem zk_34 : (zc_34).all (zck 34) = true := by decide +kernel
theorem zk_35 : (zc_35).all (zck 35) = true := by decide +kernel
theorem zk_36 : (zc_36).all (zck 36) = true := by decide +kernel
theorem zk_37 : (zc_37).all (zck 37) = true := by decide +kernel
theorem zk_38 : (zc_38).all (zck 38) = true := by decide +kernel
theorem zk_39 : (zc_39).all (zck 39) = true := by decide +kernel
theorem zk_40 : (zc_40).all (zck 40) = true := by decide +kernel
theorem zk_41 : (zc_41).all (zck 41) = true := by decide +kernel
theorem zk_42 : (zc_42).all (zck 42) = true := by decide +kernel
theorem zk_43 : (zc_43).all (zck 43) = true := by decide +kernel
theorem zk_44 : (zc_44).all (zck 44) = true := by decide +kernel
theorem zk_45 : (zc_45).all (zck 45) = true := by decide +kernel
theorem zk_46 : (zc_46).all (zck 46) = true := by decide +kernel
theorem zk_47 : (zc_47).all (zck 47) = true := by decide +kernel
theorem zk_48 : (zc_48).all (zck 48) = true := by decide +kernel
theorem zk_49 : (zc_49).all (zck 49) = true := by decide +kernel
theorem zk_50 : (zc_50).all (zck 50) = true := by decide +kernel
theorem zk_51 : (zc_51).all (zck 51) = true := by decide +kernel
theorem zk_52 : (zc_52).all (zck 52) = true := by decide +kernel
theorem zk_53 : (zc_53).all (zck 53) = true := by decide +kernel
theorem zk_54 : (zc_54).all (zck 54) = true := by decide +kernel
theorem zk_55 : (zc_55).all (zck 55) = true := by decide +kernel
theorem zk_56 : (zc_56).all (zck 56) = true := by decide +kernel
theorem zk_57 : (zc_57).all (zck 57) = true := by decide +kernel
theorem zk_58 : (zc_58).all (zck 58) = true := by decide +kernel
theorem zk_59 : (zc_59).all (zck 59) = true := by decide +kernel
theorem zk_60 : (zc_60).all (zck 60) = true := by decide +kernel
theorem zk_61 : (zc_61).all (zck 61) = true := by decide +kernel
theorem zk_62 : (zc_62).all (zck 62) = true := by decide +kernel
theorem zk_63 : (zc_63).all (zck 63) = true := by decide +kernel
theorem zk_64 : (zc_64).all (zck 64) = true := by decide +kernel
theorem zk_65 : (zc_65).all (zck 65) = true := by decide +kernel
theorem zk_66 : (zc_66).all (zck 66) = true := by decide +kernel
theorem zk_67 : (zc_67).all (zck 67) = true := by decide +kernel
theorem zk_68 : (zc_68).all (zck 68) = true := by decide +kernel
theorem zk_69 : (zc_69).all (zck 69) = true := by decide +kernel
theorem zk_70 : (zc_70).all (zck 70) = true := by decide +kernel
theorem zk_71 : (zc_71).all (zck 71) = true := by decide +kernel
theorem zk_72 : (zc_72).all (zck 72) = true := by decide +kernel
theorem zk_73 : (zc_73).all (zck 73) = true := by decide +kernel
theorem zk_74 : (zc_74).all (zck 74) = true := by decide +kernel
theorem zk_75 : (zc_75).all (zck 75) = true := by decide +kernel
theorem zk_76 : (zc_76).all (zck 76) = true := by decide +kernel
theorem zk_77 : (zc_77).all (zck 77) = true := by decide +kernel
theorem zk_78 : (zc_78).all (zck 78) = true := by decide +kernel
theorem zk_79 : (zc_79).all (zck 79) = true := by decide +kernel
theorem zk_80 : (zc_80).all (zck 80) = true := by decide +kernel
theorem zk_81 : (zc_81).all (zck 81) = true := by decide +kernel
theorem zk_82 : (zc_82).all (zck 82) = true := by decide +kernel
theorem zk_83 : (zc_83).all (zck 83) = true := by decide +kernel
theorem zk_84 : (zc_84).all (zck 84) = true := by decide +kernel
theorem zk_85 : (zc_85).all (zck 85) = true := by decide +kernel
theorem zk_86 : (zc_86).all (zck 86) = true := by decide +kernel
theorem zk_87 : (zc_87).all (zck 87) = true := by decide +kernel
theorem zk_88 : (zc_88).all (zck 88) = true := by decide +kernel
theorem zk_89 : (zc_89).all (zck 89) = true := by decide +kernel
theorem zk_90 : (zc_90).all (zck 90) = true := by decide +kernel
theorem zk_91 : (zc_91).all (zck 91) = true := by decide +kernel
theorem zk_92 : (zc_92).all (zck 92) = true := by decide +kernel
theorem zk_93 : (zc_93).all (zck 93) = true := by decide +kernel
theorem zk_94 : (zc_94).all (zck 94) = true := by decide +kernel
theorem zk_95 : (zc_95).all (zck 95) = true := by decide +kernel
theorem zk_96 : (zc_96).all (zck 96) = true := by decide +kernel
theorem zk_97 : (zc_97).all (zck 97) = true := by decide +kernel
theorem zk_98 : (zc_98).all (zck 98) = true := by decide +kernel
theorem zk_99 : (zc_99).all (zck 99) = true := by decide +kernel
theorem zk_100 : (zc_100).all (zck 100) = true := by decide +kernel
theorem zk_101 : (zc_101).all (zck 101) = true := by decide +kernel
theorem zk_102 : (zc_102).all (zck 102) = true := by decide +kernel
theorem zk_103 : (zc_103).all (zck 103) = true := by decide +kernel
theorem zk_104 : (zc_104).all (zck 104) = true := by decide +kernel
theorem zk_105 : (zc_105).all (zck 105) = true := by decide +kernel
theorem zk_106 : (zc_106).all (zck 106) = true := by decide +kernel
theorem zk_107 : (zc_107).all (zck 107) = true := by decide +kernel
theorem zk_108 : (zc_108).all (zck 108) = true := by decide +kernel
theorem zk_109 : (zc_109).all (zck 109) = true := by decide +kernel
theorem zk_110 : (zc_110).all (zck 110) = true := by decide +kernel
theorem zk_111 : (zc_111).all (zck 111) = true := by decide +kernel
theorem zk_112 : (zc_112).all (zck 112) = true := by decide +kernel
theorem zk_113 : (zc_113).all (zck 113) = true := by decide +kernel
theorem zk_114 : (zc_114).all (zck 114) = true := by decide +kernel
theorem zk_115 : (zc_115).all (zck 115) = true := by decide +kernel
theorem zk_116 : (zc_116).all (zck 116) = true := by decide +kernel
theorem zk_117 : (zc_117).all (zck 117) = true := by decide +kernel
theorem zk_118 : (zc_118).all (zck 118) = true := by decide +kernel
theorem zk_119 : (zc_119).all (zck 119) = true := by decide +kernel
theorem zk_120 : (zc_120).all (zck 120) = true := by decide +kernel
theorem zk_121 : (zc_121).all (zck 121) = true := by decide +kernel
theorem zk_122 : (zc_122).all (zck 122) = true := by decide +kernel
theorem zk_123 : (zc_123).all (zck 123) = true := by decide +kernel
theorem zk_124 : (zc_124).all (zck 124) = true := by decide +kernel
theorem zk_125 : (zc_125).all (zck 125) = true := by decide +kernel
theorem zk_126 : (zc_126).all (zck 126) = true := by decide +kernel
theorem zk_127 : (zc_127).all (zck 127) = true := by decide +kernel
theorem zk_128 : (zc_128).all (zck 128) = true := by decide +kernel
theorem zk_129 : (zc_129).all (zck 129) = true := by decide +kernel
theorem zk_130 : (zc_130).all (zck 130) = true := by decide +kernel
theorem zk_131 : (zc_131).all (zck 131) = true := by decide +kernel
theorem zk_132 : (zc_132).all (zck 132) = true := by decide +kernel
theorem zk_133 : (zc_133).all (zck 133) = true := by decide +kernel
theorem zk_134 : (zc_134).all (zck 134) = true := by decide +kernel
theorem zk_135 : (zc_135).all (zck 135) = true := by decide +kernel
theorem zk_136 : (zc_136).all (zck 136) = true := by decide +kernel
theorem zk_137 : (zc_137).all (zck 137) = true := by decide +kernel
theorem zk_138 : (zc_138).all (zck 138) = true := by decide +kernel
theorem zk_139 : (zc_139).all (zck 139) = true := by decide +kernel
theorem zk_140 : (zc_140).all (zck 140) = true := by decide +kernel
theorem zk_141 : (zc_141).all (zck 141) = true := by decide +kernel
theorem zk_142 : (zc_142).all (zck 142) = true := by decide +kernel
theorem zk_143 : (zc_143).all (zck 143) = true := by decide +kernel
theorem zk_144 : (zc_144).all (zck 144) = true := by decide +kernel
theorem zk_145 : (zc_145).all (zck 145) = true := by decide +kernel
theorem zk_146 : (zc_146).all (zck 146) = true := by decide +kernel
theorem zk_147 : (zc_147).all (zck 147) = true := by decide +kernel
