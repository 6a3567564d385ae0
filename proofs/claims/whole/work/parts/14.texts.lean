/-! texts: the JDK's own length and charAt over the constants -/
def y_len : MethodName := ⟨"java/lang/String", "length", "()I"⟩
def y_chr : MethodName := ⟨"java/lang/String", "charAt", "(I)C"⟩
def y_cod : MethodName := ⟨"java/lang/String", "coder", "()B"⟩
def y_lat : MethodName := ⟨"java/lang/String", "isLatin1", "()Z"⟩
def y_l1c : MethodName := ⟨"java/lang/StringLatin1", "charAt", "([BI)C"⟩
def y_sck : MethodName := ⟨"java/lang/String", "checkIndex", "(II)V"⟩
def y_pck : MethodName := ⟨"jdk/internal/util/Preconditions", "checkIndex", "(IILjava/util/function/BiFunction;)I"⟩
theorem jW {i : Nat} {w : Cond} (h : lw_tbl[i]? = some w) (hg : goodWord w = true) : w ∈ gW := List.mem_filter.mpr ⟨List.mem_of_getElem? h, hg⟩
def jw (y : MethodName) (bytes : ByteArray) (n : Nat) (r : Option FieldType) : List Cond := .code y bytes n r :: gW
theorem jw_in {y : MethodName} {bytes : ByteArray} {n : Nat} {r : Option FieldType} (h : Cond.code y bytes n r ∈ gW) : GoodIn gW (jw y bytes n r) := by
  intro w hw
  rcases List.mem_cons.mp hw with rfl | hw
  · exact ⟨h, good_of_word (List.mem_filter.mp h).2⟩
  · exact ⟨hw, good_of_word (List.mem_filter.mp hw).2⟩
set_option maxRecDepth 50000 in
theorem jc_len : Cond.code y_len prog_20_method_54_code 1 (some .int) ∈ gW := jW (i := 475) rfl rfl
set_option maxRecDepth 50000 in
theorem jc_chr : Cond.code y_chr prog_20_method_56_code 2 (some .char) ∈ gW := jW (i := 485) rfl rfl
set_option maxRecDepth 50000 in
theorem jc_cod : Cond.code y_cod prog_20_method_152_code 1 (some .byte) ∈ gW := jW (i := 479) rfl rfl
set_option maxRecDepth 50000 in
theorem jc_lat : Cond.code y_lat prog_20_method_154_code 1 (some .boolean) ∈ gW := jW (i := 489) rfl rfl
set_option maxRecDepth 50000 in
theorem jc_l1c : Cond.code y_l1c prog_21_method_2_code 2 (some .char) ∈ gW := jW (i := 492) rfl rfl
set_option maxRecDepth 50000 in
theorem jc_sck : Cond.code y_sck prog_20_method_155_code 2 none ∈ gW := jW (i := 495) rfl rfl
set_option maxRecDepth 50000 in
theorem jc_pck : Cond.code y_pck prog_29_method_11_code 3 (some .int) ∈ gW := jW (i := 500) rfl rfl
theorem ji_len : Cond.instanceMethod y_len ∈ gW := inW_ok (i := 473) (by decide +kernel)
theorem js_len : Cond.selects "java/lang/String" y_len y_len ∈ gW := inW_ok (i := 474) (by decide +kernel)
theorem ji_chr : Cond.instanceMethod y_chr ∈ gW := inW_ok (i := 483) (by decide +kernel)
theorem js_chr : Cond.selects "java/lang/String" y_chr y_chr ∈ gW := inW_ok (i := 484) (by decide +kernel)
theorem ji_cod : Cond.instanceMethod y_cod ∈ gW := inW_ok (i := 477) (by decide +kernel)
theorem js_cod : Cond.selects "java/lang/String" y_cod y_cod ∈ gW := inW_ok (i := 478) (by decide +kernel)
theorem ji_lat : Cond.instanceMethod y_lat ∈ gW := inW_ok (i := 487) (by decide +kernel)
theorem js_lat : Cond.selects "java/lang/String" y_lat y_lat ∈ gW := inW_ok (i := 488) (by decide +kernel)
theorem js_l1c : Cond.static y_l1c ∈ gW := inW_ok (i := 491) (by decide +kernel)
theorem js_sck : Cond.static y_sck ∈ gW := inW_ok (i := 494) (by decide +kernel)
theorem js_pck : Cond.static y_pck ∈ gW := inW_ok (i := 499) (by decide +kernel)
theorem jn_S : Cond.initialized "java/lang/String" ∈ gW := inW_ok (i := 84) (by decide +kernel)
theorem jn_1 : Cond.initialized "java/lang/StringLatin1" ∈ gW := inW_ok (i := 85) (by decide +kernel)
theorem jn_P : Cond.initialized "jdk/internal/util/Preconditions" ∈ gW := inW_ok (i := 86) (by decide +kernel)
theorem jl_cod : Cond.methodLink "java/lang/String" 335 y_cod ∈ gW := inW_ok (i := 476) (by decide +kernel)
theorem jl_lat : Cond.methodLink "java/lang/String" 492 y_lat ∈ gW := inW_ok (i := 486) (by decide +kernel)
theorem jl_l1c : Cond.methodLink "java/lang/String" 495 y_l1c ∈ gW := inW_ok (i := 490) (by decide +kernel)
theorem jl_sck : Cond.methodLink "java/lang/StringLatin1" 9 y_sck ∈ gW := inW_ok (i := 493) (by decide +kernel)
theorem jl_pck : Cond.methodLink "java/lang/String" 1059 y_pck ∈ gW := inW_ok (i := 498) (by decide +kernel)
theorem jf_38 : Cond.fieldLink "java/lang/String" 38 "java/lang/String" "COMPACT_STRINGS" "Z" ∈ gW := inW_ok (i := 480) (by decide +kernel)
theorem jf_9 : Cond.fieldLink "java/lang/String" 9 "java/lang/String" "value" "[B" ∈ gW := inW_ok (i := 1436) (by decide +kernel)
theorem jf_15 : Cond.fieldLink "java/lang/String" 15 "java/lang/String" "coder" "B" ∈ gW := inW_ok (i := 1437) (by decide +kernel)
theorem jf_1053 : Cond.fieldLink "java/lang/String" 1053 "jdk/internal/util/Preconditions" "SIOOBE_FORMATTER" "Ljava/util/function/BiFunction;" ∈ gW := inW_ok (i := 496) (by decide +kernel)
theorem jd_len_0 : decode prog_20_method_54_code 0 = .ok (.aload_n 0, 1) := by decide +kernel
theorem jd_len_1 : decode prog_20_method_54_code 1 = .ok (.getfield 9, 3) := by decide +kernel
theorem jd_len_4 : decode prog_20_method_54_code 4 = .ok (.arraylength, 1) := by decide +kernel
theorem jd_len_5 : decode prog_20_method_54_code 5 = .ok (.aload_n 0, 1) := by decide +kernel
theorem jd_len_6 : decode prog_20_method_54_code 6 = .ok (.invokevirtual 335, 3) := by decide +kernel
theorem jd_len_9 : decode prog_20_method_54_code 9 = .ok (.ishr, 1) := by decide +kernel
theorem jd_len_10 : decode prog_20_method_54_code 10 = .ok (.ireturn, 1) := by decide +kernel
theorem jd_chr_0 : decode prog_20_method_56_code 0 = .ok (.aload_n 0, 1) := by decide +kernel
theorem jd_chr_1 : decode prog_20_method_56_code 1 = .ok (.invokevirtual 492, 3) := by decide +kernel
theorem jd_chr_4 : decode prog_20_method_56_code 4 = .ok (.ifCond .eq 12, 3) := by decide +kernel
theorem jd_chr_7 : decode prog_20_method_56_code 7 = .ok (.aload_n 0, 1) := by decide +kernel
theorem jd_chr_8 : decode prog_20_method_56_code 8 = .ok (.getfield 9, 3) := by decide +kernel
theorem jd_chr_11 : decode prog_20_method_56_code 11 = .ok (.iload_n 1, 1) := by decide +kernel
theorem jd_chr_12 : decode prog_20_method_56_code 12 = .ok (.invokestatic 495, 3) := by decide +kernel
theorem jd_chr_15 : decode prog_20_method_56_code 15 = .ok (.ireturn, 1) := by decide +kernel
theorem jd_chr_16 : decode prog_20_method_56_code 16 = .ok (.aload_n 0, 1) := by decide +kernel
theorem jd_chr_17 : decode prog_20_method_56_code 17 = .ok (.getfield 9, 3) := by decide +kernel
theorem jd_chr_20 : decode prog_20_method_56_code 20 = .ok (.iload_n 1, 1) := by decide +kernel
theorem jd_chr_21 : decode prog_20_method_56_code 21 = .ok (.invokestatic 498, 3) := by decide +kernel
theorem jd_chr_24 : decode prog_20_method_56_code 24 = .ok (.ireturn, 1) := by decide +kernel
theorem jd_cod_0 : decode prog_20_method_152_code 0 = .ok (.getstatic 38, 3) := by decide +kernel
theorem jd_cod_3 : decode prog_20_method_152_code 3 = .ok (.ifCond .eq 10, 3) := by decide +kernel
theorem jd_cod_6 : decode prog_20_method_152_code 6 = .ok (.aload_n 0, 1) := by decide +kernel
theorem jd_cod_7 : decode prog_20_method_152_code 7 = .ok (.getfield 15, 3) := by decide +kernel
theorem jd_cod_10 : decode prog_20_method_152_code 10 = .ok (.goto 4, 3) := by decide +kernel
theorem jd_cod_13 : decode prog_20_method_152_code 13 = .ok (.iconst 1, 1) := by decide +kernel
theorem jd_cod_14 : decode prog_20_method_152_code 14 = .ok (.ireturn, 1) := by decide +kernel
theorem jd_lat_0 : decode prog_20_method_154_code 0 = .ok (.getstatic 38, 3) := by decide +kernel
theorem jd_lat_3 : decode prog_20_method_154_code 3 = .ok (.ifCond .eq 14, 3) := by decide +kernel
theorem jd_lat_6 : decode prog_20_method_154_code 6 = .ok (.aload_n 0, 1) := by decide +kernel
theorem jd_lat_7 : decode prog_20_method_154_code 7 = .ok (.getfield 15, 3) := by decide +kernel
theorem jd_lat_10 : decode prog_20_method_154_code 10 = .ok (.ifCond .ne 7, 3) := by decide +kernel
theorem jd_lat_13 : decode prog_20_method_154_code 13 = .ok (.iconst 1, 1) := by decide +kernel
theorem jd_lat_14 : decode prog_20_method_154_code 14 = .ok (.goto 4, 3) := by decide +kernel
theorem jd_lat_17 : decode prog_20_method_154_code 17 = .ok (.iconst 0, 1) := by decide +kernel
theorem jd_lat_18 : decode prog_20_method_154_code 18 = .ok (.ireturn, 1) := by decide +kernel
theorem jd_sck_0 : decode prog_20_method_155_code 0 = .ok (.iload_n 0, 1) := by decide +kernel
theorem jd_sck_1 : decode prog_20_method_155_code 1 = .ok (.iload_n 1, 1) := by decide +kernel
theorem jd_sck_2 : decode prog_20_method_155_code 2 = .ok (.getstatic 1053, 3) := by decide +kernel
theorem jd_sck_5 : decode prog_20_method_155_code 5 = .ok (.invokestatic 1059, 3) := by decide +kernel
theorem jd_sck_8 : decode prog_20_method_155_code 8 = .ok (.pop, 1) := by decide +kernel
theorem jd_sck_9 : decode prog_20_method_155_code 9 = .ok (.return_, 1) := by decide +kernel
theorem jd_l1c_0 : decode prog_21_method_2_code 0 = .ok (.iload_n 1, 1) := by decide +kernel
theorem jd_l1c_1 : decode prog_21_method_2_code 1 = .ok (.aload_n 0, 1) := by decide +kernel
theorem jd_l1c_2 : decode prog_21_method_2_code 2 = .ok (.arraylength, 1) := by decide +kernel
theorem jd_l1c_3 : decode prog_21_method_2_code 3 = .ok (.invokestatic 9, 3) := by decide +kernel
theorem jd_l1c_6 : decode prog_21_method_2_code 6 = .ok (.aload_n 0, 1) := by decide +kernel
theorem jd_l1c_7 : decode prog_21_method_2_code 7 = .ok (.iload_n 1, 1) := by decide +kernel
theorem jd_l1c_8 : decode prog_21_method_2_code 8 = .ok (.baload, 1) := by decide +kernel
theorem jd_l1c_9 : decode prog_21_method_2_code 9 = .ok (.sipush 255, 3) := by decide +kernel
theorem jd_l1c_12 : decode prog_21_method_2_code 12 = .ok (.iand, 1) := by decide +kernel
theorem jd_l1c_13 : decode prog_21_method_2_code 13 = .ok (.i2c, 1) := by decide +kernel
theorem jd_l1c_14 : decode prog_21_method_2_code 14 = .ok (.ireturn, 1) := by decide +kernel
theorem jd_pck_0 : decode prog_29_method_11_code 0 = .ok (.iload_n 0, 1) := by decide +kernel
theorem jd_pck_1 : decode prog_29_method_11_code 1 = .ok (.ifCond .lt 8, 3) := by decide +kernel
theorem jd_pck_4 : decode prog_29_method_11_code 4 = .ok (.iload_n 0, 1) := by decide +kernel
theorem jd_pck_5 : decode prog_29_method_11_code 5 = .ok (.iload_n 1, 1) := by decide +kernel
theorem jd_pck_6 : decode prog_29_method_11_code 6 = .ok (.if_icmp .lt 10, 3) := by decide +kernel
theorem jd_pck_9 : decode prog_29_method_11_code 9 = .ok (.aload_n 2, 1) := by decide +kernel
theorem jd_pck_10 : decode prog_29_method_11_code 10 = .ok (.iload_n 0, 1) := by decide +kernel
theorem jd_pck_11 : decode prog_29_method_11_code 11 = .ok (.iload_n 1, 1) := by decide +kernel
theorem jd_pck_12 : decode prog_29_method_11_code 12 = .ok (.invokestatic 95, 3) := by decide +kernel
theorem jd_pck_15 : decode prog_29_method_11_code 15 = .ok (.athrow, 1) := by decide +kernel
theorem jd_pck_16 : decode prog_29_method_11_code 16 = .ok (.iload_n 0, 1) := by decide +kernel
theorem jd_pck_17 : decode prog_29_method_11_code 17 = .ok (.ireturn, 1) := by decide +kernel
def Pk (Z : EP) (av : List Value) : Array Value → State → Prop := fun a U => a = av.toArray ∧ Ev Z U U.heap
theorem blindk {Z : EP} {av : List Value} : FrameBlind (Pk Z av) := fun _ U _ _ h => ⟨h.1, Ev.same (u := U) rfl h.2⟩
theorem prek {Z : EP} {av : List Value} {s : State} (hE : Ev Z s s.heap) : ∀ U : State, U.heap = s.heap → s.WarmedH U.vm → Pk Z av av.toArray U := fun U hU hW => ⟨rfl, by rw [hU]; exact hE.warm hW⟩
abbrev rmk (f : Nat) : Room := { frames := f, cells := 0, slots := 0, locals := 40 * f }
def zstr (i : Nat) : List Nat := zsbL.getD i []
theorem zsl_at {i : Nat} (hi : i < 25) : zsl.getD i 0 = (zstr i).length := by
  unfold zsl zstr
  have hn : i < zsbL.length := hi
  rw [List.getD_eq_getElem?_getD, List.getElem?_map, List.getD_eq_getElem?_getD, List.getElem?_eq_getElem hn]
  rfl
theorem zsb_at {i k : Nat} (hi : i < 25) (hk : k < (zstr i).length) : (zsb.getD i []).getD k 0 = Int32.ofNat ((zstr i).getD k 0) := by
  unfold zstr at hk ⊢
  unfold zsb
  have hn : i < zsbL.length := hi
  rw [List.getD_eq_getElem?_getD (l := zsbL), List.getElem?_eq_getElem hn] at hk ⊢
  rw [List.getD_eq_getElem?_getD (l := zsbL.map _), List.getElem?_map, List.getElem?_eq_getElem hn]
  have hk : k < (zsbL[i]).length := hk
  show ((zsbL[i]).map Int32.ofNat).getD k 0 = Int32.ofNat ((zsbL[i]).getD k 0)
  rw [List.getD_eq_getElem?_getD, List.getElem?_map, List.getD_eq_getElem?_getD, List.getElem?_eq_getElem hk]
  rfl
theorem zch_lt {i k : Nat} : (zstr i).getD k 0 < 128 := by
  have h : zsbL.all (fun l => l.all (fun x => decide (x < 128))) = true := by decide +kernel
  unfold zstr
  rw [List.getD_eq_getElem?_getD (l := zsbL)]
  by_cases hi : i < zsbL.length
  · rw [List.getElem?_eq_getElem hi, List.getD_eq_getElem?_getD]
    show ((zsbL[i])[k]?).getD 0 < 128
    by_cases hk : k < (zsbL[i]).length
    · rw [List.getElem?_eq_getElem hk]
      exact of_decide_eq_true (List.all_eq_true.mp (List.all_eq_true.mp h _ (List.getElem_mem hi)) _ (List.getElem_mem hk))
    · rw [List.getElem?_eq_none (by omega)]
      decide
  · rw [List.getElem?_eq_none (by omega)]
    show (([] : List Nat).getD k 0) < 128
    simp
theorem zlen_lt {i : Nat} : (zstr i).length < 100 := by
  have h : zsbL.all (fun l => decide (l.length < 100)) = true := by decide +kernel
  unfold zstr
  rw [List.getD_eq_getElem?_getD]
  by_cases hi : i < zsbL.length
  · rw [List.getElem?_eq_getElem hi]
    exact of_decide_eq_true (List.all_eq_true.mp h _ (List.getElem_mem hi))
  · rw [List.getElem?_eq_none (by omega)]
    decide
theorem zc_i2c : ∀ n, n < 128 → ((Int32.ofNat n &&& 255).toUInt32 % 65536).toInt32 = Int32.ofNat n ∧ narrow .char (.int (Int32.ofNat n)) = .int (Int32.ofNat n) := by decide +kernel
theorem c_cod (l : Launch) (Z : EP) (i : Nat) (hi : i < 25) : Met l y_cod (jw y_cod prog_20_method_152_code 1 (some .byte)) (rmk 0) (Pk Z [.ref (Z.2.2.2.1 i)]) (QcRead 0) 0 0 (fun _ => False) := by
  refine Met.ofW (cc := prog_20_method_152_code) (maxL := 1) (ret := (some .byte)) (by decide) rfl ?_
  intro p e s m args below meth c s₁ B hml hP
  obtain ⟨rfl, hE⟩ := hP
  have hx := B.exec
  have hb := B.bytes
  have hr := B.returns
  have hts : ∀ w ∈ gW, w.before _ s = true := fun w hw => atoms_spec (ws := jw y_cod prog_20_method_152_code 1 (some .byte)) B.pre w (List.mem_cons_of_mem _ hw)
  have hown : s.vm.findClass "java/lang/String" = some m.cls := findClass_of_methodNamed B.named
  have hlocks := B.notSynchronized
  have hS : va_S (zA Z) s.heap s.heap [] := va_S.rf
  have hl := lv_entry [.ref (Z.2.2.2.1 i)] (n := 1) (Nat.le_of_ble_eq_true rfl)
  rw [lg_entry_eq]
  generalize (lg_sl [.ref (Z.2.2.2.1 i)] ++ List.replicate (1 - (lg_sl [.ref (Z.2.2.2.1 i)]).length) Slot.unset).toArray = ls at hl ⊢
  have hl : lv_has ls 1 [(0, .ref (Z.2.2.2.1 i))] := hl
  refine va_gets hx hb hE.2.2.2.1 hS hown (hts _ jf_38) (fun _ h => h) jd_cod_0 ?_
  refine lv_if_eq hx hb jd_cod_3 (tgt := 13) (by decide) (fun h => absurd h (by decide)) (fun _ => ?_)
  refine lv_aload_n hx hb jd_cod_6 rfl (lv_at hl 0 rfl) ?_
  refine vk_getf hx hb (hE.2.1.1 i hi).2.1 hS hown (hts _ jf_15) (fun _ h => h) jd_cod_7 ?_
  refine lv_goto hx hb jd_cod_10 (tgt := 14) (by decide) ?_
  exact W.zret hx hb hr (by decide) (fun t ht hW => ⟨rfl, ht⟩) (fun q h => by cases h) jd_cod_14 hlocks
theorem c_lat (l : Launch) (Z : EP) (i : Nat) (hi : i < 25) : Met l y_lat (jw y_lat prog_20_method_154_code 1 (some .boolean)) (rmk 0) (Pk Z [.ref (Z.2.2.2.1 i)]) (QcRead 1) 0 0 (fun _ => False) := by
  refine Met.ofW (cc := prog_20_method_154_code) (maxL := 1) (ret := (some .boolean)) (by decide) rfl ?_
  intro p e s m args below meth c s₁ B hml hP
  obtain ⟨rfl, hE⟩ := hP
  have hx := B.exec
  have hb := B.bytes
  have hr := B.returns
  have hts : ∀ w ∈ gW, w.before _ s = true := fun w hw => atoms_spec (ws := jw y_lat prog_20_method_154_code 1 (some .boolean)) B.pre w (List.mem_cons_of_mem _ hw)
  have hown : s.vm.findClass "java/lang/String" = some m.cls := findClass_of_methodNamed B.named
  have hlocks := B.notSynchronized
  have hS : va_S (zA Z) s.heap s.heap [] := va_S.rf
  have hl := lv_entry [.ref (Z.2.2.2.1 i)] (n := 1) (Nat.le_of_ble_eq_true rfl)
  rw [lg_entry_eq]
  generalize (lg_sl [.ref (Z.2.2.2.1 i)] ++ List.replicate (1 - (lg_sl [.ref (Z.2.2.2.1 i)]).length) Slot.unset).toArray = ls at hl ⊢
  have hl : lv_has ls 1 [(0, .ref (Z.2.2.2.1 i))] := hl
  refine va_gets hx hb hE.2.2.2.1 hS hown (hts _ jf_38) (fun _ h => h) jd_lat_0 ?_
  refine lv_if_eq hx hb jd_lat_3 (tgt := 17) (by decide) (fun h => absurd h (by decide)) (fun _ => ?_)
  refine lv_aload_n hx hb jd_lat_6 rfl (lv_at hl 0 rfl) ?_
  refine vk_getf hx hb (hE.2.1.1 i hi).2.1 hS hown (hts _ jf_15) (fun _ h => h) jd_lat_7 ?_
  refine lv_if_ne hx hb jd_lat_10 (tgt := 17) (by decide) (fun h => absurd rfl h) (fun _ => ?_)
  refine lv_iconst (v := 1) hx hb jd_lat_13 (by decide) ?_
  refine lv_goto hx hb jd_lat_14 (tgt := 18) (by decide) ?_
  exact W.zret hx hb hr (by decide) (fun t ht hW => ⟨rfl, ht⟩) (fun q h => by cases h) jd_lat_18 hlocks
theorem c_len (l : Launch) (Z : EP) (i : Nat) (hi : i < 25) : Met l y_len (jw y_len prog_20_method_54_code 1 (some .int)) (rmk 1) (Pk Z [.ref (Z.2.2.2.1 i)]) (QcRead (Int32.ofNat (zsl.getD i 0))) 0 0 (fun _ => False) := by
  refine Met.ofW (cc := prog_20_method_54_code) (maxL := 1) (ret := (some .int)) (by decide) rfl ?_
  intro p e s m args below meth c s₁ B hml hP
  obtain ⟨rfl, hE⟩ := hP
  have hx := B.exec
  have hb := B.bytes
  have hr := B.returns
  have hts : ∀ w ∈ gW, w.before _ s = true := fun w hw => atoms_spec (ws := jw y_len prog_20_method_54_code 1 (some .int)) B.pre w (List.mem_cons_of_mem _ hw)
  have hown : s.vm.findClass "java/lang/String" = some m.cls := findClass_of_methodNamed B.named
  have hlocks := B.notSynchronized
  have hS : va_S (zA Z) s.heap s.heap [] := va_S.rf
  have hl := lv_entry [.ref (Z.2.2.2.1 i)] (n := 1) (Nat.le_of_ble_eq_true rfl)
  rw [lg_entry_eq]
  generalize (lg_sl [.ref (Z.2.2.2.1 i)] ++ List.replicate (1 - (lg_sl [.ref (Z.2.2.2.1 i)]).length) Slot.unset).toArray = ls at hl ⊢
  have hl : lv_has ls 1 [(0, .ref (Z.2.2.2.1 i))] := hl
  refine lv_aload_n hx hb jd_len_0 rfl (lv_at hl 0 rfl) ?_
  refine vk_getf hx hb (hE.2.1.1 i hi).2.2.1 hS hown (hts _ jf_9) (fun _ h => h) jd_len_1 ?_
  refine va_tlen hx hb (hE.2.1.1 i hi).2.2.2 hS (v := Int32.ofNat (zsl.getD i 0)) rfl jd_len_4 ?_
  refine lv_aload_n hx hb jd_len_5 rfl (lv_at hl 0 rfl) ?_
  refine W.callR (W.runV (As := []) (rest := [.int (Int32.ofNat (zsl.getD i 0))]) (Ts := gW) ⟨hx, hb, hml, hown, hts⟩ (c_cod l Z i hi) ⟨callB_of 0 hts (jw_in jc_cod) rfl rfl rfl (hts _ jn_S) (hts _ jl_cod) ⟨by decide, by decide, by decide⟩ ⟨Nat.le_of_ble_eq_true rfl, Nat.le_of_ble_eq_true rfl⟩, hts _ ji_cod, hts _ js_cod⟩ ⟨blindk, vk_recv hE.2.1 hi hS, prek hE⟩ rfl rfl hl.1 rfl (lv_room (Nat.le_of_ble_eq_true rfl)) jd_len_6 ⟨Nat.zero_le _, Nat.zero_le _⟩) ?_
  refine W.eq (g2 := F0 m 9 ls [.int 0, .int (Int32.ofNat (zsl.getD i 0))]) rfl ?_
  refine lv_ishr hx hb jd_len_9 ?_
  rw [sb_shr0]
  exact W.iret hx hb hr (fun t ht hW => ⟨rfl, ht⟩) (fun q h => by cases h) jd_len_10 hlocks
theorem c_pck (l : Launch) (Z : EP) (a n : Int32) (v : Value) (hv : v = .null ∨ ∃ t, v = .ref t) (h0 : ¬ a < 0) (h1 : a < n) : Met l y_pck (jw y_pck prog_29_method_11_code 3 (some .int)) (rmk 0) (Pk Z [.int a, .int n, v]) (QcRead a) 0 0 (fun _ => False) := by
  rcases hv with rfl | ⟨q, rfl⟩

  · refine Met.ofW (cc := prog_29_method_11_code) (maxL := 3) (ret := (some .int)) (by decide) rfl ?_
    intro p e s m args below meth c s₁ B hml hP
    obtain ⟨rfl, hE⟩ := hP
    have hx := B.exec
    have hb := B.bytes
    have hr := B.returns
    have hts : ∀ w ∈ gW, w.before _ s = true := fun w hw => atoms_spec (ws := jw y_pck prog_29_method_11_code 3 (some .int)) B.pre w (List.mem_cons_of_mem _ hw)
    have hown : s.vm.findClass "jdk/internal/util/Preconditions" = some m.cls := findClass_of_methodNamed B.named
    have hlocks := B.notSynchronized
    have hS : va_S (zA Z) s.heap s.heap [] := va_S.rf
    have hl := lv_entry [.int a, .int n, .null] (n := 3) (Nat.le_of_ble_eq_true rfl)
    rw [lg_entry_eq]
    generalize (lg_sl [.int a, .int n, .null] ++ List.replicate (3 - (lg_sl [.int a, .int n, .null]).length) Slot.unset).toArray = ls at hl ⊢
    have hl : lv_has ls 3 [(0, .int a), (1, .int n), (2, .null)] := hl
    refine lv_iload_n hx hb jd_pck_0 rfl (lv_at hl 0 rfl) ?_
    refine lv_if_lt hx hb jd_pck_1 (tgt := 9) (by decide) (fun h => absurd h h0) (fun _ => ?_)
    refine lv_iload_n hx hb jd_pck_4 rfl (lv_at hl 0 rfl) ?_
    refine lv_iload_n hx hb jd_pck_5 rfl (lv_at hl 1 rfl) ?_
    refine lv_icmp_lt hx hb jd_pck_6 (tgt := 16) (by decide) (fun _ => ?_) (fun h => absurd h1 h)
    refine lv_iload_n hx hb jd_pck_16 rfl (lv_at hl 0 rfl) ?_
    exact W.iret hx hb hr (fun t ht hW => ⟨rfl, ht⟩) (fun q h => by cases h) jd_pck_17 hlocks
  · refine Met.ofW (cc := prog_29_method_11_code) (maxL := 3) (ret := (some .int)) (by decide) rfl ?_
    intro p e s m args below meth c s₁ B hml hP
    obtain ⟨rfl, hE⟩ := hP
    have hx := B.exec
    have hb := B.bytes
    have hr := B.returns
    have hts : ∀ w ∈ gW, w.before _ s = true := fun w hw => atoms_spec (ws := jw y_pck prog_29_method_11_code 3 (some .int)) B.pre w (List.mem_cons_of_mem _ hw)
    have hown : s.vm.findClass "jdk/internal/util/Preconditions" = some m.cls := findClass_of_methodNamed B.named
    have hlocks := B.notSynchronized
    have hS : va_S (zA Z) s.heap s.heap [] := va_S.rf
    have hl := lv_entry [.int a, .int n, .ref q] (n := 3) (Nat.le_of_ble_eq_true rfl)
    rw [lg_entry_eq]
    generalize (lg_sl [.int a, .int n, .ref q] ++ List.replicate (3 - (lg_sl [.int a, .int n, .ref q]).length) Slot.unset).toArray = ls at hl ⊢
    have hl : lv_has ls 3 [(0, .int a), (1, .int n), (2, .ref q)] := hl
    refine lv_iload_n hx hb jd_pck_0 rfl (lv_at hl 0 rfl) ?_
    refine lv_if_lt hx hb jd_pck_1 (tgt := 9) (by decide) (fun h => absurd h h0) (fun _ => ?_)
    refine lv_iload_n hx hb jd_pck_4 rfl (lv_at hl 0 rfl) ?_
    refine lv_iload_n hx hb jd_pck_5 rfl (lv_at hl 1 rfl) ?_
    refine lv_icmp_lt hx hb jd_pck_6 (tgt := 16) (by decide) (fun _ => ?_) (fun h => absurd h1 h)
    refine lv_iload_n hx hb jd_pck_16 rfl (lv_at hl 0 rfl) ?_
    exact W.iret hx hb hr (fun t ht hW => ⟨rfl, ht⟩) (fun q h => by cases h) jd_pck_17 hlocks
def QcVoid : Array Value → State → Outcome → State → Prop := fun _ st o t => o = .returned none ∧ t.heap = st.heap
theorem c_sck (l : Launch) (Z : EP) (a n : Int32) (h0 : ¬ a < 0) (h1 : a < n) : Met l y_sck (jw y_sck prog_20_method_155_code 2 none) (rmk 1) (Pk Z [.int a, .int n]) QcVoid 0 0 (fun _ => False) := by
  refine Met.ofW (cc := prog_20_method_155_code) (maxL := 2) (ret := none) (by decide) rfl ?_
  intro p e s m args below meth c s₁ B hml hP
  obtain ⟨rfl, hE⟩ := hP
  have hx := B.exec
  have hb := B.bytes
  have hr := B.returns
  have hts : ∀ w ∈ gW, w.before _ s = true := fun w hw => atoms_spec (ws := jw y_sck prog_20_method_155_code 2 none) B.pre w (List.mem_cons_of_mem _ hw)
  have hown : s.vm.findClass "java/lang/String" = some m.cls := findClass_of_methodNamed B.named
  have hlocks := B.notSynchronized
  have hS : va_S (zA Z) s.heap s.heap [] := va_S.rf
  have hl := lv_entry [.int a, .int n] (n := 2) (Nat.le_of_ble_eq_true rfl)
  rw [lg_entry_eq]
  generalize (lg_sl [.int a, .int n] ++ List.replicate (2 - (lg_sl [.int a, .int n]).length) Slot.unset).toArray = ls at hl ⊢
  have hl : lv_has ls 2 [(0, .int a), (1, .int n)] := hl
  refine lv_iload_n hx hb jd_sck_0 rfl (lv_at hl 0 rfl) ?_
  refine lv_iload_n hx hb jd_sck_1 rfl (lv_at hl 1 rfl) ?_
  have key : ∀ v : Value, (v = .null ∨ ∃ t, v = .ref t) → W p l e (headSpec (jw y_sck prog_20_method_155_code 2 none) (rmk 1)).room s m #[Value.int a, Value.int n] below meth c s.heap [] 0 0 (MQ below QcVoid #[Value.int a, Value.int n] s 0 0 (fun _ => False)) (F0 m 5 ls [v, .int n, .int a]) := by
    intro v hv
    refine W.callR (W.runS (As := [.int a, .int n, v]) (rest := []) (Ts := gW) ⟨hx, hb, hml, hown, hts⟩ (c_pck l Z a n v hv h0 h1) ⟨callB_of 3 hts (jw_in jc_pck) rfl rfl rfl (hts _ jn_P) (hts _ jl_pck) ⟨by decide, by decide, by decide⟩ ⟨Nat.le_of_ble_eq_true rfl, Nat.le_of_ble_eq_true rfl⟩, hts _ js_pck⟩ ⟨blindk, prek hE⟩ rfl rfl hl.1 rfl (lv_room (Nat.le_of_ble_eq_true rfl)) jd_sck_5 ⟨Nat.zero_le _, Nat.zero_le _⟩) ?_
    refine W.eq (g2 := F0 m 8 ls [.int a]) rfl ?_
    refine lv_pop hx hb jd_sck_8 rfl ?_
    exact W.vret hx hb hr (fun t ht hW => ⟨rfl, ht⟩) (fun q h => by cases h) jd_sck_9 hlocks
  rcases hE.2.2.2.2.2.2.2.2.2.2.2.2 with hz | ⟨t, hz⟩
  · exact va_gets hx hb hz hS hown (hts _ jf_1053) (fun _ h => h) jd_sck_2 (key _ (Or.inl rfl))
  · exact va_gets hx hb hz hS hown (hts _ jf_1053) (fun _ h => h) jd_sck_2 (key _ (Or.inr ⟨t, rfl⟩))
theorem c_l1c (l : Launch) (Z : EP) (i k : Nat) (hi : i < 25) (hk : k < (zstr i).length) : Met l y_l1c (jw y_l1c prog_21_method_2_code 2 (some .char)) (rmk 2) (Pk Z [.ref (Z.2.2.2.2.1 i), .int (Int32.ofNat k)]) (QcRead (Int32.ofNat ((zstr i).getD k 0))) 0 0 (fun _ => False) := by
  have hlen := @zlen_lt i
  have hsl := zsl_at hi
  have hk0 : ¬ Int32.ofNat k < 0 := nI_pos (by omega)
  have hk1 : Int32.ofNat k < Int32.ofNat (zsl.getD i 0) := nI_lt (by omega) (by omega)
  have hkc : (Int32.ofNat k).toNatClampNeg = k := nI_clamp (by omega)
  refine Met.ofW (cc := prog_21_method_2_code) (maxL := 2) (ret := (some .char)) (by decide) rfl ?_
  intro p e s m args below meth c s₁ B hml hP
  obtain ⟨rfl, hE⟩ := hP
  have hx := B.exec
  have hb := B.bytes
  have hr := B.returns
  have hts : ∀ w ∈ gW, w.before _ s = true := fun w hw => atoms_spec (ws := jw y_l1c prog_21_method_2_code 2 (some .char)) B.pre w (List.mem_cons_of_mem _ hw)
  have hown : s.vm.findClass "java/lang/StringLatin1" = some m.cls := findClass_of_methodNamed B.named
  have hlocks := B.notSynchronized
  have hS : va_S (zA Z) s.heap s.heap [] := va_S.rf
  have hl := lv_entry [.ref (Z.2.2.2.2.1 i), .int (Int32.ofNat k)] (n := 2) (Nat.le_of_ble_eq_true rfl)
  rw [lg_entry_eq]
  generalize (lg_sl [.ref (Z.2.2.2.2.1 i), .int (Int32.ofNat k)] ++ List.replicate (2 - (lg_sl [.ref (Z.2.2.2.2.1 i), .int (Int32.ofNat k)]).length) Slot.unset).toArray = ls at hl ⊢
  have hl : lv_has ls 2 [(0, .ref (Z.2.2.2.2.1 i)), (1, .int (Int32.ofNat k))] := hl
  refine lv_iload_n hx hb jd_l1c_0 rfl (lv_at hl 1 rfl) ?_
  refine lv_aload_n hx hb jd_l1c_1 rfl (lv_at hl 0 rfl) ?_
  refine va_tlen hx hb (hE.2.1.1 i hi).2.2.2 hS (v := Int32.ofNat (zsl.getD i 0)) rfl jd_l1c_2 ?_
  refine W.callX (W.runS (As := [.int (Int32.ofNat k), .int (Int32.ofNat (zsl.getD i 0))]) (rest := []) (Ts := gW) ⟨hx, hb, hml, hown, hts⟩ (c_sck l Z _ _ hk0 hk1) ⟨callB_of 2 hts (jw_in jc_sck) rfl rfl rfl (hts _ jn_S) (hts _ jl_sck) ⟨by decide, by decide, by decide⟩ ⟨Nat.le_of_ble_eq_true rfl, Nat.le_of_ble_eq_true rfl⟩, hts _ js_sck⟩ ⟨blindk, prek hE⟩ rfl rfl hl.1 rfl (lv_room (Nat.le_of_ble_eq_true rfl)) jd_l1c_3 ⟨Nat.zero_le _, Nat.zero_le _⟩) (fun x h => h.elim) (fun v st₀ t h0 hq => ?_)
  obtain ⟨hv, ht⟩ := hq
  have hv : v = none := Outcome.returned.inj hv
  subst hv
  rw [ht, h0]
  refine W.eq (g2 := F0 m 6 ls []) rfl ?_
  refine lv_aload_n hx hb jd_l1c_6 rfl (lv_at hl 0 rfl) ?_
  refine lv_iload_n hx hb jd_l1c_7 rfl (lv_at hl 1 rfl) ?_
  refine va_tb hx hb (hE.2.1.1 i hi).2.2.2 hS (i := Int32.ofNat k) (v := .int (Int32.ofNat ((zstr i).getD k 0))) (by rw [hsl]; exact vp_in_nI hk (by omega)) (by rw [hkc, zsb_at hi hk]) jd_l1c_8 ?_
  refine lv_sipush (v := 255) hx hb jd_l1c_9 (by decide) ?_
  refine lv_iand hx hb jd_l1c_12 ?_
  refine lv_i2c (v := Int32.ofNat ((zstr i).getD k 0)) hx hb jd_l1c_13 (zc_i2c _ zch_lt).1 ?_
  exact W.zret hx hb hr (zc_i2c _ zch_lt).2 (fun t ht hW => ⟨rfl, ht⟩) (fun q h => by cases h) jd_l1c_14 hlocks
theorem c_chr (l : Launch) (Z : EP) (i k : Nat) (hi : i < 25) (hk : k < (zstr i).length) : Met l y_chr (jw y_chr prog_20_method_56_code 2 (some .char)) (rmk 3) (Pk Z [.ref (Z.2.2.2.1 i), .int (Int32.ofNat k)]) (QcRead (Int32.ofNat ((zstr i).getD k 0))) 0 0 (fun _ => False) := by
  refine Met.ofW (cc := prog_20_method_56_code) (maxL := 2) (ret := (some .char)) (by decide) rfl ?_
  intro p e s m args below meth c s₁ B hml hP
  obtain ⟨rfl, hE⟩ := hP
  have hx := B.exec
  have hb := B.bytes
  have hr := B.returns
  have hts : ∀ w ∈ gW, w.before _ s = true := fun w hw => atoms_spec (ws := jw y_chr prog_20_method_56_code 2 (some .char)) B.pre w (List.mem_cons_of_mem _ hw)
  have hown : s.vm.findClass "java/lang/String" = some m.cls := findClass_of_methodNamed B.named
  have hlocks := B.notSynchronized
  have hS : va_S (zA Z) s.heap s.heap [] := va_S.rf
  have hl := lv_entry [.ref (Z.2.2.2.1 i), .int (Int32.ofNat k)] (n := 2) (Nat.le_of_ble_eq_true rfl)
  rw [lg_entry_eq]
  generalize (lg_sl [.ref (Z.2.2.2.1 i), .int (Int32.ofNat k)] ++ List.replicate (2 - (lg_sl [.ref (Z.2.2.2.1 i), .int (Int32.ofNat k)]).length) Slot.unset).toArray = ls at hl ⊢
  have hl : lv_has ls 2 [(0, .ref (Z.2.2.2.1 i)), (1, .int (Int32.ofNat k))] := hl
  refine lv_aload_n hx hb jd_chr_0 rfl (lv_at hl 0 rfl) ?_
  refine W.callR (W.runV (As := []) (rest := []) (Ts := gW) ⟨hx, hb, hml, hown, hts⟩ (c_lat l Z i hi) ⟨callB_of 0 hts (jw_in jc_lat) rfl rfl rfl (hts _ jn_S) (hts _ jl_lat) ⟨by decide, by decide, by decide⟩ ⟨Nat.le_of_ble_eq_true rfl, Nat.le_of_ble_eq_true rfl⟩, hts _ ji_lat, hts _ js_lat⟩ ⟨blindk, vk_recv hE.2.1 hi hS, prek hE⟩ rfl rfl hl.1 rfl (lv_room (Nat.le_of_ble_eq_true rfl)) jd_chr_1 ⟨Nat.zero_le _, Nat.zero_le _⟩) ?_
  refine W.eq (g2 := F0 m 4 ls [.int 1]) rfl ?_
  refine lv_if_eq hx hb jd_chr_4 (tgt := 16) (by decide) (fun h => absurd h (by decide)) (fun _ => ?_)
  refine lv_aload_n hx hb jd_chr_7 rfl (lv_at hl 0 rfl) ?_
  refine vk_getf hx hb (hE.2.1.1 i hi).2.2.1 hS hown (hts _ jf_9) (fun _ h => h) jd_chr_8 ?_
  refine lv_iload_n hx hb jd_chr_11 rfl (lv_at hl 1 rfl) ?_
  refine W.callR (W.runS (As := [.ref (Z.2.2.2.2.1 i), .int (Int32.ofNat k)]) (rest := []) (Ts := gW) ⟨hx, hb, hml, hown, hts⟩ (c_l1c l Z i k hi hk) ⟨callB_of 2 hts (jw_in jc_l1c) rfl rfl rfl (hts _ jn_1) (hts _ jl_l1c) ⟨by decide, by decide, by decide⟩ ⟨Nat.le_of_ble_eq_true rfl, Nat.le_of_ble_eq_true rfl⟩, hts _ js_l1c⟩ ⟨blindk, prek hE⟩ rfl rfl hl.1 rfl (lv_room (Nat.le_of_ble_eq_true rfl)) jd_chr_12 ⟨Nat.zero_le _, Nat.zero_le _⟩) ?_
  refine W.eq (g2 := F0 m 15 ls [.int (Int32.ofNat ((zstr i).getD k 0))]) rfl ?_
  exact W.zret hx hb hr (zc_i2c _ zch_lt).2 (fun t ht hW => ⟨rfl, ht⟩) (fun q h => by cases h) jd_chr_15 hlocks
theorem R_strlen {m pc pc' : Nat} {ls st : List MV} {M : MH} {Q : Res → MH → Prop} {a b d : Nat} {z : Int} {tb : List (Int × Nat)} {i : Nat} (hc : cod m pc = some (78, a, b, d, z, tb)) (hp : pc + 3 = pc') (hi : i < 25) (hr : vcs st ≤ 8) (h : Run m pc' ls (vI (zstr i).length :: st) M Q) : Run m pc ls (vS i :: st) M Q := by
  subst hp
  have hd : decode (zby m) pc = .ok (.invokevirtual a, 3) := (zdc hc).1
  have hw : inW (66 + z.toNat) (.methodLink (zyn m).cls a y_len) = true := (zdc hc).2.1
  have hdp : 2 ≤ zdp m := of_decide_eq_true (show decide _ = true from zdk_at hc)
  refine R_pure (fun Z p l e R s mid args below meth cc Qs C H locs cells slots lr sr hl hs hH hS b1 b2 k => ?_) h
  obtain ⟨w1, ws1, rfl, hw1, hs1⟩ := srel_cons hs
  have hw1 : w1 = .ref (Z.2.2.2.1 i) := by
    rcases hw1 with ⟨-, q⟩ | ⟨q, -⟩
    · exact q
    · omega
  subst hw1
  have hfr := zfr C
  have hE := (zEv C).kept hS.1 hS.2.1
  have hlen := @zlen_lt i
  refine W.callR (W.runV (As := []) (rest := ws1) (Ts := gW) ⟨C.1, C.2.1, C.2.2.1, C.2.2.2.1, C.2.2.2.2.1⟩ (c_len l Z i hi) ⟨callB_of 0 C.2.2.2.2.1 (jw_in jc_len) rfl rfl rfl (C.2.2.2.2.1 _ jn_S) (C.2.2.2.2.1 _ (inW_ok hw)) ⟨by decide, by decide, by decide⟩ ⟨?_, ?_⟩, C.2.2.2.2.1 _ ji_len, C.2.2.2.2.1 _ js_len⟩ ⟨blindk, vk_recv (zEv C).2.1 hi hS, fun U hU hW => ⟨rfl, by rw [hU]; exact hE.warm hW⟩⟩ rfl rfl hl.1 rfl (lv_room (by rw [vcs_ok hs1]; exact hr)) hd ⟨b1, b2⟩) ?_
  · show 1 + 1 ≤ R.frames
    omega
  · show 8 + (1 + 11) + 40 * 1 ≤ R.locals
    omega
  · refine k lr _ hl ⟨⟨?_, by constructor <;> omega⟩, hs1⟩
    rw [zsl_at hi]
    rfl
theorem R_strch {m pc pc' : Nat} {ls st : List MV} {M : MH} {Q : Res → MH → Prop} {a b d : Nat} {z : Int} {tb : List (Int × Nat)} {i : Nat} {x : Int} (hc : cod m pc = some (79, a, b, d, z, tb)) (hp : pc + 3 = pc') (hi : i < 25) (h0 : 0 ≤ x) (h1 : x < (zstr i).length) (hr : vcs st ≤ 8) (h : Run m pc' ls (vI ((zstr i).getD x.toNat 0 : Nat) :: st) M Q) : Run m pc ls (vI x :: vS i :: st) M Q := by
  subst hp
  have hd : decode (zby m) pc = .ok (.invokevirtual a, 3) := (zdc hc).1
  have hw : inW (66 + z.toNat) (.methodLink (zyn m).cls a y_chr) = true := (zdc hc).2.1
  have hdp : 4 ≤ zdp m := of_decide_eq_true (show decide _ = true from zdk_at hc)
  obtain ⟨n, rfl⟩ : ∃ n : Nat, x = n := ⟨x.toNat, by omega⟩
  have hn : n < (zstr i).length := by omega
  refine R_pure (fun Z p l e R s mid args below meth cc Qs C H locs cells slots lr sr hl hs hH hS b1 b2 k => ?_) h
  obtain ⟨w0, ws0, rfl, ⟨rfl, g0⟩, hs0⟩ := srel_cons hs
  obtain ⟨w1, ws1, rfl, hw1, hs1⟩ := srel_cons hs0
  have hw1 : w1 = .ref (Z.2.2.2.1 i) := by
    rcases hw1 with ⟨-, q⟩ | ⟨q, -⟩
    · exact q
    · omega
  subst hw1
  have hfr := zfr C
  have hE := (zEv C).kept hS.1 hS.2.1
  have hch := @zch_lt i n
  refine W.callR (W.runV (As := [.int (Int32.ofNat n)]) (rest := ws1) (Ts := gW) ⟨C.1, C.2.1, C.2.2.1, C.2.2.2.1, C.2.2.2.2.1⟩ (c_chr l Z i n hi hn) ⟨callB_of 1 C.2.2.2.2.1 (jw_in jc_chr) rfl rfl rfl (C.2.2.2.2.1 _ jn_S) (C.2.2.2.2.1 _ (inW_ok hw)) ⟨by decide, by decide, by decide⟩ ⟨?_, ?_⟩, C.2.2.2.2.1 _ ji_chr, C.2.2.2.2.1 _ js_chr⟩ ⟨blindk, vk_recv (zEv C).2.1 hi hS, fun U hU hW => ⟨rfl, by rw [hU]; exact hE.warm hW⟩⟩ rfl rfl hl.1 rfl (lv_room (by rw [vcs_ok hs1]; exact hr)) hd ⟨b1, b2⟩) ?_
  · show 3 + 1 ≤ R.frames
    omega
  · show 8 + (2 + 11) + 40 * 3 ≤ R.locals
    omega
  · exact k lr _ hl ⟨⟨rfl, by constructor <;> (simp only [Int.toNat_natCast]; omega)⟩, hs1⟩
