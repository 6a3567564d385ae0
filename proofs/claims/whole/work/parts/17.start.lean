/-! the start: what the Statement gives is what the mini machine stands on -/
def nar : List Cond := flatC (Jvm.Cond.and given_1 narrow_1)
def tmS (i : Nat) : Term := .string (zso i).1 (zso i).2.1
def nexL : List Nat := [63, 70, 82, 99, 107, 119, 136, 156, 175, 204, 225, 240, 258, 280, 304, 324, 348, 376, 403, 430, 458, 489, 519, 550, 583]
def npL : List (List Nat) := [[0, 81, 97, 104, 115, 131, 150, 168, 196, 216, 230, 247, 268, 291, 310, 333, 360, 386, 412, 439, 469, 498, 528, 560, 596], [81, 0, 98, 105, 116, 132, 151, 169, 197, 217, 231, 248, 269, 292, 311, 334, 361, 387, 413, 440, 470, 499, 529, 561, 597], [97, 98, 0, 106, 117, 133, 152, 170, 198, 218, 232, 249, 270, 293, 312, 335, 362, 388, 414, 441, 471, 500, 530, 562, 598], [104, 105, 106, 0, 118, 134, 153, 171, 199, 219, 233, 250, 271, 294, 313, 336, 363, 389, 415, 442, 472, 501, 531, 563, 599], [115, 116, 117, 118, 0, 135, 154, 172, 200, 220, 234, 251, 272, 295, 314, 337, 364, 390, 416, 443, 473, 502, 532, 564, 600], [131, 132, 133, 134, 135, 0, 155, 173, 201, 221, 235, 252, 273, 296, 315, 338, 365, 391, 417, 444, 474, 503, 533, 565, 601], [150, 151, 152, 153, 154, 155, 0, 174, 202, 222, 236, 253, 274, 297, 316, 339, 366, 392, 418, 445, 475, 504, 534, 566, 602], [168, 169, 170, 171, 172, 173, 174, 0, 203, 223, 237, 254, 275, 298, 317, 340, 367, 393, 419, 446, 476, 505, 535, 567, 603], [196, 197, 198, 199, 200, 201, 202, 203, 0, 224, 238, 255, 276, 299, 318, 341, 368, 394, 420, 447, 477, 506, 536, 568, 604], [216, 217, 218, 219, 220, 221, 222, 223, 224, 0, 239, 256, 277, 300, 319, 342, 369, 395, 421, 448, 478, 507, 537, 569, 605], [230, 231, 232, 233, 234, 235, 236, 237, 238, 239, 0, 257, 278, 301, 320, 343, 370, 396, 422, 449, 479, 508, 538, 570, 606], [247, 248, 249, 250, 251, 252, 253, 254, 255, 256, 257, 0, 279, 302, 321, 344, 371, 397, 423, 450, 480, 509, 539, 571, 607], [268, 269, 270, 271, 272, 273, 274, 275, 276, 277, 278, 279, 0, 303, 322, 345, 372, 398, 424, 451, 481, 510, 540, 572, 608], [291, 292, 293, 294, 295, 296, 297, 298, 299, 300, 301, 302, 303, 0, 323, 346, 373, 399, 425, 452, 482, 511, 541, 573, 609], [310, 311, 312, 313, 314, 315, 316, 317, 318, 319, 320, 321, 322, 323, 0, 347, 374, 400, 426, 453, 483, 512, 542, 574, 610], [333, 334, 335, 336, 337, 338, 339, 340, 341, 342, 343, 344, 345, 346, 347, 0, 375, 401, 427, 454, 484, 513, 543, 575, 611], [360, 361, 362, 363, 364, 365, 366, 367, 368, 369, 370, 371, 372, 373, 374, 375, 0, 402, 428, 455, 485, 514, 544, 576, 612], [386, 387, 388, 389, 390, 391, 392, 393, 394, 395, 396, 397, 398, 399, 400, 401, 402, 0, 429, 456, 486, 515, 545, 577, 613], [412, 413, 414, 415, 416, 417, 418, 419, 420, 421, 422, 423, 424, 425, 426, 427, 428, 429, 0, 457, 487, 516, 546, 578, 614], [439, 440, 441, 442, 443, 444, 445, 446, 447, 448, 449, 450, 451, 452, 453, 454, 455, 456, 457, 0, 488, 517, 547, 579, 615], [469, 470, 471, 472, 473, 474, 475, 476, 477, 478, 479, 480, 481, 482, 483, 484, 485, 486, 487, 488, 0, 518, 548, 580, 616], [498, 499, 500, 501, 502, 503, 504, 505, 506, 507, 508, 509, 510, 511, 512, 513, 514, 515, 516, 517, 518, 0, 549, 581, 617], [528, 529, 530, 531, 532, 533, 534, 535, 536, 537, 538, 539, 540, 541, 542, 543, 544, 545, 546, 547, 548, 549, 0, 582, 618], [560, 561, 562, 563, 564, 565, 566, 567, 568, 569, 570, 571, 572, 573, 574, 575, 576, 577, 578, 579, 580, 581, 582, 0, 619], [596, 597, 598, 599, 600, 601, 602, 603, 604, 605, 606, 607, 608, 609, 610, 611, 612, 613, 614, 615, 616, 617, 618, 619, 0]]
def nk1 (i : Nat) : Bool := decide (nar[nexL.getD i 0]? = some (.exactly (tmS i) "java/lang/String")) && decide (nar[nexL.getD i 0 + 1]? = some (.eq (.field (tmS i) "java/lang/String" "coder" "B") (.int 0))) && decide (nar[nexL.getD i 0 + 2]? = some (.arrayOf (.field (tmS i) "java/lang/String" "value" "[B") .byte)) && decide (nar[nexL.getD i 0 + 3]? = some (.eq (.length (.field (tmS i) "java/lang/String" "value" "[B")) (.int (Int32.ofNat (zsl.getD i 0))))) && (List.range (zsl.getD i 0)).all (fun j => decide (nar[nexL.getD i 0 + 4 + j]? = some (.eq (.elem (.field (tmS i) "java/lang/String" "value" "[B") (.int (Int32.ofNat j))) (.int ((zsb.getD i []).getD j 0)))))
theorem nk1A : (List.range 25).all nk1 = true := by decide +kernel
def nk2 (i j : Nat) : Bool := decide (i = j) || decide (nar[(npL.getD i []).getD j 0]? = some (.not (.eq (tmS i) (tmS j)))) || decide (nar[(npL.getD i []).getD j 0]? = some (.not (.eq (tmS j) (tmS i))))
theorem nk2A : (List.range 25).all (fun i => (List.range 25).all (nk2 i)) = true := by decide +kernel
theorem nar_at {args : Array Value} {s : State} (h : (Jvm.Cond.and given_1 narrow_1).before args s = true) {i : Nat} {w : Cond} (hw : nar[i]? = some w) : w.before args s = true := flat_of_before _ h w (List.mem_of_getElem? hw)
theorem start_S {args : Array Value} {s : State} (h : (Jvm.Cond.and given_1 narrow_1).before args s = true) {A : Nat → Prop} (hA : ∀ a : Nat, a < s.heap.size → ¬ A a) : ∃ adK adV : Nat → Nat, vk_S 25 zsl zsb adK adV A s s.heap ∧ ∀ i : Nat, i < 25 → (tmS i).eval args s none [] s = some (.ref (adK i)) := by
  have h1 : ∀ i, i < 25 → nk1 i = true := fun i hi => List.all_eq_true.mp nk1A i (List.mem_range.mpr hi)
  have h2 : ∀ i j, i < 25 → j < 25 → nk2 i j = true := fun i j hi hj => List.all_eq_true.mp (List.all_eq_true.mp nk2A i (List.mem_range.mpr hi)) j (List.mem_range.mpr hj)
  have h1' : ∀ i, i < 25 → (nar[nexL.getD i 0]? = some (.exactly (tmS i) "java/lang/String") ∧ nar[nexL.getD i 0 + 1]? = some (.eq (.field (tmS i) "java/lang/String" "coder" "B") (.int 0)) ∧ nar[nexL.getD i 0 + 2]? = some (.arrayOf (.field (tmS i) "java/lang/String" "value" "[B") .byte) ∧ nar[nexL.getD i 0 + 3]? = some (.eq (.length (.field (tmS i) "java/lang/String" "value" "[B")) (.int (Int32.ofNat (zsl.getD i 0)))) ∧ ∀ j, j < zsl.getD i 0 → nar[nexL.getD i 0 + 4 + j]? = some (.eq (.elem (.field (tmS i) "java/lang/String" "value" "[B") (.int (Int32.ofNat j))) (.int ((zsb.getD i []).getD j 0)))) := by
    intro i hi
    have q := h1 i hi
    unfold nk1 at q
    simp only [Bool.and_eq_true, decide_eq_true_eq] at q
    exact ⟨q.1.1.1.1, q.1.1.1.2, q.1.1.2, q.1.2, fun j hj => of_decide_eq_true (List.all_eq_true.mp q.2 j (List.mem_range.mpr hj))⟩
  refine vk_Sof (fun i hi => by have := @zlen_lt i; rw [zsl_at hi]; omega) (fun i hi => nar_at h (h1' i hi).1) (fun i hi => nar_at h (h1' i hi).2.1) (fun i hi => nar_at h (h1' i hi).2.2.1) (fun i hi => nar_at h (h1' i hi).2.2.2.1) (fun i hi j hj => nar_at h ((h1' i hi).2.2.2.2 j hj)) (fun i j hi hj hne => ?_) hA
  have q := h2 i j hi hj
  unfold nk2 at q
  simp only [Bool.or_eq_true, decide_eq_true_eq] at q
  rcases q with (q | q) | q
  · exact absurd q hne
  · exact Or.inl (nar_at h q)
  · exact Or.inr (nar_at h q)
theorem start_K {args : Array Value} {s : State} (hts : ∀ w ∈ lw_tbl, w.before args s = true) : ∃ (D : va_G) (cA : Nat → ClassId), va_K D zcl [(cA 0, .int), (cA 1, .byte), (cA 2, .boolean), (cA 3, .long), (cA 4, .object "RepairScan$Found")] s := by
  have hg : ∀ w ∈ gW, w.before args s = true := fun w hw => hts w (List.mem_filter.mp hw).1
  have h0 : ∀ b : Nat, ∃ q : ClassId × (Nat → Nat), b < 10 → u_Kn s (zcn b) (zT b) (znF b) q.1 q.2 := by
    intro b
    by_cases hb : b < 10
    · have hcl := zclk_at hb
      unfold zclk at hcl
      simp only [Bool.and_eq_true] at hcl
      obtain ⟨cC, iS, h⟩ := u_known (N := znF b) hg (zin_at hb) (hg _ (inW_ok hcl.1.2))
      exact ⟨(cC, iS), fun _ => h⟩
    · exact ⟨(0, fun _ => 0), fun h => absurd h hb⟩
  obtain ⟨f, hf⟩ := Classical.axiomOfChoice h0
  have prim : ∀ ty : FieldType, Cond.arrayClass ty ∈ gW → ∃ c : ClassId, ArrOfT s c ty ∧ s.vm.findClass ("[" ++ ty.toString) = some c := by
    intro ty hw
    obtain ⟨c, k, comp, h1, h2, h3⟩ := Cond.arrayClass_spec (hg _ hw)
    exact ⟨c, fun n z => ⟨(fun _ h => by cases h), k, h2, comp, h3⟩, h1⟩
  obtain ⟨c0, a0, r0⟩ := prim .int zw_ac_int
  obtain ⟨c1, a1, r1⟩ := prim .byte zw_ac_byte
  obtain ⟨c2, a2, r2⟩ := prim .boolean zw_ac_boolean
  obtain ⟨c3, a3, r3⟩ := prim .long zw_ac_long
  obtain ⟨comp, c4, k4, h1, h2, h3, h4, h5⟩ := Cond.arrayOver_spec (hts _ zw_ao)
  refine ⟨(fun b => (f b).1, fun b => (f b).2), fun t => if t = 0 then c0 else if t = 1 then c1 else if t = 2 then c2 else if t = 3 then c3 else c4, fun c q hq => ?_, fun k q hq => ?_⟩
  · have hc : c < 10 := by
      have := (List.getElem?_eq_some_iff.mp hq).1
      simpa [zcl] using this
    rw [zcl_at hc] at hq
    cases hq
    exact hf c hc
  · match k, hq with
    | 0, hq => cases hq; exact ⟨a0, r0⟩
    | 1, hq => cases hq; exact ⟨a1, r1⟩
    | 2, hq => cases hq; exact ⟨a2, r2⟩
    | 3, hq => cases hq; exact ⟨a3, r3⟩
    | 4, hq => cases hq; exact ⟨fun n z => ⟨(fun _ h => by cases h), k4, h3, comp, h4⟩, k4, comp, h3, h4, h1, by first | exact h5 | exact h2⟩
    | k + 5, hq => simp at hq
theorem zs_1 : Cond.laysStatic "java/lang/String" "COMPACT_STRINGS" "Z" ∈ lw_tbl := inV_ok (i := 481) (by decide +kernel)
theorem zs_2 : Cond.laysStatic Bundle.tN "UNASSIGNED_STACK" Bundle.steD ∈ lw_tbl := inV_ok (i := 847) (by decide +kernel)
theorem zs_3 : Cond.laysStatic Bundle.tN "SUPPRESSED_SENTINEL" Bundle.listD ∈ lw_tbl := inV_ok (i := 849) (by decide +kernel)
theorem zs_4 : Cond.laysStatic "jdk/internal/util/Preconditions" "SIOOBE_FORMATTER" "Ljava/util/function/BiFunction;" ∈ lw_tbl := inV_ok (i := 497) (by decide +kernel)
theorem zs_5 : Cond.initialized Bundle.tN ∈ lw_tbl := inV_ok (i := 77) (by decide +kernel)
theorem zn_1 : nar[4]? = some (.eq (.static "java/lang/String" "COMPACT_STRINGS" "Z") (.int 1)) := by decide +kernel
theorem zn_2 : nar[9]? = some (.isRef (.static Bundle.tN "UNASSIGNED_STACK" Bundle.steD)) := by decide +kernel
theorem zn_3 : nar[10]? = some (.isRef (.static Bundle.tN "SUPPRESSED_SENTINEL" Bundle.listD)) := by decide +kernel
theorem zn_4 : nar[5]? = some (.isRef (.static "jdk/internal/util/Preconditions" "SIOOBE_FORMATTER" "Ljava/util/function/BiFunction;")) := by decide +kernel
theorem zn_5 : nar[49]? = some (.not (.castable (zex 3) (zex 2))) := by decide +kernel
theorem start_E {s : State} {b L : Nat} {xs : Nat → Int32} (hts : ∀ w ∈ lw_tbl, w.before #[Value.ref b] s = true) (hX : va_X b L xs s s.heap) (hb : b < s.heap.size) (h : (Jvm.Cond.and given_1 narrow_1).before #[Value.ref b] s = true) : ∃ Z : EP, Z.1 = s.heap.size ∧ Z.2.2.2.2.2.1 = b ∧ Z.2.2.2.2.2.2.1 = L ∧ Z.2.2.2.2.2.2.2 = xs ∧ Ev Z s s.heap := by
  have hg : ∀ w ∈ gW, w.before #[Value.ref b] s = true := fun w hw => hts w (List.mem_filter.mp hw).1
  obtain ⟨D, cA, hK⟩ := start_K hts
  have hA : ∀ a : Nat, a < s.heap.size → ¬ (fun q => s.heap.size ≤ q) a := fun a ha hq => by have hq : s.heap.size ≤ a := hq; omega
  obtain ⟨adK, adV, hS, hev⟩ := start_S h hA
  refine ⟨(s.heap.size, D, cA, adK, adV, b, L, xs), rfl, rfl, rfl, rfl, hK, hS, fun i hi => vk_R.of (hts _ (zw_str i hi)) (hev i hi), va_Zof (hts _ zs_1) (hg _ jn_S) (va_eqt (nar_at h zn_1)) hA, vx_Zqof (hts _ zs_2) (hts _ zs_5) (nar_at h zn_2) hA, vx_Zqof (hts _ zs_3) (hts _ zs_5) (nar_at h zn_3) hA, fun w hw => ?_, va_AO.of (hts _ zw_ao), va_Nc.of (nar_at h zn_5), hX, hb, hA b hb, (vx_Zqof (hts _ zs_4) (hg _ jn_P) (nar_at h zn_4) hA).1⟩
  obtain ⟨h1, h2⟩ := List.mem_filter.mp hw
  refine va_Nw.of ?_ (hts w h1)
  cases w <;> first | rfl | (simp [zNest] at h2)
/-- THE LAW'S BODY OUT OF ONE RUN OF THE MINI MACHINE -/
def lawM (L : Nat) (xs : Nat → Int) : MH := (fun _ _ => 0, fun _ _ => none, 0, 0, L, xs)
theorem law_start {p : Program} {e : Env} {s : State} {m : MethodId} {below : List Frame} {meth : Method} {c : Code} (l : Launch) (hl : l.stackTraces = false) {b L : Nat} {xs : Nat → Int32} (hL : L ≤ 144) (C0 : lw_At p s m meth c b L xs) (hne : c.exceptionTable.isEmpty = true)
    (hrun : Run 147 0 [vS 100, vJ, vJ, vJ, vJ, vJ, vJ, vJ] [] (lawM L (fun j => (xs j).toInt)) (fun r M' => r = .inl (some (vI 1)) ∧ cst M' ≤ 600000 ∧ sst M' ≤ 7000000)) : W p l e room_1 s m #[Value.ref b] below meth c s.heap [] 0 0 (lw_Z below #[Value.ref b] s) (entryFrame m ([Value.ref b] : List Value).toArray 8) := by
  obtain ⟨hx, hcode, hr, hml, hown, hts, hX, hbl, hlocks, hgv⟩ := C0
  obtain ⟨Z, z1, z2, z3, z4, hE⟩ := start_E hts hX hbl hgv
  obtain ⟨r, M', ⟨rfl, hc1, hc2⟩, hm, hR⟩ := hrun
  have htab : c.exceptionTable.toList = [] := by
    rw [Array.isEmpty_iff] at hne
    rw [hne]
  have C : Cx 147 Z p l e room_1 s m #[Value.ref b] below meth c := ⟨hx, hcode, hml, hown, fun w hw => hts w (List.mem_filter.mp hw).1, hr, hlocks, fun h => absurd h (by decide), by rw [htab]; rfl, by decide, by decide, hl, hE, by omega⟩
  rw [lg_entry_eq]
  have hs : srel Z 0 [vS 100] [Value.ref b] := ⟨Or.inr ⟨rfl, by rw [z2]⟩, trivial⟩
  have hent := ent_rel (m := 147) hs (by decide)
  refine hR Z p l e room_1 s m _ below meth c _ C s.heap [] 0 0 _ [] hent trivial ⟨fun _ => z1.symm, by rw [z1]; exact Nat.le_refl _, fun a ha => absurd ha (Nat.not_lt_zero a), z3.symm, by show L < 2147483648; omega, fun j hj => ?_⟩ va_S.rf ?_ ?_ ?_
  · rw [z4]
    refine ⟨(Int32.ofInt_toInt (xs j)).symm, ?_⟩
    have h1 := Int32.le_toInt (xs j)
    have h2 := Int32.toInt_lt (xs j)
    constructor
    · show -2147483648 ≤ (xs j).toInt
      omega
    · show (xs j).toInt < 2147483648
      omega
  · show 0 + cst M' + 0 ≤ 600096 + 0
    omega
  · show 0 + sst M' + 6 * 0 ≤ 7301386 + 0
    omega
  · intro H locs cells slots pc lr sr st he hs hlr hH hS b1 b2 _
    obtain ⟨rfl, hv⟩ := he
    obtain ⟨w, ws, rfl, hw, hn⟩ := srel_cons hs
    rw [srel_nil hn]
    rcases hv with ⟨z, hz, -, a', b', d', z', tb, hc⟩ | ⟨z, hz, -⟩ | ⟨q, hz, -⟩
    · obtain ⟨rfl, -⟩ := hw
      refine va_forget (fun q hq => by have := hS.2.2 q hq; have h9 : Z.1 ≤ q.base := this; omega) ?_
      refine W.widen b1 b2 ?_
      exact lw_ret hx hcode hr hlocks ((zdc hc).1 : decode (zby 147) pc = .ok (.ireturn, 1))
    · cases hz
    · cases hz
