/-! a method that throws -/
def znames : List String := ["java/lang/RuntimeException", "java/lang/Exception"]
def zthk (k : Nat) : Bool := (vx_at0 "RepairScan" (zic k) (zex k) znames).all (fun w => decide (w ∈ lw_tbl) && (goodWord w || (zNest w && w.onTables)) && vx_ot w)
theorem zth_0 : zthk 0 = true := by decide +kernel
theorem zth_1 : zthk 1 = true := by decide +kernel
theorem zth_2 : zthk 2 = true := by decide +kernel
theorem zth_3 : zthk 3 = true := by decide +kernel
def zxl : List Nat := [820, 892, 917, 932]
def zxi : List Nat := [80, 81, 88, 89]
def zxk (k : Nat) : Bool := inW (zxl.getD k 0) (.classLink "RepairScan" (zik k) (zex k)) && inW (zxi.getD k 0) (.initialized (zex k)) && Bundle.fit (zex k) && vx_ot (.classLink "RepairScan" (zik k) (zex k)) && vx_ot (.initialized (zex k))
theorem zxkA : ∀ k, k < 4 → zxk k = true := by decide +kernel
theorem zth_at {k : Nat} (hk : k < 4) : zthk k = true := by
  rcases (show k = 0 ∨ k = 1 ∨ k = 2 ∨ k = 3 by omega) with rfl | rfl | rfl | rfl
  · exact zth_0
  · exact zth_1
  · exact zth_2
  · exact zth_3
theorem HRel_x {Z : EP} {M : MH} {H H2 : Heap} (h : HRel Z M H) (hz : H.size ≤ H2.size) (ho : ∀ q : Nat, q < H.size → H2[q]? = H[q]?) : HRel Z (xN M) H2 := by
  obtain ⟨h1, h2, h3, h4, h5, h6⟩ := h
  refine ⟨fun e => absurd e (Nat.succ_ne_zero _), Nat.le_trans h2 hz, fun a ha => ?_, h4, h5, h6⟩
  have ha : a < M.2.2.1 := ha
  exact celR_same (h3 a ha) (fun _ => rfl) (fun _ => rfl) (Nat.le_refl _) (ho _ (by omega))
theorem endx {m : Nat} {Z : EP} {p : Program} {l : Launch} {e : Env} {R : Room} {s : State} {mid : MethodId} {args : Array Value} {below : List Frame} {meth : Method} {c : Code} {k : Nat} {M' : MH} (C : Cx m Z p l e R s mid args below meth c) : EndW m Z p l e R s mid args below meth c (vx_MQ below (fun _ _ _ _ => False) (Xz Z k M') args s R.cells R.slots (zA Z)) (.inr k) M' := by
  intro H locs cells slots pc lr sr st he hs hlr hH hS b1 b2 b3
  obtain ⟨b4, b5⟩ := b3 ⟨k, rfl⟩
  obtain ⟨rfl, hk, hcl, hdp, htb, a, d, z, tb, rfl, rfl, hc, ⟨i3, h3, e3⟩, ⟨b', c', z', tb', h4⟩, ⟨i7, h7, e7⟩⟩ := he
  rw [srel_nil hs]
  obtain ⟨hx, hb, hml, hown, hts, hr, hlocks, hini, htab, hfr, hlo, hl, hE, hB⟩ := C
  rw [hcl] at hown
  have hkk := zxkA k hk
  unfold zxk at hkk
  simp only [Bool.and_eq_true] at hkk
  have hth := List.all_eq_true.mp (zth_at hk)
  have d3 : decode (zby m) (pc + 3) = .ok (.dup, 1) := by
    obtain ⟨o, r⟩ := i3
    cases e3
    exact (zdc h3).1
  have d7 : decode (zby m) (pc + 7) = .ok (.athrow, 1) := by
    obtain ⟨o, r⟩ := i7
    cases e7
    exact (zdc h7).1
  have htl : c.exceptionTable.toList = [] := by
    rw [htb] at htab
    exact List.map_eq_nil_iff.mp htab
  refine vx_throw0 (names := znames) (A := zA Z) hx hb hl hown hkk.1.1.2 (fun n hn => ?_) (hts _ (inW_ok hkk.1.1.1.1)) (hts _ (inW_ok hkk.1.1.1.2)) (fun w hw => ?_) (fun w hw => ?_) hE.2.2.2.2.1 hE.2.2.2.2.2.1 hS (hlr.trans hml.symm) ((zdc hc).1 : decode (zby m) pc = .ok (.new (zik k), 3)) d3 ((zdc h4).1 : decode (zby m) (pc + 4) = .ok (.invokespecial (zic k), 3)) d7 (fun x hx9 => by rw [htl] at hx9; cases hx9) ?_ ?_ b4 b5 hlocks (fun t ha hz ho => ⟨rfl, HRel_x hH hz ho, Nat.le_trans hS.1 hz, fun q q1 q2 => by rw [ho q (Nat.lt_of_lt_of_le q1 hS.1)]; exact hS.2.1 q q1 q2⟩) hS.2.2 b4 b5
  · have h9 : znames.all Bundle.fit = true := by decide +kernel
    exact List.all_eq_true.mp h9 n hn
  · have h9 := hth w hw
    simp only [Bool.and_eq_true, Bool.or_eq_true, decide_eq_true_eq] at h9
    rcases h9.1.2 with q | ⟨q1, q2⟩
    · exact hts w (List.mem_filter.mpr ⟨h9.1.1, q⟩)
    · exact va_Nw.use q2 (hE.2.2.2.2.2.2.1 w (List.mem_filter.mpr ⟨h9.1.1, q1⟩))
  · rcases List.mem_cons.mp hw with rfl | hw
    · exact hkk.1.2
    · rcases List.mem_cons.mp hw with rfl | hw
      · exact hkk.2
      · have h9 := hth w hw
        simp only [Bool.and_eq_true] at h9
        exact h9.2
  · show 2 + 3 < R.frames
    omega
  · show 0 + (13 * (2 + 1) + 42) ≤ R.locals
    omega
theorem CallX_thr {m : Nat} {as ls : List MV} {M M' : MH} {k : Nat} (hm : m < 147) (ht : (ztb m).isEmpty = true) (hk : (lay as).length ≤ zml m) (hls : ent m as = ls) (hm' : mle M M') (hX : RunX m 0 ls [] M (.inr k) M') : CallX m as M (.inr k) M' := by
  intro l Z hl
  have h1 := mle_c hm'
  have h2 := mle_s hm'
  refine vx_ofW (cc := zby m) (maxL := zml m) (ret := zrt m) (ws' := gW) (zmk_plain hm) (by unfold wz zcw; rw [if_pos ht]) ?_
  intro p e s mid args below meth c s₁ B hml _ hP
  obtain ⟨⟨ws, rfl, hs⟩, hH, hE, hB⟩ := hP
  rw [lg_entry_eq]
  have C := Cx_of (Z := Z) hm hl B hml hE hB
  refine hX Z p l e _ s mid _ below meth c _ C s.heap [] 0 0 _ [] (hls ▸ ent_rel hs hk) trivial hH va_S.rf ?_ ?_ (endx C)
  · show 0 + cst M' + 1 ≤ (cst M' + 1 - cst M) + cst M
    omega
  · show 0 + sst M' + 6 * 1 ≤ (sst M' + 6 * 1 - sst M) + sst M
    omega
/-- a call, out of a run of its body -/
theorem Call_run {m : Nat} {as ls : List MV} {M : MH} {Q : Res → MH → Prop} (hk : ckM m as = true) (hls : ent m as = ls) (h : Run m 0 ls [] M Q) : Call m as M Q := by
  unfold ckM at hk
  simp only [Bool.and_eq_true, Nat.blt_eq] at hk
  obtain ⟨r, M', hQ, hm', hX⟩ := h
  refine ⟨r, M', hQ, hm', ?_⟩
  cases r with
  | inl v => exact CallX_ret hk.1.1 (Nat.le_of_ble_eq_true hk.2) hls hm' hX
  | inr k => exact CallX_thr hk.1.1 hk.1.2 (Nat.le_of_ble_eq_true hk.2) hls hm' hX
/-- of a method with a table of its own: it returns -/
theorem Call_runT {m : Nat} {as ls : List MV} {M : MH} {Q : Res → MH → Prop} (hm : m < 147) (hk : (lay as).length ≤ zml m) (hls : ent m as = ls) (h : Run m 0 ls [] M (fun r M' => (∃ v, r = .inl v) ∧ Q r M')) : Call m as M Q := by
  obtain ⟨r, M', ⟨⟨v, rfl⟩, hQ⟩, hm', hX⟩ := h
  exact ⟨_, M', hQ, hm', CallX_ret hm hk hls hm' hX⟩
