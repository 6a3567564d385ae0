/-! rules that read or write cells -/
theorem zcl_at {b : Nat} (hb : b < 10) : zcl[b]? = some (zcn b, zT b, znF b) := by
  unfold zcl
  rw [List.getElem?_map, List.getElem?_range hb]
  rfl
theorem zclk_at {b : Nat} (hb : b < 10) : zclk b = true := List.all_eq_true.mp zclkA b (List.mem_range.mpr hb)
theorem zin_at {b : Nat} (hb : b < 10) : ∀ w ∈ u_ws (zcn b) (zT b) (znF b), w ∈ gW := by
  intro w hw
  have h := zclk_at hb
  unfold zclk at h
  simp only [Bool.and_eq_true] at h
  obtain ⟨k, hk, rfl⟩ := List.mem_map.mp hw
  have h2 := List.all_eq_true.mp h.1.1 k hk
  simp only [Bool.and_eq_true] at h2
  exact inW_ok h2.1.1.1
theorem zty_at {b k : Nat} (hb : b < 10) (hk : k < znF b) : parseFieldDescriptor (zT b k).2.2.1 = some (zty b k) ∧ ztc (zty b k) (zft b k) = true := by
  have h := zclk_at hb
  unfold zclk at h
  simp only [Bool.and_eq_true] at h
  have h2 := List.all_eq_true.mp h.1.1 k (List.mem_range.mpr hk)
  simp only [Bool.and_eq_true, decide_eq_true_eq] at h2
  exact ⟨h2.1.1.2, h2.1.2⟩
theorem znm_at {b : Nat} (hb : b < 10) : ∀ k, k < znF b → ∀ j, j < znF b → k ≠ j → (zT b k).2.1 ≠ (zT b j).2.1 := by
  intro k hk j hj hne
  have h := zclk_at hb
  unfold zclk at h
  simp only [Bool.and_eq_true] at h
  have h2 := List.all_eq_true.mp h.1.1 k (List.mem_range.mpr hk)
  simp only [Bool.and_eq_true] at h2
  have h3 := List.all_eq_true.mp h2.2 j (List.mem_range.mpr hj)
  simp only [Bool.or_eq_true, decide_eq_true_eq] at h3
  exact h3.resolve_left hne
theorem obj_of {Z : EP} {M : MH} {H : Heap} {q b : Nat} (hH : HRel Z M H) (hq : q < M.2.2.1) (hk : K0 q = b + 1) (hb : b < 10) : objR Z M H q b := by
  have h := hH.2.2.1 q hq
  unfold celR at h
  rw [hk, if_pos (by omega)] at h
  exact h
theorem arr_of {Z : EP} {M : MH} {H : Heap} {q t : Nat} (hH : HRel Z M H) (hq : q < M.2.2.1) (hk : K0 q = t + 21) : arrR Z M H q t := by
  have h := hH.2.2.1 q hq
  unfold celR at h
  rw [hk, if_neg (by omega)] at h
  exact h
theorem celR_same {Z : EP} {M M2 : MH} {H H2 : Heap} {a : Nat} (h : celR Z M H a) (hI : ∀ k, M2.1 a k = M.1 a k) (hR : ∀ k, M2.2.1 a k = M.2.1 a k) (ht : M.2.2.1 ≤ M2.2.2.1) (hH : H2[Z.1 + a]? = H[Z.1 + a]?) : celR Z M2 H2 a := by
  have hf : ∀ (t : Nat) (z : Int) (r : Option Nat), fok M.2.2.1 t z r → fok M2.2.2.1 t z r := by
    intro t z r h
    unfold fok at h ⊢
    split
    · rename_i e
      rw [if_pos e] at h
      exact fun q hq => Nat.lt_of_lt_of_le (h q hq) ht
    · rename_i e
      rw [if_neg e] at h
      exact h
  have ha : ∀ (t : Nat) (z : Int) (r : Option Nat), aok M.2.2.1 t z r → aok M2.2.2.1 t z r := by
    intro t z r h
    unfold aok at h ⊢
    split
    · rename_i e
      rw [if_pos e] at h
      exact fun q hq => Nat.lt_of_lt_of_le (h q hq) ht
    · rename_i e
      rw [if_neg e] at h
      exact h
  unfold celR at h ⊢
  split
  · rename_i c
    rw [if_pos c] at h
    obtain ⟨h1, h2⟩ := h
    exact ⟨(h1.kept hH).to (fun k _ => by rw [hI, hR]), fun k hk => by rw [hI, hR]; exact hf _ _ _ (h2 k hk)⟩
  · rename_i c
    rw [if_neg c] at h
    obtain ⟨h1, h2⟩ := h
    refine ⟨?_, fun k hk => by rw [hI, hR]; exact ha _ _ _ (h2 k hk)⟩
    rw [hH, h1]
    have : (fun j => av Z.1 (K0 a - 21) (M2.1 a j) (M2.2.1 a j)) = (fun j => av Z.1 (K0 a - 21) (M.1 a j) (M.2.1 a j)) := by funext j; rw [hI, hR]
    rw [this]
theorem HRel_put {Z : EP} {M M2 : MH} {H H2 : Heap} {q : Nat} (h : HRel Z M H) (ht : M2.2.2 = M.2.2) (hI : ∀ a, a ≠ q → ∀ k, M2.1 a k = M.1 a k) (hR : ∀ a, a ≠ q → ∀ k, M2.2.1 a k = M.2.1 a k) (hz : H2.size = H.size) (ho : ∀ x : Nat, x ≠ Z.1 + q → H2[x]? = H[x]?) (hc : celR Z M2 H2 q) : HRel Z M2 H2 := by
  obtain ⟨h1, h2, h3, h4, h5, h6⟩ := h
  have e1 : M2.2.2.1 = M.2.2.1 := by rw [ht]
  refine ⟨fun e => by rw [hz, e1]; exact h1 (by rw [← ht]; exact e), by rw [hz, e1]; exact h2, fun a ha => ?_, by rw [ht]; exact h4, by rw [ht]; exact h5, by rw [ht]; exact h6⟩
  by_cases e : a = q
  · rw [e]; exact hc
  · exact celR_same (h3 a (by rw [← e1]; exact ha)) (hI a e) (hR a e) (by rw [e1]; exact Nat.le_refl _) (ho _ (by omega))
/-- one instruction that writes a cell -/
theorem R_heap {m pc pc' : Nat} {ls ls' st st' : List MV} {M M2 : MH} {Q : Res → MH → Prop} (htop : M2.2.2 = M.2.2)
    (step : ∀ (Z : EP) (p : Program) (l : Launch) (e : Env) (R : Room) (s : State) (mid : MethodId) (args : Array Value) (below : List Frame) (meth : Method) (c : Code) (Qs : State → Prop), Cx m Z p l e R s mid args below meth c →
      ∀ (H : Heap) (locs : List Loc) (cells slots : Nat) (lr : Array Slot) (sr : List Value), lrel Z M.2.2.1 (zml m) ls lr → srel Z M.2.2.1 st sr → HRel Z M H → va_S (zA Z) s.heap H locs → cells ≤ R.cells → slots ≤ R.slots →
        (∀ (H' : Heap) (locs' : List Loc) (lr' : Array Slot) (sr' : List Value), lrel Z M.2.2.1 (zml m) ls' lr' → srel Z M.2.2.1 st' sr' → HRel Z M2 H' → va_S (zA Z) s.heap H' locs' → W p l e R s mid args below meth c H' locs' cells slots Qs (F0 mid pc' lr' sr')) →
        W p l e R s mid args below meth c H locs cells slots Qs (F0 mid pc lr sr))
    (h : Run m pc' ls' st' M2 Q) : Run m pc ls st M Q := by
  obtain ⟨r, M', hQ, hm, hX⟩ := h
  have h1 := mle_c hm
  have h2 := mle_s hm
  have e1 : cst M2 = cst M := by unfold cst; rw [htop]
  have e2 : sst M2 = sst M := by unfold sst; rw [htop]
  refine ⟨r, M', hQ, by unfold mle at hm ⊢; rw [htop] at hm; exact hm, ?_⟩
  intro Z p l e R s mid args below meth c Qs C H locs cells slots lr sr hl hs hH hS b1 b2 hE
  exact step Z p l e R s mid args below meth c Qs C H locs cells slots lr sr hl hs hH hS (by omega) (by omega) fun H' locs' lr' sr' hl' hs' hH' hS' => hX Z p l e R s mid args below meth c Qs C H' locs' cells slots lr' sr' (by rw [htop]; exact hl') (by rw [htop]; exact hs') hH' hS' (by omega) (by omega) hE
theorem zEv {m : Nat} {Z : EP} {p : Program} {l : Launch} {e : Env} {R : Room} {s : State} {mid : MethodId} {args : Array Value} {below : List Frame} {meth : Method} {c : Code} (C : Cx m Z p l e R s mid args below meth c) : Ev Z s s.heap := C.2.2.2.2.2.2.2.2.2.2.2.2.1
theorem zK {m : Nat} {Z : EP} {p : Program} {l : Launch} {e : Env} {R : Room} {s : State} {mid : MethodId} {args : Array Value} {below : List Frame} {meth : Method} {c : Code} (C : Cx m Z p l e R s mid args below meth c) : va_K Z.2.1 zcl (ztys Z) s := (zEv C).1
theorem zN {m : Nat} {Z : EP} {p : Program} {l : Launch} {e : Env} {R : Room} {s : State} {mid : MethodId} {args : Array Value} {below : List Frame} {meth : Method} {c : Code} (C : Cx m Z p l e R s mid args below meth c) {w : Cond} (hw : w ∈ nW) (ho : w.onTables = true) : w.before args s = true := va_Nw.use ho ((zEv C).2.2.2.2.2.2.1 w hw)
theorem ztys_at (Z : EP) {t : Nat} (ht : t < 5) : ∃ ty, (ztys Z)[t]? = some (Z.2.2.1 t, ty) ∧ (t = 0 → ty = .int) ∧ (t = 1 → ty = .byte) ∧ (t = 2 → ty = .boolean) ∧ (t = 3 → ty = .long) ∧ (t = 4 → ty = .object "RepairScan$Found") := by
  rcases (show t = 0 ∨ t = 1 ∨ t = 2 ∨ t = 3 ∨ t = 4 by omega) with rfl | rfl | rfl | rfl | rfl
  all_goals exact ⟨_, rfl, by simp, by simp, by simp, by simp, by simp⟩
theorem in32 {i : Int} {n : Nat} (hi : r32 i) (h0 : 0 ≤ i) (h1 : i < n) : ¬ (Int32.ofInt i < 0 ∨ n ≤ (Int32.ofInt i).toNatClampNeg) := by
  rw [i32neg hi, i32clamp hi]
  omega
theorem ft_nref {b d : Nat} (h : zft b d ≠ 4) (z : Int) (r : Option Nat) (B : Nat) : fv B (zft b d) z r = .int (Int32.ofInt z) := if_neg h
theorem ft_ref {b d : Nat} (h : zft b d = 4) (z : Int) (r : Option Nat) (B : Nat) : fv B (zft b d) z r = zrv B r := if_pos h
theorem fok_r32 {top t : Nat} {z : Int} {r : Option Nat} (ht : t ≠ 4) (h : fok top t z r) : r32 z := by
  unfold fok at h
  rw [if_neg ht] at h
  split at h
  · rcases h with rfl | rfl <;> (constructor <;> decide)
  · exact h
theorem R_getI {m pc pc' : Nat} {ls st : List MV} {M : MH} {Q : Res → MH → Prop} {a b d : Nat} {z : Int} {tb : List (Int × Nat)} {q : Nat} (hc : cod m pc = some (53, a, b, d, z, tb)) (hp : pc + 3 = pc') (ht : zft b d ≠ 4) (hk : K0 q = b + 1) (h : Run m pc' ls (vI (M.1 q d) :: st) M Q) : Run m pc ls (vR (some q) :: st) M Q := by
  subst hp
  have hd : decode (zby m) pc = .ok (.getfield a, 3) := (zdc hc).1
  have hw := Bool.and_eq_true_iff.mp (show (inW (66 + z.toNat) (.fieldLink (zyn m).cls a (zfD b d).1 (zfD b d).2.1 (zfD b d).2.2.1) && decide (d < znF b ∧ b < 10)) = true from (zdc hc).2.1)
  obtain ⟨hd1, hb⟩ : d < znF b ∧ b < 10 := of_decide_eq_true hw.2
  refine R_pure (fun Z p l e R s mid args below meth cc Qs C H locs cells slots lr sr hl hs hH hS b1 b2 k => ?_) h
  obtain ⟨w1, ws1, rfl, ⟨rfl, g1⟩, hs1⟩ := srel_cons hs
  obtain ⟨⟨cell, q1, q2, q3, q4⟩, hfo⟩ := obj_of hH (g1 q rfl) hk hb
  obtain ⟨hS', hfc, kC, hkC, hkind⟩ := (zK C).1 b _ (zcl_at hb)
  obtain ⟨cf, kf, fi, f, hi, hsl⟩ := hS' d hd1
  refine W.getf C.1 C.2.1 C.2.2.2.1 (C.2.2.2.2.1 _ (inW_ok hw.1)) hi (u_facts hfc hkC (u_lays C.2.2.2.2.1 (zin_at hb) hd1) hi).1 q1 (by rw [q3]; exact fun h => by cases h) (v := fv Z.1 (zft b d) (M.1 q d) (M.2.1 q d)) (by rw [hsl]; exact q4 d hd1) rfl rfl hd ?_
  refine k lr _ hl ⟨?_, hs1⟩
  have hf := hfo d hd1
  rw [ft_nref ht]
  exact ⟨rfl, fok_r32 ht hf⟩
theorem R_getIN {m pc pc' : Nat} {ls st : List MV} {M : MH} {Q : Res → MH → Prop} {a b d : Nat} {z : Int} {tb : List (Int × Nat)} {q : Nat} (hc : cod m pc = some (54, a, b, d, z, tb)) (hp : pc + 3 = pc') (ht : zft b d ≠ 4) (hk : K0 q = b + 1) (h : Run m pc' ls (vI (M.1 q d) :: st) M Q) : Run m pc ls (vR (some q) :: st) M Q := by
  subst hp
  have hd : decode (zby m) pc = .ok (.getfield a, 3) := (zdc hc).1
  have hw := Bool.and_eq_true_iff.mp (show (inN (66 + z.toNat) (.fieldLinkNest (zyn m).cls a (zfD b d).1 (zfD b d).2.1 (zfD b d).2.2.1 "RepairScan") && decide (d < znF b ∧ b < 10)) = true from (zdc hc).2.1)
  obtain ⟨hd1, hb⟩ : d < znF b ∧ b < 10 := of_decide_eq_true hw.2
  refine R_pure (fun Z p l e R s mid args below meth cc Qs C H locs cells slots lr sr hl hs hH hS b1 b2 k => ?_) h
  obtain ⟨w1, ws1, rfl, ⟨rfl, g1⟩, hs1⟩ := srel_cons hs
  obtain ⟨⟨cell, q1, q2, q3, q4⟩, hfo⟩ := obj_of hH (g1 q rfl) hk hb
  obtain ⟨hS', hfc, kC, hkC, hkind⟩ := (zK C).1 b _ (zcl_at hb)
  obtain ⟨cf, kf, fi, f, hi, hsl⟩ := hS' d hd1
  refine va_Wgetf C.1 C.2.1 C.2.2.2.1 (zN C (inN_ok hw.1) rfl) hi (u_facts hfc hkC (u_lays C.2.2.2.2.1 (zin_at hb) hd1) hi).1 q1 (by rw [q3]; exact fun h => by cases h) (v := fv Z.1 (zft b d) (M.1 q d) (M.2.1 q d)) (by rw [hsl]; exact q4 d hd1) rfl rfl hd ?_
  refine k lr _ hl ⟨?_, hs1⟩
  have hf := hfo d hd1
  rw [ft_nref ht]
  exact ⟨rfl, fok_r32 ht hf⟩
theorem R_getR {m pc pc' : Nat} {ls st : List MV} {M : MH} {Q : Res → MH → Prop} {a b d : Nat} {z : Int} {tb : List (Int × Nat)} {q : Nat} (hc : cod m pc = some (53, a, b, d, z, tb)) (hp : pc + 3 = pc') (ht : zft b d = 4) (hk : K0 q = b + 1) (h : Run m pc' ls (vR (M.2.1 q d) :: st) M Q) : Run m pc ls (vR (some q) :: st) M Q := by
  subst hp
  have hd : decode (zby m) pc = .ok (.getfield a, 3) := (zdc hc).1
  have hw := Bool.and_eq_true_iff.mp (show (inW (66 + z.toNat) (.fieldLink (zyn m).cls a (zfD b d).1 (zfD b d).2.1 (zfD b d).2.2.1) && decide (d < znF b ∧ b < 10)) = true from (zdc hc).2.1)
  obtain ⟨hd1, hb⟩ : d < znF b ∧ b < 10 := of_decide_eq_true hw.2
  refine R_pure (fun Z p l e R s mid args below meth cc Qs C H locs cells slots lr sr hl hs hH hS b1 b2 k => ?_) h
  obtain ⟨w1, ws1, rfl, ⟨rfl, g1⟩, hs1⟩ := srel_cons hs
  obtain ⟨⟨cell, q1, q2, q3, q4⟩, hfo⟩ := obj_of hH (g1 q rfl) hk hb
  obtain ⟨hS', hfc, kC, hkC, hkind⟩ := (zK C).1 b _ (zcl_at hb)
  obtain ⟨cf, kf, fi, f, hi, hsl⟩ := hS' d hd1
  refine W.getf C.1 C.2.1 C.2.2.2.1 (C.2.2.2.2.1 _ (inW_ok hw.1)) hi (u_facts hfc hkC (u_lays C.2.2.2.2.1 (zin_at hb) hd1) hi).1 q1 (by rw [q3]; exact fun h => by cases h) (v := fv Z.1 (zft b d) (M.1 q d) (M.2.1 q d)) (by rw [hsl]; exact q4 d hd1) rfl rfl hd ?_
  refine k lr _ hl ⟨?_, hs1⟩
  have hf := hfo d hd1
  rw [ft_ref ht]
  unfold fok at hf
  rw [if_pos ht] at hf
  exact ⟨rfl, hf⟩
theorem R_getRN {m pc pc' : Nat} {ls st : List MV} {M : MH} {Q : Res → MH → Prop} {a b d : Nat} {z : Int} {tb : List (Int × Nat)} {q : Nat} (hc : cod m pc = some (54, a, b, d, z, tb)) (hp : pc + 3 = pc') (ht : zft b d = 4) (hk : K0 q = b + 1) (h : Run m pc' ls (vR (M.2.1 q d) :: st) M Q) : Run m pc ls (vR (some q) :: st) M Q := by
  subst hp
  have hd : decode (zby m) pc = .ok (.getfield a, 3) := (zdc hc).1
  have hw := Bool.and_eq_true_iff.mp (show (inN (66 + z.toNat) (.fieldLinkNest (zyn m).cls a (zfD b d).1 (zfD b d).2.1 (zfD b d).2.2.1 "RepairScan") && decide (d < znF b ∧ b < 10)) = true from (zdc hc).2.1)
  obtain ⟨hd1, hb⟩ : d < znF b ∧ b < 10 := of_decide_eq_true hw.2
  refine R_pure (fun Z p l e R s mid args below meth cc Qs C H locs cells slots lr sr hl hs hH hS b1 b2 k => ?_) h
  obtain ⟨w1, ws1, rfl, ⟨rfl, g1⟩, hs1⟩ := srel_cons hs
  obtain ⟨⟨cell, q1, q2, q3, q4⟩, hfo⟩ := obj_of hH (g1 q rfl) hk hb
  obtain ⟨hS', hfc, kC, hkC, hkind⟩ := (zK C).1 b _ (zcl_at hb)
  obtain ⟨cf, kf, fi, f, hi, hsl⟩ := hS' d hd1
  refine va_Wgetf C.1 C.2.1 C.2.2.2.1 (zN C (inN_ok hw.1) rfl) hi (u_facts hfc hkC (u_lays C.2.2.2.2.1 (zin_at hb) hd1) hi).1 q1 (by rw [q3]; exact fun h => by cases h) (v := fv Z.1 (zft b d) (M.1 q d) (M.2.1 q d)) (by rw [hsl]; exact q4 d hd1) rfl rfl hd ?_
  refine k lr _ hl ⟨?_, hs1⟩
  have hf := hfo d hd1
  rw [ft_ref ht]
  unfold fok at hf
  rw [if_pos ht] at hf
  exact ⟨rfl, hf⟩
theorem updV_fvI {M : MH} {q b d B : Nat} {x : Int} (ht : zft b d ≠ 4) (k : Nat) : updV (fun k => fv B (zft b k) (M.1 q k) (M.2.1 q k)) d (.int (Int32.ofInt x)) k = fv B (zft b k) ((sI M q d x).1 q k) ((sI M q d x).2.1 q k) := by
  unfold updV sI
  by_cases e : k = d
  · subst e
    simp [fv, ht]
  · simp [e]
theorem updV_fvR {M : MH} {q b d B : Nat} {r : Option Nat} (ht : zft b d = 4) (k : Nat) : updV (fun k => fv B (zft b k) (M.1 q k) (M.2.1 q k)) d (zrv B r) k = fv B (zft b k) ((sR M q d r).1 q k) ((sR M q d r).2.1 q k) := by
  unfold updV sR
  by_cases e : k = d
  · subst e
    simp [fv, ht]
  · simp [e]
theorem zfitI {b d : Nat} {x : Int} (hb : b < 10) (hd : d < znF b) (ht : zft b d ≠ 4) (hx : zft b d = 1 → x = 0 ∨ x = 1) : narrow (zty b d) (.int (Int32.ofInt x)) = .int (Int32.ofInt x) ∧ fits (zty b d) (.int (Int32.ofInt x)) = true := by
  have h := (zty_at hb hd).2
  generalize zty b d = ty at h ⊢
  generalize zft b d = n at h ht hx
  cases ty with
  | int => exact ⟨rfl, rfl⟩
  | boolean =>
    have e : n = 1 := by simpa [ztc] using h
    rcases hx e with rfl | rfl <;> exact ⟨by decide, by decide⟩
  | object _ => exact absurd (by simpa [ztc] using h) ht
  | array _ => exact absurd (by simpa [ztc] using h) ht
  | _ => simp [ztc] at h
theorem zfitR {b d : Nat} {r : Option Nat} {B : Nat} (hb : b < 10) (hd : d < znF b) (ht : zft b d = 4) : narrow (zty b d) (zrv B r) = zrv B r ∧ fits (zty b d) (zrv B r) = true := by
  have h := (zty_at hb hd).2
  generalize zty b d = ty at h ⊢
  rw [ht] at h
  cases ty with
  | object _ => cases r <;> exact ⟨rfl, rfl⟩
  | array _ => cases r <;> exact ⟨rfl, rfl⟩
  | _ => simp [ztc] at h
theorem R_putI {m pc pc' : Nat} {ls st : List MV} {M : MH} {Q : Res → MH → Prop} {a b d : Nat} {z : Int} {tb : List (Int × Nat)} {q : Nat} {x : Int} (hc : cod m pc = some (55, a, b, d, z, tb)) (hp : pc + 3 = pc') (ht : zft b d ≠ 4) (hx : zft b d = 1 → x = 0 ∨ x = 1) (hk : K0 q = b + 1) (h : Run m pc' ls st (sI M q d x) Q) : Run m pc ls (vI x :: vR (some q) :: st) M Q := by
  subst hp
  have hd : decode (zby m) pc = .ok (.putfield a, 3) := (zdc hc).1
  have hw := Bool.and_eq_true_iff.mp (show (inW (66 + z.toNat) (.fieldLink (zyn m).cls a (zfD b d).1 (zfD b d).2.1 (zfD b d).2.2.1) && decide (d < znF b ∧ b < 10 ∧ (zfD b d).2.2.2 = false)) = true from (zdc hc).2.1)
  obtain ⟨hd1, hb, hfi⟩ : d < znF b ∧ b < 10 ∧ (zfD b d).2.2.2 = false := of_decide_eq_true hw.2
  refine R_heap (M2 := (sI M q d x)) rfl (fun Z p l e R s mid args below meth cc Qs C H locs cells slots lr sr hl hs hH hS b1 b2 k => ?_) h
  obtain ⟨w1, ws1, rfl, ⟨rfl, g1⟩, hs1⟩ := srel_cons hs
  obtain ⟨w2, ws2, rfl, ⟨rfl, g2⟩, hs2⟩ := srel_cons hs1
  obtain ⟨⟨cell, q1, q2, q3, q4⟩, hfo⟩ := obj_of hH (g2 q rfl) hk hb
  have hap := va_apart (own := (zyn m).cls) C.2.2.2.2.1 (zin_at hb) (zty b) (fun k hk => (zty_at hb hk).1) (znm_at hb) (zK C) (zcl_at hb)
  obtain ⟨hS', hfc, kC, hkC, hkind⟩ := (zK C).1 b _ (zcl_at hb)
  obtain ⟨cf, kf, fi, f, hi, hsl⟩ := hS' d hd1
  have hfit := zfitI hb hd1 ht hx
  have hlay := C.2.2.2.2.1 _ (zin_at hb _ (u_in_lay hd1))
  unfold u_lay at hlay
  rw [if_neg (by rw [show (zT b d).2.2.2 = false from hfi]; decide)] at hlay
  have hst := (u_facts hfc hkC (u_lays C.2.2.2.2.1 (zin_at hb) hd1) hi).1
  have h6 := u_store hfc hkC hkind hlay hi (zty_at hb hd1).1 hfit.1 hfit.2
  refine W.putK C.1 C.2.1 (f := f) ⟨C.2.2.2.1, C.2.2.2.2.1 _ (inW_ok hw.1), ⟨_, _, _, hi⟩, hst⟩ (by rw [q2]; exact h6) q1 q3 (by rw [hsl]; exact k2_hasslot (q4 d hd1)) rfl rfl hd fun H' e1 e2 e3 => ?_
  rw [hsl] at e1
  refine k H' _ lr _ hl hs2 (HRel_put (q := q) hH rfl (fun a' hne k' => ?_) (fun a' hne k' => ?_) e2 e3 ?_) (hS.put e2 e3 (show Z.1 ≤ Z.1 + q by omega))
  · simp [sI, hne]
  · simp [sI, hne]
  · unfold celR
    rw [hk, if_pos (by omega)]
    refine ⟨t_OB.to ⟨_, e1, q2, q3, t_set q4 hap hd1 _⟩ (fun j _ => updV_fvI ht j), fun j hj => ?_⟩
    by_cases e : j = d
    · subst e
      simp only [sI, and_self, if_true]
      unfold fok
      rw [Nat.add_sub_cancel, if_neg ht]
      split
      · rename_i e9
        exact hx e9
      · exact g1
    · have := hfo j hj
      simpa [sI, e] using this
theorem R_putIN {m pc pc' : Nat} {ls st : List MV} {M : MH} {Q : Res → MH → Prop} {a b d : Nat} {z : Int} {tb : List (Int × Nat)} {q : Nat} {x : Int} (hc : cod m pc = some (56, a, b, d, z, tb)) (hp : pc + 3 = pc') (ht : zft b d ≠ 4) (hx : zft b d = 1 → x = 0 ∨ x = 1) (hk : K0 q = b + 1) (h : Run m pc' ls st (sI M q d x) Q) : Run m pc ls (vI x :: vR (some q) :: st) M Q := by
  subst hp
  have hd : decode (zby m) pc = .ok (.putfield a, 3) := (zdc hc).1
  have hw := Bool.and_eq_true_iff.mp (show (inN (66 + z.toNat) (.fieldLinkNest (zyn m).cls a (zfD b d).1 (zfD b d).2.1 (zfD b d).2.2.1 "RepairScan") && decide (d < znF b ∧ b < 10 ∧ (zfD b d).2.2.2 = false)) = true from (zdc hc).2.1)
  obtain ⟨hd1, hb, hfi⟩ : d < znF b ∧ b < 10 ∧ (zfD b d).2.2.2 = false := of_decide_eq_true hw.2
  refine R_heap (M2 := (sI M q d x)) rfl (fun Z p l e R s mid args below meth cc Qs C H locs cells slots lr sr hl hs hH hS b1 b2 k => ?_) h
  obtain ⟨w1, ws1, rfl, ⟨rfl, g1⟩, hs1⟩ := srel_cons hs
  obtain ⟨w2, ws2, rfl, ⟨rfl, g2⟩, hs2⟩ := srel_cons hs1
  obtain ⟨⟨cell, q1, q2, q3, q4⟩, hfo⟩ := obj_of hH (g2 q rfl) hk hb
  have hap := va_apart (own := (zyn m).cls) C.2.2.2.2.1 (zin_at hb) (zty b) (fun k hk => (zty_at hb hk).1) (znm_at hb) (zK C) (zcl_at hb)
  obtain ⟨hS', hfc, kC, hkC, hkind⟩ := (zK C).1 b _ (zcl_at hb)
  obtain ⟨cf, kf, fi, f, hi, hsl⟩ := hS' d hd1
  have hfit := zfitI hb hd1 ht hx
  have hlay := C.2.2.2.2.1 _ (zin_at hb _ (u_in_lay hd1))
  unfold u_lay at hlay
  rw [if_neg (by rw [show (zT b d).2.2.2 = false from hfi]; decide)] at hlay
  have hst := (u_facts hfc hkC (u_lays C.2.2.2.2.1 (zin_at hb) hd1) hi).1
  have h6 := u_store hfc hkC hkind hlay hi (zty_at hb hd1).1 hfit.1 hfit.2
  refine va_WputK C.1 C.2.1 C.2.2.2.1 (zN C (inN_ok hw.1) rfl) hi hst (by rw [q2]; exact h6) q1 q3 (by rw [hsl]; exact k2_hasslot (q4 d hd1)) rfl rfl hd fun H' e1 e2 e3 => ?_
  rw [hsl] at e1
  refine k H' _ lr _ hl hs2 (HRel_put (q := q) hH rfl (fun a' hne k' => ?_) (fun a' hne k' => ?_) e2 e3 ?_) (hS.put e2 e3 (show Z.1 ≤ Z.1 + q by omega))
  · simp [sI, hne]
  · simp [sI, hne]
  · unfold celR
    rw [hk, if_pos (by omega)]
    refine ⟨t_OB.to ⟨_, e1, q2, q3, t_set q4 hap hd1 _⟩ (fun j _ => updV_fvI ht j), fun j hj => ?_⟩
    by_cases e : j = d
    · subst e
      simp only [sI, and_self, if_true]
      unfold fok
      rw [Nat.add_sub_cancel, if_neg ht]
      split
      · rename_i e9
        exact hx e9
      · exact g1
    · have := hfo j hj
      simpa [sI, e] using this
theorem R_putIF {m pc pc' : Nat} {ls st : List MV} {M : MH} {Q : Res → MH → Prop} {a b d : Nat} {z : Int} {tb : List (Int × Nat)} {q : Nat} {x : Int} (hc : cod m pc = some (57, a, b, d, z, tb)) (hp : pc + 3 = pc') (ht : zft b d ≠ 4) (hx : zft b d = 1 → x = 0 ∨ x = 1) (hk : K0 q = b + 1) (hinit : (zyn m).name = "<init>") (h : Run m pc' ls st (sI M q d x) Q) : Run m pc ls (vI x :: vR (some q) :: st) M Q := by
  subst hp
  have hd : decode (zby m) pc = .ok (.putfield a, 3) := (zdc hc).1
  have hw := Bool.and_eq_true_iff.mp (show (inW (66 + z.toNat) (.fieldLink (zyn m).cls a (zfD b d).1 (zfD b d).2.1 (zfD b d).2.2.1) && decide (d < znF b ∧ b < 10 ∧ (zfD b d).2.2.2 = true ∧ (zfD b d).1 = (zyn m).cls)) = true from (zdc hc).2.1)
  obtain ⟨hd1, hb, hfi, hdc⟩ : d < znF b ∧ b < 10 ∧ (zfD b d).2.2.2 = true ∧ (zfD b d).1 = (zyn m).cls := of_decide_eq_true hw.2
  refine R_heap (M2 := (sI M q d x)) rfl (fun Z p l e R s mid args below meth cc Qs C H locs cells slots lr sr hl hs hH hS b1 b2 k => ?_) h
  obtain ⟨w1, ws1, rfl, ⟨rfl, g1⟩, hs1⟩ := srel_cons hs
  obtain ⟨w2, ws2, rfl, ⟨rfl, g2⟩, hs2⟩ := srel_cons hs1
  obtain ⟨⟨cell, q1, q2, q3, q4⟩, hfo⟩ := obj_of hH (g2 q rfl) hk hb
  have hap := va_apart (own := (zyn m).cls) C.2.2.2.2.1 (zin_at hb) (zty b) (fun k hk => (zty_at hb hk).1) (znm_at hb) (zK C) (zcl_at hb)
  obtain ⟨hS', hfc, kC, hkC, hkind⟩ := (zK C).1 b _ (zcl_at hb)
  obtain ⟨cf, kf, fi, f, hi, hsl⟩ := hS' d hd1
  have hfit := zfitI hb hd1 ht hx
  have hlay := C.2.2.2.2.1 _ (zin_at hb _ (u_in_lay hd1))
  unfold u_lay at hlay
  rw [if_pos (show (zT b d).2.2.2 = true from hfi)] at hlay
  have hst := (u_facts hfc hkC (u_lays C.2.2.2.2.1 (zin_at hb) hd1) hi).1
  have hcf : mid.cls = cf := by
    obtain ⟨_, _, c', _, _, _, -, -, hf', -, -, -, hown2, -⟩ := Cond.laysFinal_spec hlay
    have e1 : c' = cf := by have := hi.symm.trans hf'; simp at this; exact this.1.symm
    rw [show (zT b d).1 = (zyn m).cls from hdc] at hown2
    rw [← e1]; exact Option.some.inj (C.2.2.2.1.symm.trans hown2)
  have h6 := u_fits hfc hkC hkind (Or.inr hlay) hi (zty_at hb hd1).1 hfit.1 hfit.2
  refine W.putFinK C.1 C.2.1 C.2.2.2.1 (C.2.2.2.2.1 _ (inW_ok hw.1)) hi hst hcf (C.2.2.2.2.2.2.2.1 hinit) (by rw [q2]; exact h6) q1 q3 (by rw [hsl]; exact k2_hasslot (q4 d hd1)) rfl rfl hd fun H' e1 e2 e3 => ?_
  rw [hsl] at e1
  refine k H' _ lr _ hl hs2 (HRel_put (q := q) hH rfl (fun a' hne k' => ?_) (fun a' hne k' => ?_) e2 e3 ?_) (hS.put e2 e3 (show Z.1 ≤ Z.1 + q by omega))
  · simp [sI, hne]
  · simp [sI, hne]
  · unfold celR
    rw [hk, if_pos (by omega)]
    refine ⟨t_OB.to ⟨_, e1, q2, q3, t_set q4 hap hd1 _⟩ (fun j _ => updV_fvI ht j), fun j hj => ?_⟩
    by_cases e : j = d
    · subst e
      simp only [sI, and_self, if_true]
      unfold fok
      rw [Nat.add_sub_cancel, if_neg ht]
      split
      · rename_i e9
        exact hx e9
      · exact g1
    · have := hfo j hj
      simpa [sI, e] using this
theorem R_putR {m pc pc' : Nat} {ls st : List MV} {M : MH} {Q : Res → MH → Prop} {a b d : Nat} {z : Int} {tb : List (Int × Nat)} {q : Nat} {r : Option Nat} (hc : cod m pc = some (55, a, b, d, z, tb)) (hp : pc + 3 = pc') (ht : zft b d = 4) (hk : K0 q = b + 1) (h : Run m pc' ls st (sR M q d r) Q) : Run m pc ls (vR r :: vR (some q) :: st) M Q := by
  subst hp
  have hd : decode (zby m) pc = .ok (.putfield a, 3) := (zdc hc).1
  have hw := Bool.and_eq_true_iff.mp (show (inW (66 + z.toNat) (.fieldLink (zyn m).cls a (zfD b d).1 (zfD b d).2.1 (zfD b d).2.2.1) && decide (d < znF b ∧ b < 10 ∧ (zfD b d).2.2.2 = false)) = true from (zdc hc).2.1)
  obtain ⟨hd1, hb, hfi⟩ : d < znF b ∧ b < 10 ∧ (zfD b d).2.2.2 = false := of_decide_eq_true hw.2
  refine R_heap (M2 := (sR M q d r)) rfl (fun Z p l e R s mid args below meth cc Qs C H locs cells slots lr sr hl hs hH hS b1 b2 k => ?_) h
  obtain ⟨w1, ws1, rfl, ⟨rfl, g1⟩, hs1⟩ := srel_cons hs
  obtain ⟨w2, ws2, rfl, ⟨rfl, g2⟩, hs2⟩ := srel_cons hs1
  obtain ⟨⟨cell, q1, q2, q3, q4⟩, hfo⟩ := obj_of hH (g2 q rfl) hk hb
  have hap := va_apart (own := (zyn m).cls) C.2.2.2.2.1 (zin_at hb) (zty b) (fun k hk => (zty_at hb hk).1) (znm_at hb) (zK C) (zcl_at hb)
  obtain ⟨hS', hfc, kC, hkC, hkind⟩ := (zK C).1 b _ (zcl_at hb)
  obtain ⟨cf, kf, fi, f, hi, hsl⟩ := hS' d hd1
  have hfit := @zfitR b d r Z.1 hb hd1 ht
  have hlay := C.2.2.2.2.1 _ (zin_at hb _ (u_in_lay hd1))
  unfold u_lay at hlay
  rw [if_neg (by rw [show (zT b d).2.2.2 = false from hfi]; decide)] at hlay
  have hst := (u_facts hfc hkC (u_lays C.2.2.2.2.1 (zin_at hb) hd1) hi).1
  have h6 := u_store hfc hkC hkind hlay hi (zty_at hb hd1).1 hfit.1 hfit.2
  refine W.putK C.1 C.2.1 (f := f) ⟨C.2.2.2.1, C.2.2.2.2.1 _ (inW_ok hw.1), ⟨_, _, _, hi⟩, hst⟩ (by rw [q2]; exact h6) q1 q3 (by rw [hsl]; exact k2_hasslot (q4 d hd1)) rfl rfl hd fun H' e1 e2 e3 => ?_
  rw [hsl] at e1
  refine k H' _ lr _ hl hs2 (HRel_put (q := q) hH rfl (fun a' hne k' => ?_) (fun a' hne k' => ?_) e2 e3 ?_) (hS.put e2 e3 (show Z.1 ≤ Z.1 + q by omega))
  · simp [sR, hne]
  · simp [sR, hne]
  · unfold celR
    rw [hk, if_pos (by omega)]
    refine ⟨t_OB.to ⟨_, e1, q2, q3, t_set q4 hap hd1 _⟩ (fun j _ => updV_fvR ht j), fun j hj => ?_⟩
    by_cases e : j = d
    · subst e
      simp only [sR, and_self, if_true]
      unfold fok
      rw [Nat.add_sub_cancel, if_pos ht]
      exact g1
    · have := hfo j hj
      simpa [sR, e] using this
theorem R_putRN {m pc pc' : Nat} {ls st : List MV} {M : MH} {Q : Res → MH → Prop} {a b d : Nat} {z : Int} {tb : List (Int × Nat)} {q : Nat} {r : Option Nat} (hc : cod m pc = some (56, a, b, d, z, tb)) (hp : pc + 3 = pc') (ht : zft b d = 4) (hk : K0 q = b + 1) (h : Run m pc' ls st (sR M q d r) Q) : Run m pc ls (vR r :: vR (some q) :: st) M Q := by
  subst hp
  have hd : decode (zby m) pc = .ok (.putfield a, 3) := (zdc hc).1
  have hw := Bool.and_eq_true_iff.mp (show (inN (66 + z.toNat) (.fieldLinkNest (zyn m).cls a (zfD b d).1 (zfD b d).2.1 (zfD b d).2.2.1 "RepairScan") && decide (d < znF b ∧ b < 10 ∧ (zfD b d).2.2.2 = false)) = true from (zdc hc).2.1)
  obtain ⟨hd1, hb, hfi⟩ : d < znF b ∧ b < 10 ∧ (zfD b d).2.2.2 = false := of_decide_eq_true hw.2
  refine R_heap (M2 := (sR M q d r)) rfl (fun Z p l e R s mid args below meth cc Qs C H locs cells slots lr sr hl hs hH hS b1 b2 k => ?_) h
  obtain ⟨w1, ws1, rfl, ⟨rfl, g1⟩, hs1⟩ := srel_cons hs
  obtain ⟨w2, ws2, rfl, ⟨rfl, g2⟩, hs2⟩ := srel_cons hs1
  obtain ⟨⟨cell, q1, q2, q3, q4⟩, hfo⟩ := obj_of hH (g2 q rfl) hk hb
  have hap := va_apart (own := (zyn m).cls) C.2.2.2.2.1 (zin_at hb) (zty b) (fun k hk => (zty_at hb hk).1) (znm_at hb) (zK C) (zcl_at hb)
  obtain ⟨hS', hfc, kC, hkC, hkind⟩ := (zK C).1 b _ (zcl_at hb)
  obtain ⟨cf, kf, fi, f, hi, hsl⟩ := hS' d hd1
  have hfit := @zfitR b d r Z.1 hb hd1 ht
  have hlay := C.2.2.2.2.1 _ (zin_at hb _ (u_in_lay hd1))
  unfold u_lay at hlay
  rw [if_neg (by rw [show (zT b d).2.2.2 = false from hfi]; decide)] at hlay
  have hst := (u_facts hfc hkC (u_lays C.2.2.2.2.1 (zin_at hb) hd1) hi).1
  have h6 := u_store hfc hkC hkind hlay hi (zty_at hb hd1).1 hfit.1 hfit.2
  refine va_WputK C.1 C.2.1 C.2.2.2.1 (zN C (inN_ok hw.1) rfl) hi hst (by rw [q2]; exact h6) q1 q3 (by rw [hsl]; exact k2_hasslot (q4 d hd1)) rfl rfl hd fun H' e1 e2 e3 => ?_
  rw [hsl] at e1
  refine k H' _ lr _ hl hs2 (HRel_put (q := q) hH rfl (fun a' hne k' => ?_) (fun a' hne k' => ?_) e2 e3 ?_) (hS.put e2 e3 (show Z.1 ≤ Z.1 + q by omega))
  · simp [sR, hne]
  · simp [sR, hne]
  · unfold celR
    rw [hk, if_pos (by omega)]
    refine ⟨t_OB.to ⟨_, e1, q2, q3, t_set q4 hap hd1 _⟩ (fun j _ => updV_fvR ht j), fun j hj => ?_⟩
    by_cases e : j = d
    · subst e
      simp only [sR, and_self, if_true]
      unfold fok
      rw [Nat.add_sub_cancel, if_pos ht]
      exact g1
    · have := hfo j hj
      simpa [sR, e] using this
theorem R_putRF {m pc pc' : Nat} {ls st : List MV} {M : MH} {Q : Res → MH → Prop} {a b d : Nat} {z : Int} {tb : List (Int × Nat)} {q : Nat} {r : Option Nat} (hc : cod m pc = some (57, a, b, d, z, tb)) (hp : pc + 3 = pc') (ht : zft b d = 4) (hk : K0 q = b + 1) (hinit : (zyn m).name = "<init>") (h : Run m pc' ls st (sR M q d r) Q) : Run m pc ls (vR r :: vR (some q) :: st) M Q := by
  subst hp
  have hd : decode (zby m) pc = .ok (.putfield a, 3) := (zdc hc).1
  have hw := Bool.and_eq_true_iff.mp (show (inW (66 + z.toNat) (.fieldLink (zyn m).cls a (zfD b d).1 (zfD b d).2.1 (zfD b d).2.2.1) && decide (d < znF b ∧ b < 10 ∧ (zfD b d).2.2.2 = true ∧ (zfD b d).1 = (zyn m).cls)) = true from (zdc hc).2.1)
  obtain ⟨hd1, hb, hfi, hdc⟩ : d < znF b ∧ b < 10 ∧ (zfD b d).2.2.2 = true ∧ (zfD b d).1 = (zyn m).cls := of_decide_eq_true hw.2
  refine R_heap (M2 := (sR M q d r)) rfl (fun Z p l e R s mid args below meth cc Qs C H locs cells slots lr sr hl hs hH hS b1 b2 k => ?_) h
  obtain ⟨w1, ws1, rfl, ⟨rfl, g1⟩, hs1⟩ := srel_cons hs
  obtain ⟨w2, ws2, rfl, ⟨rfl, g2⟩, hs2⟩ := srel_cons hs1
  obtain ⟨⟨cell, q1, q2, q3, q4⟩, hfo⟩ := obj_of hH (g2 q rfl) hk hb
  have hap := va_apart (own := (zyn m).cls) C.2.2.2.2.1 (zin_at hb) (zty b) (fun k hk => (zty_at hb hk).1) (znm_at hb) (zK C) (zcl_at hb)
  obtain ⟨hS', hfc, kC, hkC, hkind⟩ := (zK C).1 b _ (zcl_at hb)
  obtain ⟨cf, kf, fi, f, hi, hsl⟩ := hS' d hd1
  have hfit := @zfitR b d r Z.1 hb hd1 ht
  have hlay := C.2.2.2.2.1 _ (zin_at hb _ (u_in_lay hd1))
  unfold u_lay at hlay
  rw [if_pos (show (zT b d).2.2.2 = true from hfi)] at hlay
  have hst := (u_facts hfc hkC (u_lays C.2.2.2.2.1 (zin_at hb) hd1) hi).1
  have hcf : mid.cls = cf := by
    obtain ⟨_, _, c', _, _, _, -, -, hf', -, -, -, hown2, -⟩ := Cond.laysFinal_spec hlay
    have e1 : c' = cf := by have := hi.symm.trans hf'; simp at this; exact this.1.symm
    rw [show (zT b d).1 = (zyn m).cls from hdc] at hown2
    rw [← e1]; exact Option.some.inj (C.2.2.2.1.symm.trans hown2)
  have h6 := u_fits hfc hkC hkind (Or.inr hlay) hi (zty_at hb hd1).1 hfit.1 hfit.2
  refine W.putFinK C.1 C.2.1 C.2.2.2.1 (C.2.2.2.2.1 _ (inW_ok hw.1)) hi hst hcf (C.2.2.2.2.2.2.2.1 hinit) (by rw [q2]; exact h6) q1 q3 (by rw [hsl]; exact k2_hasslot (q4 d hd1)) rfl rfl hd fun H' e1 e2 e3 => ?_
  rw [hsl] at e1
  refine k H' _ lr _ hl hs2 (HRel_put (q := q) hH rfl (fun a' hne k' => ?_) (fun a' hne k' => ?_) e2 e3 ?_) (hS.put e2 e3 (show Z.1 ≤ Z.1 + q by omega))
  · simp [sR, hne]
  · simp [sR, hne]
  · unfold celR
    rw [hk, if_pos (by omega)]
    refine ⟨t_OB.to ⟨_, e1, q2, q3, t_set q4 hap hd1 _⟩ (fun j _ => updV_fvR ht j), fun j hj => ?_⟩
    by_cases e : j = d
    · subst e
      simp only [sR, and_self, if_true]
      unfold fok
      rw [Nat.add_sub_cancel, if_pos ht]
      exact g1
    · have := hfo j hj
      simpa [sR, e] using this
