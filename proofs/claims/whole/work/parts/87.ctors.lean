/-! the constructors: all numbers are 0, the references are those of the table -/
abbrev HR : Type := Nat → Nat → Option Nat
def Ct (L : Nat) (xs : Nat → Int) (t : Nat) (R : HR) : MH := (fun _ _ => 0, R, t, 0, L, xs)
def nR (R : HR) (t : Nat) : HR := fun b j => if b = t then none else R b j
def uR (R : HR) (a k : Nat) (v : Option Nat) : HR := fun b j => if b = a ∧ j = k then v else R b j
def D0 (a k : Nat) : Nat := if a = 1 then 6 else if a = 26 ∨ a = 177 then a + 1 else if a = 8 ∨ a = 159 then a + 144 else a + 1 + 2 * k
def xr (a k : Nat) : Nat := if dyn a k = true then D0 a k else srf a k
theorem aN_C {L : Nat} {xs : Nat → Int} {t : Nat} {R : HR} : aN (Ct L xs t R) = Ct L xs (t + 1) (nR R t) := by
  have e1 : (fun b j => if b = t then (0 : Int) else (Ct L xs t R).1 b j) = fun _ _ => 0 := by
    funext b j
    show (if b = t then (0 : Int) else 0) = 0
    split <;> rfl
  have e2 : aN (Ct L xs t R) = (fun b j => if b = t then (0 : Int) else (Ct L xs t R).1 b j, nR R t, t + 1, 0, L, xs) := rfl
  rw [e2, e1]; rfl
theorem sI_C {L : Nat} {xs : Nat → Int} {t : Nat} {R : HR} {a k : Nat} : sI (Ct L xs t R) a k 0 = Ct L xs t R := by
  have e1 : (fun b j => if b = a ∧ j = k then (0 : Int) else (Ct L xs t R).1 b j) = fun _ _ => 0 := by
    funext b j
    show (if b = a ∧ j = k then (0 : Int) else 0) = 0
    split <;> rfl
  show (_, _) = _
  rw [e1]; rfl
/-- what a constructor leaves of the cells from its own on -/
def GN (q t : Nat) (R R' : HR) : Prop := (∀ b j, b < q → R' b j = R b j) ∧ ∀ b j, q ≤ b → b < t → xr b j ≠ 0 → R' b j = some (xr b j)
/-- in the middle of a constructor -/
def ST (q t : Nat) (R0 : HR) (ks : List (Nat × Nat)) (R : HR) : Prop := q < t ∧ (∀ b j, b < q → R b j = R0 b j) ∧ (∀ b j, q + 1 ≤ b → b < t → xr b j ≠ 0 → R b j = some (xr b j)) ∧ ∀ p ∈ ks, R q p.1 = some p.2
theorem ST.beg {q : Nat} {R : HR} : ST q (q + 1) R [] R := ⟨by omega, fun _ _ _ => rfl, fun b j h1 h2 => by omega, fun p h => by cases h⟩
theorem ST.arr {q t : Nat} {R0 R : HR} {ks : List (Nat × Nat)} (h : ST q t R0 ks R) (hx : ∀ j, xr t j = 0) : ST q (t + 1) R0 ks (nR R t) := by
  obtain ⟨h1, h2, h3, h4⟩ := h
  refine ⟨by omega, fun b j hb => ?_, fun b j b1 b2 hn => ?_, fun p hp => ?_⟩
  · rw [← h2 b j hb]; exact if_neg (by omega)
  · have : b ≠ t := fun w => hn (by rw [w]; exact hx j)
    have := h3 b j b1 (by omega) hn
    rw [← this]; exact if_neg (by assumption)
  · rw [← h4 p hp]; exact if_neg (by omega)
theorem ST.put {q t : Nat} {R0 R : HR} {ks : List (Nat × Nat)} (h : ST q t R0 ks R) {k v : Nat} (hk : (ks.map fun p => p.1).contains k = false) : ST q t R0 ((k, v) :: ks) (uR R q k (some v)) := by
  obtain ⟨h1, h2, h3, h4⟩ := h
  refine ⟨h1, fun b j hb => ?_, fun b j b1 b2 hn => ?_, fun p hp => ?_⟩
  · rw [← h2 b j hb]; exact if_neg (by omega)
  · rw [← h3 b j b1 b2 hn]; exact if_neg (by omega)
  · rcases List.mem_cons.mp hp with rfl | hp
    · exact if_pos ⟨rfl, rfl⟩
    · rw [← h4 p hp]
      refine if_neg (fun w => ?_)
      have : (ks.map fun p => p.1).contains k = true := by rw [List.contains_iff_mem, ← w.2]; exact List.mem_map_of_mem hp
      rw [this] at hk; cases hk
theorem ST.sub {q t t' : Nat} {R0 R R' : HR} {ks : List (Nat × Nat)} (h : ST q t R0 ks R) (ht : t ≤ t') (hg : GN t t' (nR R t) R') : ST q t' R0 ks R' := by
  obtain ⟨h1, h2, h3, h4⟩ := h
  have e : ∀ b j, b < t → R' b j = R b j := fun b j hb => by rw [hg.1 b j hb]; exact if_neg (by omega)
  refine ⟨by omega, fun b j hb => by rw [e b j (by omega)]; exact h2 b j hb, fun b j b1 b2 hn => ?_, fun p hp => by rw [e q p.1 h1]; exact h4 p hp⟩
  rcases Nat.lt_or_ge b t with w | w
  · rw [e b j w]; exact h3 b j b1 w hn
  · exact hg.2 b j w b2 hn
theorem ST.fin {q t : Nat} {R0 R : HR} {ks : List (Nat × Nat)} (h : ST q t R0 ks R) (hk : ∀ j, xr q j ≠ 0 → (j, xr q j) ∈ ks) : GN q t R0 R := by
  obtain ⟨h1, h2, h3, h4⟩ := h
  refine ⟨h2, fun b j b1 b2 hn => ?_⟩
  rcases Nat.eq_or_lt_of_le b1 with w | w
  · subst w; exact h4 _ (hk j hn)
  · exact h3 b j w b2 hn
def ckE (t : Nat) : Bool := !(K0 t == 1 || (Nat.ble 21 (K0 t) && Nat.ble (K0 t) 24)) || ((zrL.getD t []).isEmpty && !(t == 1 || t == 26 || t == 177 || t == 8 || t == 159 || t == 29 || t == 180))
theorem ckE_all : (List.range 342).all ckE = true := by decide +kernel
theorem dyn_no {t j : Nat} (h : t ≠ 1 ∧ t ≠ 26 ∧ t ≠ 177 ∧ t ≠ 8 ∧ t ≠ 159 ∧ t ≠ 29 ∧ t ≠ 180) : dyn t j = false := by
  unfold dyn
  simp [h]
theorem xr_0 {t : Nat} (h : K0 t = 1 ∨ (21 ≤ K0 t ∧ K0 t ≤ 24)) (j : Nat) : xr t j = 0 := by
  have c := List.all_eq_true.mp ckE_all t (List.mem_range.mpr (K0_lt (by omega)))
  have hc : (K0 t == 1 || (Nat.ble 21 (K0 t) && Nat.ble (K0 t) 24)) = true := by
    rcases h with h | h
    · simp [h]
    · simp [Nat.ble_eq, h.1, h.2]
  unfold ckE at c
  rw [hc] at c
  simp only [Bool.not_true, Bool.false_or, Bool.and_eq_true, List.isEmpty_iff, Bool.not_eq_true', Bool.or_eq_false_iff, beq_eq_false_iff_ne] at c
  unfold xr
  rw [dyn_no (by omega), if_neg (by decide)]
  unfold srf
  rw [c.1]; rfl
def ck3 (t : Nat) : Bool := !(K0 t == 3) || ((zrL.getD t [] == [t + 1]) && !(t == 1 || t == 26 || t == 177 || t == 8 || t == 159 || t == 29 || t == 180))
theorem ck3_all : (List.range 342).all ck3 = true := by decide +kernel
theorem xr_3 {t : Nat} (h : K0 t = 3) (j : Nat) : xr t j ≠ 0 → (j, xr t j) ∈ [(0, t + 1)] := by
  have c := List.all_eq_true.mp ck3_all t (List.mem_range.mpr (K0_lt (by omega)))
  unfold ck3 at c
  simp only [h, beq_self_eq_true, Bool.not_true, Bool.false_or, Bool.and_eq_true, beq_iff_eq, Bool.not_eq_true', Bool.or_eq_false_iff, beq_eq_false_iff_ne] at c
  unfold xr
  rw [dyn_no (by omega), if_neg (by decide)]
  unfold srf
  rw [c.1]
  intro hn
  cases j with
  | zero => exact List.mem_singleton.mpr rfl
  | succ j => exact absurd rfl hn
def ck4 (t : Nat) : Bool := !(K0 t == 4) || ((zrL.getD t [] == [t + 1, t + 2, t + 3]) && !(t == 1 || t == 26 || t == 177 || t == 8 || t == 159 || t == 29 || t == 180))
theorem ck4_all : (List.range 342).all ck4 = true := by decide +kernel
theorem xr_4 {t : Nat} (h : K0 t = 4) (j : Nat) : xr t j ≠ 0 → (j, xr t j) ∈ [(2, t + 3), (1, t + 2), (0, t + 1)] := by
  have c := List.all_eq_true.mp ck4_all t (List.mem_range.mpr (K0_lt (by omega)))
  unfold ck4 at c
  simp only [h, beq_self_eq_true, Bool.not_true, Bool.false_or, Bool.and_eq_true, beq_iff_eq, Bool.not_eq_true', Bool.or_eq_false_iff, beq_eq_false_iff_ne] at c
  unfold xr
  rw [dyn_no (by omega), if_neg (by decide)]
  unfold srf
  rw [c.1]
  intro hn
  match j with
  | 0 => simp
  | 1 => simp
  | 2 => simp
  | j + 3 => exact absurd rfl hn
/-- an object with a row of the table, looked at cell by cell -/
theorem xr_row {t : Nat} {ks : List (Nat × Nat)} (hd : ∀ j, (zrL.getD t []).length ≤ j → dyn t j = false) (h : (List.range (zrL.getD t []).length).all (fun j => xr t j == 0 || ks.contains (j, xr t j)) = true) (j : Nat) : xr t j ≠ 0 → (j, xr t j) ∈ ks := by
  intro hn
  rcases Nat.lt_or_ge j (zrL.getD t []).length with q | q
  · have := List.all_eq_true.mp h j (List.mem_range.mpr q)
    simp only [Bool.or_eq_true, beq_iff_eq, List.contains_iff_mem] at this
    rcases this with w | w
    · exact absurd w hn
    · exact w
  · exfalso
    apply hn
    unfold xr
    rw [hd j q, if_neg (by decide)]
    unfold srf
    rw [List.getD_eq_getElem?_getD, List.getElem?_eq_none q]; rfl
section
variable {L : Nat} {xs : Nat → Int} {m pc pc' t : Nat} {ls st : List MV} {R : HR} {Q : Res → MH → Prop} {a b d : Nat} {z : Int} {tb : List (Int × Nat)}
theorem N_new (hc : cod m pc = some (69, a, b, d, z, tb)) (hp : pc + 3 = pc') (hk : K0 t = b + 1) (h : Run m pc' ls (vR (some t) :: st) (Ct L xs (t + 1) (nR R t)) Q) : Run m pc ls st (Ct L xs t R) Q :=
  R_new hc hp rfl hk (by rw [aN_C]; exact h)
theorem N_newarr {n : Int} (hc : cod m pc = some (67, a, b, d, z, tb)) (hp : pc + 2 = pc') (ha : a < 4) (hk : K0 t = a + 21) (hn : n = L0 t) (hb : L0 t < 100000) (h : Run m pc' ls (vR (some t) :: st) (Ct L xs (t + 1) (nR R t)) Q) : Run m pc ls (vI n :: st) (Ct L xs t R) Q :=
  R_newarr hc hp rfl ha hk hn hb (by rw [aN_C]; exact h)
theorem N_anew {n : Int} (hc : cod m pc = some (68, a, b, d, z, tb)) (hp : pc + 3 = pc') (hk : K0 t = 4 + 21) (hn : n = L0 t) (hb : L0 t < 100000) (h : Run m pc' ls (vR (some t) :: st) (Ct L xs (t + 1) (nR R t)) Q) : Run m pc ls (vI n :: st) (Ct L xs t R) Q :=
  R_anew hc hp rfl hk hn hb (by rw [aN_C]; exact h)
theorem N_putRF {q v : Nat} (hc : cod m pc = some (57, a, b, d, z, tb)) (hp : pc + 3 = pc') (ht : zft b d = 4) (hk : K0 q = b + 1) (hi : (zyn m).name = "<init>") (h : Run m pc' ls st (Ct L xs t (uR R q d (some v))) Q) : Run m pc ls (vR (some v) :: vR (some q) :: st) (Ct L xs t R) Q := R_putRF hc hp ht hk hi h
theorem N_putR {q v : Nat} (hc : cod m pc = some (55, a, b, d, z, tb)) (hp : pc + 3 = pc') (ht : zft b d = 4) (hk : K0 q = b + 1) (h : Run m pc' ls st (Ct L xs t (uR R q d (some v))) Q) : Run m pc ls (vR (some v) :: vR (some q) :: st) (Ct L xs t R) Q := R_putR hc hp ht hk h
theorem N_putI {q : Nat} (hc : cod m pc = some (55, a, b, d, z, tb)) (hp : pc + 3 = pc') (ht : zft b d ≠ 4) (hk : K0 q = b + 1) (h : Run m pc' ls st (Ct L xs t R) Q) : Run m pc ls (vI 0 :: vR (some q) :: st) (Ct L xs t R) Q :=
  R_putI hc hp ht (fun _ => Or.inl rfl) hk (by rw [sI_C]; exact h)
theorem N_is {q : Nat} {stk rest as : List MV} (hc : cod m pc = some (73, a, b, d, z, tb)) (hp : pc + 3 = pc') (ht : (ztb b).isEmpty = true) (hv : zrt b = none) (hn : as.length = zna b) (hr : vcs rest ≤ 8) (hst : stk = as.reverse ++ vR (some q) :: rest) {M : MH} (h : Call b (vR (some q) :: as) M (fun r M1 => r = .inl none ∧ Run m pc' ls rest M1 Q)) : Run m pc ls stk M Q :=
  R_is hc hp ht hv hn hr hst (Call_mono h fun r M1 q => ⟨none, q.1, q.2⟩)
theorem N_isN {q : Nat} {stk rest as : List MV} (hc : cod m pc = some (74, a, b, d, z, tb)) (hp : pc + 3 = pc') (ht : (ztb b).isEmpty = true) (hv : zrt b = none) (hn : as.length = zna b) (hr : vcs rest ≤ 8) (hst : stk = as.reverse ++ vR (some q) :: rest) {M : MH} (h : Call b (vR (some q) :: as) M (fun r M1 => r = .inl none ∧ Run m pc' ls rest M1 Q)) : Run m pc ls stk M Q :=
  R_isN hc hp ht hv hn hr hst (Call_mono h fun r M1 q => ⟨none, q.1, q.2⟩)
end
section
variable {L : Nat} {xs : Nat → Int} {Q : Res → MH → Prop}
theorem k0 {q t : Nat} {R : HR} (hQ : Q (.inl none) (Ct L xs t R)) : Call 0 [vR (some q)] (Ct L xs t R) Q :=
  Call_run (ls := [vR (some q)]) rfl rfl (R_aload_n (pc' := 1) rfl rfl rfl (R_objinit (pc' := 4) rfl rfl (Nat.le_of_ble_eq_true rfl) (R_vret rfl rfl hQ)))
theorem k8 {q : Nat} {R : HR} (hq : K0 q = 3) (hQ : ∀ R', GN q (q + 2) R R' → Q (.inl none) (Ct L xs (q + 2) R')) : Call 8 [vR (some q)] (Ct L xs (q + 1) R) Q := by
  have k1 := (kF hq).1
  refine Call_run (ls := [vR (some q)]) rfl rfl (R_aload_n (pc' := 1) rfl rfl rfl (R_objinit (pc' := 4) rfl rfl (Nat.le_of_ble_eq_true rfl) (R_aload_n (pc' := 5) rfl rfl rfl (N_new (pc' := 8) rfl rfl k1 (R_dup (pc' := 9) rfl rfl rfl (N_isN (as := []) (rest := [vR (some (q + 1)), vR (some q)]) (pc' := 12) rfl rfl rfl rfl rfl (Nat.le_of_ble_eq_true rfl) rfl (k0 ⟨rfl, N_putRF (pc' := 15) rfl rfl rfl hq rfl (R_vret rfl rfl (hQ _ ?_))⟩)))))))
  exact ((ST.beg.arr (xr_0 (Or.inl k1))).put rfl).fin (xr_3 hq)
theorem k10 {q : Nat} {R : HR} (hq : K0 q = 4) {n : Int} (hn : n = L0 (q + 1)) (hb : L0 (q + 1) < 100000) (hQ : ∀ R', GN q (q + 4) R R' → Q (.inl none) (Ct L xs (q + 4) R')) : Call 10 [vR (some q), vI n] (Ct L xs (q + 1) R) Q := by
  obtain ⟨k1, k2, k3, -, -, -, -, -, -, l2, l3⟩ := kM hq
  refine Call_run (ls := [vR (some q), vI n]) rfl rfl (R_aload_n (pc' := 1) rfl rfl rfl (R_objinit (pc' := 4) rfl rfl (Nat.le_of_ble_eq_true rfl) (R_aload_n (pc' := 5) rfl rfl rfl (R_iload_n (pc' := 6) rfl rfl rfl (N_newarr (pc' := 8) rfl rfl (by decide) k1 hn hb (N_putRF (pc' := 11) rfl rfl rfl hq rfl ?_))))))
  have s1 := (ST.beg (q := q) (R := R)).arr (xr_0 (Or.inr (by omega)))
  have s2 := s1.put (k := 0) (v := q + 1) rfl
  refine R_aload_n (pc' := 12) rfl rfl rfl (R_iload_n (pc' := 13) rfl rfl rfl (N_newarr (pc' := 15) rfl rfl (by decide) k2 (by rw [l2]; exact hn) (show L0 (q + 2) < 100000 by omega) (N_putRF (pc' := 18) rfl rfl rfl hq rfl ?_)))
  have s3 := s2.arr (xr_0 (t := q + 1 + 1) (Or.inr (by have : K0 (q + 1 + 1) = 21 := k2; omega)))
  have s4 := s3.put (k := 1) (v := q + 2) rfl
  refine R_aload_n (pc' := 19) rfl rfl rfl (R_iload_n (pc' := 20) rfl rfl rfl (N_newarr (pc' := 22) rfl rfl (by decide) k3 (by rw [l3]; exact hn) (show L0 (q + 3) < 100000 by omega) (N_putRF (pc' := 25) rfl rfl rfl hq rfl ?_)))
  have s5 := s4.arr (xr_0 (t := q + 1 + 1 + 1) (Or.inr (by have : K0 (q + 1 + 1 + 1) = 21 := k3; omega)))
  have s6 := s5.put (k := 2) (v := q + 3) rfl
  exact R_aload_n (pc' := 26) rfl rfl rfl (R_iconst (pc' := 27) rfl rfl (N_putI (pc' := 30) rfl rfl (by decide) hq (R_vret rfl rfl (hQ _ (s6.fin (xr_4 hq))))))
end
