/-! DictionaryReader -/
def Tk (g : Int → Int) (n : Int) (A : Nat) (I : HI) (D : HD) : Prop := TkB g n I D ∧ TkT g n 0 I ∧ D 1 4 = A + 1
theorem Tk.fr {g : Int → Int} {n : Int} {A : Nat} {I I' : HI} {D : HD} {S : Nat → Nat → Prop} (h : Tk g n A I D) (hf : Fr S I I') (hs : ∀ a k, S a k → 6 ≤ a ∧ a ≠ A + 1) : Tk g n A I' D := by
  obtain ⟨⟨a1, a2, a3, a4, a5, a6⟩, b, c⟩ := h
  refine ⟨⟨by rw [hf _ _ (fun q => by have := hs _ _ q; omega)]; exact a1, a2, a3, a4, a5, fun p p0 p1 => by rw [c, hf _ _ (fun q => (hs _ _ q).2 rfl), ← c]; exact a6 p p0 p1⟩, fun p p0 p1 => ?_, c⟩
  rw [hf 2 _ (fun q => by have := hs _ _ q; omega), hf 3 _ (fun q => by have := hs _ _ q; omega), hf 4 _ (fun q => by have := hs _ _ q; omega), hf 5 _ (fun q => by have := hs _ _ q; omega)]
  exact b p p0 p1
theorem Tk.fd {g : Int → Int} {n : Int} {A : Nat} {I : HI} {D D' : HD} (h : Tk g n A I D) (hd : D' 1 4 = D 1 4) : Tk g n A I D' := by
  obtain ⟨⟨a1, a2, a3, a4, a5, a6⟩, b, c⟩ := h
  exact ⟨⟨a1, a2, a3, by rw [hd]; exact a4, by rw [hd]; exact a5, by rw [hd]; exact a6⟩, b, by rw [hd]; exact c⟩
theorem dK {A d : Nat} (hA : isA A) (h : K0 d = 1) : (d < A + 2 ∨ A + 9 < d) ∧ d ≠ A + 18 ∧ 6 ≤ d ∧ d ≠ A + 1 ∧ d ≠ A := by
  have no : ∀ o : Nat, o < 10 ∨ o = 18 → d ≠ A + o := by
    intro o ho q
    subst q
    have : o = 0 ∨ o = 1 ∨ o = 2 ∨ o = 3 ∨ o = 4 ∨ o = 5 ∨ o = 6 ∨ o = 7 ∨ o = 8 ∨ o = 9 ∨ o = 18 := by omega
    rcases hA with rfl | rfl <;> rcases this with rfl | rfl | rfl | rfl | rfl | rfl | rfl | rfl | rfl | rfl | rfl <;> exact absurd h (by decide)
  have n0 := no 0 (by omega); have n1 := no 1 (by omega); have n2 := no 2 (by omega); have n3 := no 3 (by omega); have n4 := no 4 (by omega); have n5 := no 5 (by omega)
  have n6 := no 6 (by omega); have n7 := no 7 (by omega); have n8 := no 8 (by omega); have n9 := no 9 (by omega); have n18 := no 18 (by omega)
  refine ⟨by omega, n18, ?_, n1, by omega⟩
  rcases Nat.lt_or_ge d 6 with q | q
  · have : d = 0 ∨ d = 1 ∨ d = 2 ∨ d = 3 ∨ d = 4 ∨ d = 5 := by omega
    rcases this with rfl | rfl | rfl | rfl | rfl | rfl <;> exact absurd h (by decide)
  · exact q
theorem isA8 {A : Nat} (hA : isA A) : 8 ≤ A := by rcases hA with rfl | rfl <;> omega
theorem mat_eq {g : Int → Int} {u v : List Nat} : ∀ p : Int, mat g p u = true → mat g p v = true → u.length = v.length → u = v := by
  induction u generalizing v with
  | nil => intro p _ _ h; cases v with
    | nil => rfl
    | cons => simp at h
  | cons c cs ih =>
    intro p h1 h2 h
    cases v with
    | nil => simp at h
    | cons w ws =>
      simp only [mat, Bool.and_eq_true, beq_iff_eq] at h1 h2
      rw [ih (p + 1) h1.2 h2.2 (by simpa using h)]
      have : (c : Int) = w := h1.1.symm.trans h2.1
      rw [show c = w by omega]
theorem tx_eq {g : Int → Int} {n p : Int} {j k : Nat} (h1 : tx g n p j = true) (h2 : tx g n p k = true) : zstr j = zstr k := by
  unfold tx isF stF at h1 h2
  simp only [Bool.and_eq_true, decide_eq_true_eq] at h1 h2
  exact mat_eq p h1.2.2 h2.2.2 (by omega)
theorem tx_no {g : Int → Int} {n p : Int} {j k : Nat} (h1 : tx g n p j = true) (h : zstr j ≠ zstr k) : tx g n p k = false := by
  cases q : tx g n p k
  · rfl
  · exact absurd (tx_eq h1 q) h
theorem tx_len {g : Int → Int} {n p : Int} {k : Nat} (h : tx g n p k = true) : eF g n p = p + (zstr k).length := by
  unfold tx isF at h
  simp only [Bool.and_eq_true, decide_eq_true_eq] at h
  omega
/-- what a pair says of the keys: 3 kind, 4 pages, 5 length, 6 root, 7 size, 8 and 9 kids -/
def kpF (g : Int → Int) (n : Int) (b0 : Nat) (pr : Int × Int × Int × Nat × Nat) (S : Nat → Int) (k : Nat) : Int :=
  if k = 3 ∧ tx g n pr.1 15 = true then (if tx g n pr.2.1 16 = true then 1 else if tx g n pr.2.1 17 = true then 2 else if tx g n pr.2.1 18 = true then 3 else 0)
  else if k = 4 ∧ tx g n pr.1 17 = true then (if kF' g n pr.2.1 = 4 then mF g n pr.2.1 else 0)
  else if k = 8 ∧ tx g n pr.1 19 = true then ((b0 + pr.2.2.2.1 : Nat) : Int)
  else if k = 9 ∧ tx g n pr.1 19 = true then ((b0 + pr.2.2.2.2 : Nat) : Int)
  else if k = 5 ∧ tx g n pr.1 20 = true then (if kF' g n pr.2.1 = 4 then -1 else mF g n pr.2.1)
  else if k = 6 ∧ tx g n pr.1 21 = true then (if kF' g n pr.2.1 = 4 then mF g n pr.2.1 else 0)
  else if k = 7 ∧ tx g n pr.1 22 = true then (if kF' g n pr.2.1 = 4 then -1 else mF g n pr.2.1)
  else S k
def df0 (k : Nat) : Int := if k = 5 ∨ k = 7 then -1 else 0
def dfF (g : Int → Int) (n : Int) (b0 : Nat) (ps : PrL) : Nat → Int := ps.foldl (fun S pr => kpF g n b0 pr S) df0
def lnL (g : Int → Int) (n : Int) (ps : PrL) : RfL := ps.filterMap fun pr => if tx g n pr.1 20 = true then some (pr.1, pr.2.2.1, 0) else none
section
variable {e : En} {g : Int → Int} {n lim : Int} {A : Nat}
theorem c84 (he : HS e) {I : HI} {D : HD} {x : Int} {Q : Int → HI → HD → Prop} (h : Q (b2i (x == 6 || x == 7 || x == 5)) I D) : CI 84 [vI x] e I D Q := by
  refine S84 he ⟨fun a => S84_17 he ?_, fun a => ⟨fun b => S84_17 he ?_, fun b => ⟨fun c => ?_, fun c => S84_17 he ?_⟩⟩⟩
  · rw [a] at h; exact h
  · rw [b] at h; exact h
  · have : (x == 6 || x == 7 || x == 5) = false := by simp [a, b, c]
    rw [this] at h; exact h
  · rw [Decidable.not_not.mp c] at h; exact h
theorem c5 (he : HS e) (hA : isA A) {I : HI} {D : HD} (hT : Tk g n A I D) {fl : Bool} (hf : I (A + 18) 4 = b2i fl) {x : Int} (h0 : 0 ≤ x) (h1 : x ≤ n) {Q : Int → HI → HD → Prop} (h : Q (b2i (isEk fl (kF' g n x))) I D) : CI 5 [vR (some (A + 18)), vI x] e I D Q := by
  unfold isEk at h
  refine S5 he hA (c53 he hT.1 hT.2.1 h0 h0 h1 ⟨fun a => S5_27 he ?_, fun a => ?_⟩)
  · rw [a] at h; exact h
  · have ha : (kF' g n x == 0) = false := by simpa using a
    rw [ha, Bool.false_or] at h
    rw [hf]
    refine ⟨fun b => ?_, fun b => c84 he ⟨fun c => ?_, fun c => S5_27 he ?_⟩⟩
    · rw [b2i_0.mp b, Bool.false_and] at h; exact h
    · rw [b2i_0.mp c, Bool.and_false] at h; exact h
    · rw [b2i_n b, b2i_n c] at h; exact h
theorem capA (hA : isA A) : K0 (A + 2) = 4 ∧ K0 (A + 6) = 4 ∧ L0 (A + 3) < 100000 ∧ L0 (A + 7) < 100000 := by
  rcases hA with rfl | rfl <;> decide
theorem c6_row (he : HS e) (hA : isA A) {D : HD} {P : Int → Prop} (hB : Bd g n lim P) {fl : Bool} (hE : ∀ p, P p → (isEk fl (kF' g n p) = true ↔ lim ≤ p)) (hcap : n ≤ 5 * L0 (A + 3)) {op cl : Int} (ho : op ≠ 4 ∧ cl ≠ 4 ∧ cl ≠ 0 ∧ op ≠ cl) {r0 : RfL} {Q : Int → HI → HD → Prop} (k : Nat) :
    ∀ (p d x6 : Int) (rs : RfL) (I : HI), (lim - p).toNat < k → P p → 1 ≤ d → d ≤ p + 1 → 0 ≤ x6 → x6 ≤ p → Tk g n A I D → I (A + 18) 4 = b2i fl → MkL (A + 2) I (r0 ++ rs) → 5 * ((r0.length + rs.length : Nat) : Int) ≤ p →
    (∀ I', Fr (mkS (A + 2)) I I' → MkL (A + 2) I' (r0 ++ (rowN g n lim op cl k p d rs).2) → Q (rowN g n lim op cl k p d rs).1 I' D) →
    RI 6 42 [vR (some (A + 18)), vJ, vI op, vI cl, vI d, vI p, vI x6, vJ, vJ] [] e I D Q := by
  have h8 := isA8 hA
  induction k with
  | zero => intro p d x6 rs I hk; omega
  | succ k ih =>
    intro p d x6 rs I hk hp hd1 hd2 hx0 hx1 hT hf hM h5 hQ
    have hb := (hB.2 p hp).1
    have hln := hB.1
    have hn := hT.1.2.2.1
    refine S6_42 he hA ⟨fun a => by omega, fun _ => c5 he hA hT hf hb.1 (by omega) ⟨fun a => ?_, fun a => ?_⟩⟩
    · have hl : lim ≤ p := (hE p hp).mp (b2i_n a)
      have e1 : rowN g n lim op cl (k + 1) p d rs = (p, rs) := if_pos hl
      rw [e1] at hQ
      exact hQ I Fr.refl hM
    · have a := b2i_0.mp (Decidable.not_not.mp a)
      have hl : ¬ lim ≤ p := fun q => by rw [(hE p hp).mpr q] at a; cases a
      have hlt : p < lim := by omega
      have hnx := hB.nx hp hlt
      have nb := (nxF_bd (g := g) (show p ≤ n by omega)).2.2 (by omega)
      have eb := hB.eFle hp hlt
      have e1 : rowN g n lim op cl (k + 1) p d rs = if kF' g n p = 4 then rowN g n lim op cl k (skp g n (e3F g n p)) d (rs ++ [(p, e3F g n p, mF g n p)])
          else if kF' g n p = cl then (if d = 1 then (eF g n p, rs) else rowN g n lim op cl k (nxF g n p) (d - 1) rs)
          else if kF' g n p = op then rowN g n lim op cl k (nxF g n p) (d + 1) rs
          else rowN g n lim op cl k (nxF g n p) d rs := if_neg hl
      have go : ∀ (d' : Int), 1 ≤ d' → d' ≤ p + 2 → (∀ I', Fr (mkS (A + 2)) I I' → MkL (A + 2) I' (r0 ++ (rowN g n lim op cl k (nxF g n p) d' rs).2) → Q (rowN g n lim op cl k (nxF g n p) d' rs).1 I' D) →
          RI 6 146 [vR (some (A + 18)), vJ, vI op, vI cl, vI d', vJ, vI x6, vJ, vI (eF g n p)] [] e I D Q := by
        intro d' h1 h2 hQ'
        refine S6_146 he hA ⟨fun _ => c51 he hT.1 hT.2.1 (by omega) (by omega) (by omega) ⟨⟨by omega, by omega⟩, ?_⟩, fun q => by omega⟩
        exact ih (nxF g n p) d' (x6 + 1) rs I (by omega) hnx h1 (by omega) (by omega) (by omega) hT hf hM (by omega) hQ'
      refine c53 he hT.1 hT.2.1 hb.1 hb.1 (by omega) (c52 he hT.1 hT.2.1 hb.1 hb.1 (by omega) ⟨fun b => ?_, fun b => ?_⟩)
      · rw [if_neg b] at e1
        refine ⟨fun c => ?_, fun c => ⟨⟨by omega, by omega⟩, ?_⟩⟩
        · rw [if_neg c] at e1
          refine ⟨fun f => ?_, fun f => ⟨fun w => absurd w ho.2.2.1, fun _ => ⟨⟨by omega, by omega⟩, ?_⟩⟩⟩
          · rw [if_neg f] at e1
            exact go d hd1 (by omega) (by rw [← e1]; exact hQ)
          · rw [if_pos (Decidable.not_not.mp f)] at e1
            exact go (d + 1) (by omega) (by omega) (by rw [← e1]; exact hQ)
        · rw [if_pos (Decidable.not_not.mp c)] at e1
          by_cases f : d = 1
          · rw [if_pos f] at e1
            rw [e1] at hQ
            rw [show d + (-1) = 0 by omega]
            exact S6_146 he hA ⟨fun q => absurd rfl q, fun _ => hQ I Fr.refl hM⟩
          · rw [if_neg f] at e1
            rw [show d + (-1) = d - 1 by omega]
            exact go (d - 1) (by omega) (by omega) (by rw [← e1]; exact hQ)
      · have b := Decidable.not_not.mp b
        rw [if_pos b] at e1
        obtain ⟨q1, q2, q3, -, -⟩ := hB.ref hp hlt b
        have s := skp_bd (g := g) (show e3F g n p ≤ n by omega)
        have cp := capA hA
        refine c56 he hT.1 hT.2.1 hb.1 hb.1 (by omega) (c54 he hT.1 hT.2.1 hb.1 hb.1 (by omega) (c11 he cp.1 hM (by simp only [List.length_append]; show r0.length + rs.length < L0 (A + 3); omega) cp.2.2.1 fun I' f1 M1 => ?_))
        have T1 : Tk g n A I' D := hT.fr f1 (fun a k q => by unfold mkS at q; omega)
        have F1 : I' (A + 18) 4 = b2i fl := by rw [f1 _ _ (fun q => by unfold mkS at q; omega)]; exact hf
        show RI 6 146 [vR (some (A + 18)), vJ, vI op, vI cl, vI d, vJ, vI x6, vJ, vI (e3F g n p)] [] e I' D Q
        refine S6_146 he hA ⟨fun _ => c51 he T1.1 T1.2.1 (by omega) (by omega) (by omega) ⟨⟨by omega, by omega⟩, ?_⟩, fun q => by omega⟩
        rw [List.append_assoc] at M1
        refine ih (skp g n (e3F g n p)) d (x6 + 1) (rs ++ [(p, e3F g n p, mF g n p)]) I' (by omega) q1 hd1 (by omega) (by omega) (by omega) T1 F1 M1 (by simp only [List.length_append, List.length_cons, List.length_nil]; omega) fun I2 f2 M2 => ?_
        rw [e1] at hQ
        exact hQ I2 (f1.trans f2) M2
theorem c6 (he : HS e) (hA : isA A) {D : HD} {P : Int → Prop} (hB : Bd g n lim P) {fl : Bool} (hE : ∀ p, P p → (isEk fl (kF' g n p) = true ↔ lim ≤ p)) (hcap : n ≤ 5 * L0 (A + 3)) {r0 : RfL} {Q : Int → HI → HD → Prop}
    {q : Int} {rs : RfL} {I : HI} (hq : P q) (hl : q < lim) (hT : Tk g n A I D) (hf : I (A + 18) 4 = b2i fl) (hM : MkL (A + 2) I (r0 ++ rs)) (h5 : 5 * ((r0.length + rs.length : Nat) : Int) ≤ q)
    (hQ : ∀ I', Fr (mkS (A + 2)) I I' → MkL (A + 2) I' (r0 ++ (valF g n lim q rs).2) → Q (valF g n lim q rs).1 I' D) : CI 6 [vR (some (A + 18)), vI q] e I D Q := by
  have h8 := isA8 hA
  have hb := (hB.2 q hq).1
  have hln := hB.1
  have hn := hT.1.2.2.1
  have hnx := hB.nx hq hl
  have nb := (nxF_bd (g := g) (show q ≤ n by omega)).2.2 (by omega)
  have eb := hB.eFle hq hl
  have hne : isEk fl (kF' g n q) = false := by
    cases w : isEk fl (kF' g n q)
    · rfl
    · exact absurd ((hE q hq).mp w) (by omega)
  have h0 : kF' g n q ≠ 0 := fun w => by rw [w] at hne; simp [isEk] at hne
  -- the first step
  have first : ∀ (cl : Int), (kF' g n q = 9 ∧ cl = 10 ∨ kF' g n q = 11 ∧ cl = 12 ∨ (kF' g n q ≠ 9 ∧ kF' g n q ≠ 11) ∧ cl = 0) → RI 6 32 [vR (some (A + 18)), vI q, vI (kF' g n q), vJ, vJ, vJ, vJ, vJ, vJ] [vI cl] e I D Q := by
    intro cl hcl
    refine S6_32 he hA (S6_42 he hA ⟨fun a => by omega, fun _ => c5 he hA hT hf hb.1 (by omega) ⟨fun a => absurd (b2i_n a) (by rw [hne]; decide), fun _ => ?_⟩⟩)
    refine c53 he hT.1 hT.2.1 hb.1 hb.1 (by omega) (c52 he hT.1 hT.2.1 hb.1 hb.1 (by omega) ⟨fun b => ⟨fun c => ⟨fun f => absurd rfl f, fun _ => ⟨fun w => ?_, fun w => ⟨⟨by omega, by omega⟩, ?_⟩⟩⟩, fun c => ?_⟩, fun b => ?_⟩)
    · have hv : valF g n lim q rs = (eF g n q, rs) := by
        unfold valF; rw [if_neg (by omega), if_neg (by omega), if_neg b]
      rw [hv] at hQ
      exact S6_146 he hA ⟨fun q => absurd rfl q, fun _ => hQ I Fr.refl hM⟩
    · refine S6_146 he hA ⟨fun _ => c51 he hT.1 hT.2.1 (by omega) (by omega) (by omega) ⟨⟨by omega, by omega⟩, ?_⟩, fun w => absurd (show (0 : Int) + 1 ≠ 0 by decide) w⟩
      rcases hcl with ⟨u, v⟩ | ⟨u, v⟩ | ⟨u, v⟩
      · have hv : valF g n lim q rs = rowN g n lim 9 10 4000 (nxF g n q) 1 rs := by unfold valF; rw [if_pos u]
        rw [hv] at hQ
        rw [u, v]
        exact c6_row he hA hB hE hcap ⟨by decide, by decide, by decide, by decide⟩ 4000 (nxF g n q) 1 (0 + 1) rs I (by omega) hnx (by omega) (by omega) (by omega) (by omega) hT hf hM (by omega) hQ
      · have hv : valF g n lim q rs = rowN g n lim 11 12 4000 (nxF g n q) 1 rs := by unfold valF; rw [if_neg (by omega), if_pos u]
        rw [hv] at hQ
        rw [u, v]
        exact c6_row he hA hB hE hcap ⟨by decide, by decide, by decide, by decide⟩ 4000 (nxF g n q) 1 (0 + 1) rs I (by omega) hnx (by omega) (by omega) (by omega) (by omega) hT hf hM (by omega) hQ
      · exact absurd v w
    · exfalso; omega
    · have b := Decidable.not_not.mp b
      obtain ⟨q1, q2, q3, -, -⟩ := hB.ref hq hl b
      have cp := capA hA
      have hv : valF g n lim q rs = (e3F g n q, rs ++ [(q, e3F g n q, mF g n q)]) := by unfold valF; rw [if_neg (by omega), if_neg (by omega), if_pos b]
      rw [hv] at hQ
      refine c56 he hT.1 hT.2.1 hb.1 hb.1 (by omega) (c54 he hT.1 hT.2.1 hb.1 hb.1 (by omega) (c11 he cp.1 hM (by simp only [List.length_append]; show r0.length + rs.length < L0 (A + 3); omega) cp.2.2.1 fun I' f1 M1 => ?_))
      rw [List.append_assoc] at M1
      exact S6_146 he hA ⟨fun q => absurd rfl q, fun _ => hQ I' f1 M1⟩
  refine S6 he hA (c53 he hT.1 hT.2.1 hb.1 hb.1 (by omega) ⟨fun a => ⟨fun b => first 0 (Or.inr (Or.inr ⟨⟨a, b⟩, rfl⟩)), fun b => first 12 (Or.inr (Or.inl ⟨Decidable.not_not.mp b, rfl⟩))⟩, fun a => first 10 (Or.inl ⟨Decidable.not_not.mp a, rfl⟩)⟩)
end
