/-! Writer.copyMended, writePlain, writeStream, writeObject, writeAll -/
section
variable {e : En} {g : Int → Int} {n : Int} {A : Nat} {I I' : HI} {D : HD}
theorem CS.out {S : Nat → Nat → Prop} {s : SC} {rs ls : RfL} (hC : CS g n A I D s rs ls) (hf : Fr S I I') (hS : ∀ a k, A ≤ a → a < A + 146 → ¬ S a k) : CS g n A I' D s rs ls := by
  obtain ⟨⟨m1, m2, m3, m4⟩, ⟨v2, v11, v12, v13, v14⟩, hP, hO⟩ := hC
  have no : ∀ k, ¬ S A k := fun k => hS A k (by omega) (by omega)
  refine ⟨⟨m1.fr hf (fun a k q1 q2 => hS a k (by omega) (by omega)), m2.fr hf (fun a k q1 q2 => hS a k (by omega) (by omega)), m3.fr hf (fun a k q1 q2 => hS a k (by omega) (by omega)), m4.fr hf (fun a k q1 q2 => hS a k (by omega) (by omega))⟩, ⟨by rw [hf _ _ (no _)]; exact v2, by rw [hf _ _ (no _)]; exact v11, by rw [hf _ _ (no _)]; exact v12, by rw [hf _ _ (no _)]; exact v13, by rw [hf _ _ (no _)]; exact v14⟩, hP, fun i hi => ?_⟩
  have pi := hP.1 i hi
  exact (hO i hi).fr hf (fun k => hS _ _ (by omega) (by omega)) (fun k => hS _ _ (by omega) (by omega))
theorem CS.wm {s : SC} {rs ls : RfL} (hA : isA A) (hC : CS g n A I D s rs ls) (hf : Fr wmS I I') : CS g n A I' D s rs ls :=
  hC.out hf (fun a k q1 q2 q => by unfold wmS at q; rcases hA with rfl | rfl <;> omega)
def KE (R : RfL) (i : Int) (j : Nat) : Prop := j ≤ R.length ∧ ∀ (a : Nat) (r : Int × Int × Int), a < j → R[a]? = some r → r.1 < i
theorem KE.le {R : RfL} {i i' : Int} {j : Nat} (h : KE R i j) (hi : i ≤ i') : KE R i' j := ⟨h.1, fun a r q w => by have := h.2 a r q w; omega⟩
theorem KE.up {R : RfL} {i : Int} {j : Nat} {r : Int × Int × Int} (h : KE R i j) (hr : R[j]? = some r) (hi : r.1 < i) : KE R i (j + 1) :=
  ⟨(List.getElem?_eq_some_iff.mp hr).1, fun a r' q w => by
    rcases Nat.lt_or_ge a j with c | c
    · exact h.2 a r' c w
    · have : a = j := by omega
      subst this; rw [hr] at w; cases w; exact hi⟩
theorem c65_22 (he : HS e) (hA : isA A) {d : Nat} (hd : K0 d = 1) {R rs : RfL} {r0 : Nat} (hM : MkL (A + 2) I rs) (h11 : I d 11 = ((r0 + R.length : Nat) : Int)) (hR : ∀ (j : Nat) (r : Int × Int × Int), R[j]? = some r → rs[r0 + j]? = some r) (hb : r0 + R.length < 100000) {t x5 x7 i : Int} {Q : HI → HD → Prop} (k : Nat) :
    ∀ j, R.length - j = k → KE R i j → (∀ j', KE R i j' → (∀ r, R[j']? = some r → i ≤ r.1) → RV 65 51 [vR (some 310), vR (some A), vR (some d), vJ, vI t, vI x5, vI ((r0 + j' : Nat) : Int), vI x7, vI i, vJ, vJ] [] e I D Q) →
    RV 65 22 [vR (some 310), vR (some A), vR (some d), vJ, vI t, vI x5, vI ((r0 + j : Nat) : Int), vI x7, vI i, vJ, vJ] [] e I D Q := by
  have kc := capA hA
  induction k with
  | zero =>
    intro j hk hj hQ
    refine S65_22 he hA hd ?_
    rw [h11]
    have := hj.1
    refine ⟨fun _ => hQ j hj fun r hr => ?_, fun q => by omega⟩
    have := (List.getElem?_eq_some_iff.mp hr).1
    omega
  | succ k ih =>
    intro j hk hj hQ
    have hl : j < R.length := by omega
    have hr := List.getElem?_eq_getElem hl
    refine S65_22 he hA hd ?_
    rw [h11]
    refine ⟨fun q => by omega, fun _ => c14 he kc.1 hM (hR j _ hr) ⟨fun q => hQ j hj fun r' hr' => ?_, fun q => ⟨⟨by omega, by omega⟩, ih (j + 1) (by omega) (hj.up hr (by omega)) hQ⟩⟩⟩
    rw [hr] at hr'; cases hr'; exact q
theorem c65_51 (he : HS e) (hA : isA A) {d : Nat} (hd : K0 d = 1) {R rs : RfL} {r0 : Nat} (hM : MkL (A + 6) I rs) (h13 : I d 13 = ((r0 + R.length : Nat) : Int)) (hR : ∀ (j : Nat) (r : Int × Int × Int), R[j]? = some r → rs[r0 + j]? = some r) (hb : r0 + R.length < 100000) {t x5 x6 i : Int} {Q : HI → HD → Prop} (k : Nat) :
    ∀ j, R.length - j = k → KE R i j → (∀ j', KE R i j' → (∀ r, R[j']? = some r → i ≤ r.1) → RV 65 80 [vR (some 310), vR (some A), vR (some d), vJ, vI t, vI x5, vI x6, vI ((r0 + j' : Nat) : Int), vI i, vJ, vJ] [] e I D Q) →
    RV 65 51 [vR (some 310), vR (some A), vR (some d), vJ, vI t, vI x5, vI x6, vI ((r0 + j : Nat) : Int), vI i, vJ, vJ] [] e I D Q := by
  have kc := capA hA
  induction k with
  | zero =>
    intro j hk hj hQ
    refine S65_51 he hA hd ?_
    rw [h13]
    have := hj.1
    refine ⟨fun _ => hQ j hj fun r hr => ?_, fun q => by omega⟩
    have := (List.getElem?_eq_some_iff.mp hr).1
    omega
  | succ k ih =>
    intro j hk hj hQ
    have hl : j < R.length := by omega
    have hr := List.getElem?_eq_getElem hl
    refine S65_51 he hA hd ?_
    rw [h13]
    refine ⟨fun q => by omega, fun _ => c14 he kc.2.1 hM (hR j _ hr) ⟨fun q => hQ j hj fun r' hr' => ?_, fun q => ⟨⟨by omega, by omega⟩, ih (j + 1) (by omega) (hj.up hr (by omega)) hQ⟩⟩⟩
    rw [hr] at hr'; cases hr'; exact q
end
section
variable {e : En} {g : Int → Int} {n : Int} {A : Nat} {D : HD}
theorem c65_15 (he : HS e) (hA : isA A) {I0 : HI} {s : SC} {rs ls : RfL} (hC : CS g n A I0 D s rs ls) (hnA : n ≤ L0 (A + 1)) (hby : ∀ p : Int, 0 ≤ p → p < n → I0 (A + 1) p.toNat % 256 = g p) {d : Nat} (hd : K0 d = 1) (hdA : A + 22 ≤ d ∧ d < A + 146)
    {R L : RfL} {r0 l0 : Nat} (h11 : I0 d 11 = ((r0 + R.length : Nat) : Int)) (h13 : I0 d 13 = ((l0 + L.length : Nat) : Int)) (hR : ∀ (j : Nat) (r : Int × Int × Int), R[j]? = some r → rs[r0 + j]? = some r) (hL : ∀ (j : Nat) (r : Int × Int × Int), L[j]? = some r → ls[l0 + j]? = some r)
    (hbR : r0 + R.length < 100000) (hbL : l0 + L.length < 100000) (oR : oPr R) (oL : oPr L) (oR2 : ∀ r ∈ R, r.1 < r.2.1) (oL2 : ∀ r ∈ L, r.1 < r.2.1) {lv : Bool} {t : Int} (ht : t ≤ n) {Q : HI → HD → Prop} (k : Nat) :
    ∀ (i : Int) (j m : Nat) (I : HI) (l : List Int), 0 ≤ i → (t - i).toNat ≤ k → Fr wmS I0 I → KE R i j → KE L i m → WM I l → (∀ I', Fr wmS I0 I' → WM I' (l ++ cpN g s.1 R L lv t k i) → Q I' D) →
    RV 65 15 [vR (some 310), vR (some A), vR (some d), vJ, vI t, vI (b2i lv), vI ((r0 + j : Nat) : Int), vI ((l0 + m : Nat) : Int), vI i, vJ, vJ] [] e I D Q := by
  have kc := capA hA
  obtain ⟨hn3, -⟩ := caps hA hnA
  have hAb : A + 151 ≤ 310 := by rcases hA with rfl | rfl <;> omega
  induction k with
  | zero =>
    intro i j m I l h0 hk f hj hm hW hQ
    exact S65_15 he hA hd ⟨fun _ => hQ I f (by show WM I (l ++ []); rw [List.append_nil]; exact hW), fun q => by omega⟩
  | succ k ih =>
    intro i j m I l h0 hk f hj hm hW hQ
    by_cases hti : t ≤ i
    · have e1 : cpN g s.1 R L lv t (k + 1) i = [] := by unfold cpN; rw [if_pos hti]
      rw [e1] at hQ
      exact S65_15 he hA hd ⟨fun _ => hQ I f (by rw [List.append_nil]; exact hW), fun q => absurd hti q⟩
    · have C := hC.wm hA f
      have g11 : I d 11 = ((r0 + R.length : Nat) : Int) := by rw [f _ _ (fun q => by unfold wmS at q; omega)]; exact h11
      have g13 : I d 13 = ((l0 + L.length : Nat) : Int) := by rw [f _ _ (fun q => by unfold wmS at q; omega)]; exact h13
      refine S65_15 he hA hd ⟨fun q => absurd q hti, fun _ => c65_22 he hA hd C.1.1 g11 hR hbR _ j rfl hj fun j' hj' hjr => c65_51 he hA hd C.1.2.1 g13 hL hbL _ m rfl hm fun m' hm' hmr => ?_⟩
      have aR := mkA_at oR hj'.2
      have aL := mkA_at oL hm'.2
      have e1 : cpN g s.1 R L lv t (k + 1) i = (match (if lv = true then mkA L i else none) with
        | some r => cpN g s.1 R L lv t k r.2.1
        | none => match mkA R i with
          | some r => if (obO s.1 r.2.2).isNone = true then txL 4 ++ cpN g s.1 R L lv t k r.2.1 else [g i] ++ cpN g s.1 R L lv t k (i + 1)
          | none => [g i] ++ cpN g s.1 R L lv t k (i + 1)) := by
        conv => lhs; unfold cpN
        rw [if_neg hti]
        rfl
      -- a byte
      have s219 : cpN g s.1 R L lv t (k + 1) i = [g i] ++ cpN g s.1 R L lv t k (i + 1) → RV 65 219 [vR (some 310), vR (some A), vR (some d), vJ, vI t, vI (b2i lv), vI ((r0 + j' : Nat) : Int), vI ((l0 + m' : Nat) : Int), vI i, vJ, vJ] [] e I D Q := by
        intro hc
        rw [hc] at hQ
        have hg : (if 0 ≤ i ∧ i < n then I (A + 1) i.toNat % 256 else -1) = g i := by
          rw [if_pos (by omega), f _ _ (fun q => by unfold wmS at q; omega)]; exact hby i h0 (by omega)
        refine S65_219 he hA hd (c37 he hA C.2.1.1 hnA ?_)
        rw [hg]
        have gr := hby i h0 (by omega)
        refine c66 he hW (by omega) (by omega) fun I' f' M' => ⟨⟨by omega, by omega⟩, S65_232 he hA hd (ih (i + 1) j' m' I' _ (by omega) (by omega) (f.trans f') (hj'.le (by omega)) (hm'.le (by omega)) M' fun I'' f'' M'' => hQ I'' f'' (by rw [← List.append_assoc]; exact M''))⟩
      -- behind the question whether a length stands there
      have s171 : ∀ x9 : Int, (if lv = true then mkA L i else none) = none → (x9 = b2i (mkA R i).isSome) → RV 65 171 [vR (some 310), vR (some A), vR (some d), vJ, vI t, vI (b2i lv), vI ((r0 + j' : Nat) : Int), vI ((l0 + m' : Nat) : Int), vI i, vI x9, vJ] [] e I D Q := by
        intro x9 hl0 hx
        rw [hl0] at e1
        dsimp only at e1
        refine S65_171 he hA hd ⟨fun q => ?_, fun q => ?_⟩
        · have : mkA R i = none := by
            cases w : mkA R i with
            | none => rfl
            | some r => rw [w] at hx; rw [hx] at q; cases q
          rw [this] at e1
          exact s219 e1
        · obtain ⟨r, hr⟩ : ∃ r, mkA R i = some r := by
            cases w : mkA R i with
            | none => rw [w] at hx; exact absurd hx q
            | some r => exact ⟨r, rfl⟩
          rw [hr] at e1
          dsimp only at e1
          have mm := mkA_mem hr
          -- it is the mark at j'
          have hrj : R[j']? = some r := by
            cases w : R[j']? with
            | none => have := aR.1 (List.getElem?_eq_none_iff.mp w); rw [hr] at this; cases this
            | some r' =>
              have := aR.2 r' w (hjr r' w)
              rw [hr] at this
              split at this
              · cases this; rfl
              · cases this
          have r2 := oR2 r mm.1
          refine c13 he kc.1 C.1.1 (hR j' r hrj) (c35' he hA C (fun w => ⟨fun _ => ?_, fun u w => by cases w⟩) fun f' hf' _ hk' _ => ⟨fun w => (by cases w), fun u w => ⟨by cases w; exact hk', s219 ?_⟩⟩)
          · have w' : obO s.1 r.2.2 = none := w
            rw [w'] at e1
            have e1 : cpN g s.1 R L lv t (k + 1) i = txL 4 ++ cpN g s.1 R L lv t k r.2.1 := e1
            rw [e1] at hQ
            refine c67 he (by omega) hW fun I' f' M' => ⟨⟨by omega, by omega⟩, c15 he kc.1 (C.wm hA f').1.1 (hR j' r hrj) (S65_232 he hA hd ?_)⟩
            have hmx : max (i + 1) r.2.1 = r.2.1 := by omega
            rw [hmx]
            exact ih r.2.1 j' m' I' _ (by omega) (by omega) (f.trans f') (hj'.le (by omega)) (hm'.le (by omega)) M' fun I'' f'' M'' => hQ I'' f'' (by rw [← List.append_assoc]; exact M'')
          · have w' : obO s.1 r.2.2 = some f' := hf'
            rw [w'] at e1; exact e1
      -- the question whether a length stands there
      have s138 : ∀ x9 y : Int, y = b2i (mkA L i).isSome → (x9 = b2i (mkA R i).isSome) → RV 65 138 [vR (some 310), vR (some A), vR (some d), vJ, vI t, vI (b2i lv), vI ((r0 + j' : Nat) : Int), vI ((l0 + m' : Nat) : Int), vI i, vI x9, vJ] [vI y] e I D Q := by
        intro x9 y hy hx
        refine S65_138 he hA hd ⟨fun q => s171 x9 (by rw [if_neg (by rw [b2i_0.mp q]; decide)]) hx, fun q => ⟨fun w => s171 x9 ?_ hx, fun w => ?_⟩⟩
        · have : mkA L i = none := by
            cases v : mkA L i with
            | none => rfl
            | some r => rw [v] at hy; rw [hy] at w; cases w
          rw [this]; split <;> rfl
        · obtain ⟨r, hr⟩ : ∃ r, mkA L i = some r := by
            cases v : mkA L i with
            | none => rw [v] at hy; exact absurd hy w
            | some r => exact ⟨r, rfl⟩
          have mm := mkA_mem hr
          have hrm : L[m']? = some r := by
            cases w : L[m']? with
            | none => have := aL.1 (List.getElem?_eq_none_iff.mp w); rw [hr] at this; cases this
            | some r' =>
              have := aL.2 r' w (hmr r' w)
              rw [hr] at this
              split at this
              · cases this; rfl
              · cases this
          have r2 := oL2 r mm.1
          rw [if_pos (b2i_n q), hr] at e1
          dsimp only at e1
          rw [e1] at hQ
          refine ⟨⟨by omega, by omega⟩, c15 he kc.2.1 C.1.2.1 (hL m' r hrm) (S65_232 he hA hd ?_)⟩
          have hmx : max (i + 1) r.2.1 = r.2.1 := by omega
          rw [hmx]
          exact ih r.2.1 j' m' I _ (by omega) (by omega) f (hj'.le (by omega)) (hm'.le (by omega)) hW hQ
      have s108 : ∀ y : Int, (y = b2i (mkA R i).isSome) → RV 65 108 [vR (some 310), vR (some A), vR (some d), vJ, vI t, vI (b2i lv), vI ((r0 + j' : Nat) : Int), vI ((l0 + m' : Nat) : Int), vI i, vJ, vJ] [vI y] e I D Q := by
        intro y hy
        refine S65_108 he hA hd ?_
        rw [g13]
        have hmle := hm'.1
        refine ⟨fun q => S65_137 he hA hd (s138 y 0 (by rw [aL.1 (by omega)]; rfl) hy), fun q => ?_⟩
        have hl : m' < L.length := by omega
        have hr := List.getElem?_eq_getElem hl
        have a2 := aL.2 _ hr (hmr _ hr)
        refine c14 he kc.2.1 C.1.2.1 (hL m' _ hr) ⟨fun w => S65_137 he hA hd (s138 y 0 (by rw [a2, if_neg w]; rfl) hy), fun w => s138 y 1 (by rw [a2, if_pos (Decidable.not_not.mp w)]; rfl) hy⟩
      refine S65_80 he hA hd ?_
      rw [g11]
      have hjle := hj'.1
      refine ⟨fun q => S65_107 he hA hd (s108 0 (by rw [aR.1 (by omega)]; rfl)), fun q => ?_⟩
      have hl : j' < R.length := by omega
      have hr := List.getElem?_eq_getElem hl
      have a2 := aR.2 _ hr (hjr _ hr)
      exact c14 he kc.1 C.1.1 (hR j' _ hr) ⟨fun w => S65_107 he hA hd (s108 0 (by rw [a2, if_neg w]; rfl)), fun w => s108 1 (by rw [a2, if_pos (Decidable.not_not.mp w)]; rfl)⟩
end
