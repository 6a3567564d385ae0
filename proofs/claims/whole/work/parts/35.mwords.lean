/-! the model: words, numbers, references -/
theorem b2i_n {b : Bool} (h : ¬ b2i b = 0) : b = true := by
  cases b
  · exact absurd rfl h
  · rfl
theorem mat_app {g : Int → Int} {u v : List Nat} : ∀ p : Int, mat g p (u ++ v) = (mat g p u && mat g (p + u.length) v) := by
  induction u with
  | nil => intro p; simp [mat]
  | cons c cs ih =>
    intro p
    have e2 : p + ((c :: cs).length : Nat) = p + 1 + cs.length := by simp only [List.length_cons]; omega
    rw [e2]
    show (g p == (c : Int) && mat g (p + 1) (cs ++ v)) = _
    rw [ih (p + 1), ← Bool.and_assoc]; rfl
def rfS (a k : Nat) : Prop := (a = 312 ∧ k = 38) ∨ (333 ≤ a ∧ a ≤ 335)
/-- the model's references are rs: from, to, object -/
def MR (I : HI) (rs : List (Int × Int × Int)) : Prop := I 312 38 = rs.length ∧ ∀ (i : Nat) (r : Int × Int × Int), rs[i]? = some r → I 333 i = r.1 ∧ I 334 i = r.2.1 ∧ I 335 i = r.2.2
theorem MR.fr {S : Nat → Nat → Prop} {I I' : HI} {rs : List (Int × Int × Int)} (h : MR I rs) (hf : Fr S I I') (h1 : ¬ S 312 38) (h2 : ∀ k, ¬ S 333 k ∧ ¬ S 334 k ∧ ¬ S 335 k) : MR I' rs := by
  refine ⟨by rw [hf _ _ h1]; exact h.1, fun i r hr => ?_⟩
  rw [hf _ _ (h2 i).1, hf _ _ (h2 i).2.1, hf _ _ (h2 i).2.2]
  exact h.2 i r hr
section
variable {e : En} {D : HD} {g : Int → Int} {n s lim : Int} {I : HI}
theorem m92_21 (he : HS e) (hM : MoB g n s I) {w : Int} {l : List Nat} (hw : WOK w l) {x : Int} (h0 : 0 ≤ x) (h2 : x + l.length ≤ n) {Q : Int → HI → HD → Prop} (m : Nat) : ∀ j : Nat, j ≤ l.length → l.length - j = m → Q (b2i (mat g (x + j) (l.drop j))) I D →
    RI 92 21 [vR (some 312), vI x, vL w, vJ, vI (l.length : Int), vI (j : Int)] [] e I D Q := by
  have hn := hM.2.2.2.2.1
  induction m with
  | zero =>
    intro j hj hm h
    refine S92_21 he ⟨fun a => ?_, fun a => by omega⟩
    rw [show l.drop j = [] from List.drop_eq_nil_of_le (by omega)] at h; exact h
  | succ m ih =>
    intro j hj hm h
    obtain ⟨w1, w2⟩ := hw
    obtain ⟨⟨w3, w4⟩, w5⟩ := w2 j (by omega)
    refine S92_21 he ⟨fun a => by omega, fun a => ⟨⟨by omega, by omega⟩, m88 he hM (by omega) (by omega) ?_⟩⟩
    rw [show (8 * (j : Int)).toNat = 8 * j by omega, w5]
    rw [mat_drop (by omega)] at h
    have hb : ((w >>> (8 * j)) % 256) < 256 ∧ 0 ≤ ((w >>> (8 * j)) % 256) := by omega
    rw [w5] at hb
    refine ⟨⟨by omega, by omega⟩, ⟨by omega, by omega⟩, ⟨by omega, by omega⟩, ⟨by omega, by omega⟩, fun b => ⟨⟨by omega, by omega⟩, ?_⟩, fun b => ?_⟩
    · refine ih (j + 1) (by omega) (by omega) ?_
      rw [b] at h
      simpa using h
    · rw [beq_eq_false_iff_ne.mpr b] at h; exact h
theorem m92 (he : HS e) (hM : MoB g n s I) {w : Int} {l : List Nat} (hw : WOK w l) {x m : Int} (hm : m = l.length) (h0 : 0 ≤ x) (h1 : x ≤ 3000) {Q : Int → HI → HD → Prop} (h : Q (b2i (stF g n x l)) I D) : CI 92 [vR (some 312), vI x, vL w, vI m] e I D Q := by
  subst hm
  have hl := hw.1
  unfold stF at h
  refine S92 he ?_
  rw [hM.1, hM.2.2.1]
  have hs := hM.2.1
  refine ⟨⟨by omega, by omega⟩, ⟨by omega, by omega⟩, fun a => ?_, fun a => ?_⟩
  · rw [decide_eq_true (by omega)] at h
    refine m92_21 he hM hw h0 a _ 0 (by omega) rfl ?_
    simpa using h
  · rw [decide_eq_false (by omega)] at h; exact h
theorem wok_end : WOK 7018141438804520549 [101, 110, 100, 115, 116, 114, 101, 97] := ⟨by decide, by decide⟩
theorem stF_end {x : Int} (h0 : 0 ≤ x) : stF g n x (zstr 24) = (stF g n x [101, 110, 100, 115, 116, 114, 101, 97] && (decide (x + 9 ≤ n) && (g (x + 8) == 109))) := by
  have e1 : zstr 24 = [101, 110, 100, 115, 116, 114, 101, 97] ++ [109] := by decide
  rw [e1]
  unfold stF
  rw [mat_app]
  have e2 : mat g (x + (([101, 110, 100, 115, 116, 114, 101, 97] : List Nat).length : Nat)) [109] = (g (x + 8) == 109) := by
    show (g (x + 8) == 109 && true) = _
    rw [Bool.and_true]
  rw [e2]
  have l1 : (([101, 110, 100, 115, 116, 114, 101, 97] ++ [109] : List Nat).length : Int) = 9 := rfl
  have l2 : (([101, 110, 100, 115, 116, 114, 101, 97] : List Nat).length : Int) = 8 := rfl
  rw [l1, l2]
  by_cases c : x + 9 ≤ n
  · rw [decide_eq_true (by omega), decide_eq_true (by omega), decide_eq_true c]; simp
  · rw [decide_eq_false (by omega), decide_eq_false c]; simp
theorem m93 (he : HS e) (hM : MoB g n s I) {x : Int} (h0 : 0 ≤ x) (h1 : x ≤ 3000) {Q : Int → HI → HD → Prop} (h : Q (b2i (stF g n x (zstr 24))) I D) : CI 93 [vR (some 312), vI x] e I D Q := by
  rw [stF_end h0] at h
  have hs := hM.2.1
  refine S93 he (m92 he hM wok_end rfl h0 h1 ⟨fun a => ?_, fun a => ?_⟩)
  · rw [b2i_0.mp a] at h; exact h
  · rw [b2i_n a, Bool.true_and] at h
    rw [hM.1, hM.2.2.1]
    refine ⟨⟨by omega, by omega⟩, ⟨by omega, by omega⟩, fun b => ?_, fun b => ⟨⟨by omega, by omega⟩, m88 he hM (by omega) (by omega) ⟨fun c => ?_, fun c => ?_⟩⟩⟩
    · rw [decide_eq_false (by omega)] at h; exact h
    · rw [decide_eq_true (by omega), beq_eq_false_iff_ne.mpr c] at h; exact h
    · rw [decide_eq_true (by omega), Decidable.not_not.mp c] at h; exact h
theorem m94 (he : HS e) (hM : MoB g n s I) {w : Int} {l : List Nat} (hw : WOK w l) {f t m : Int} (hm : m = l.length) (h0 : 0 ≤ f) (h1 : f ≤ 3000) (h2 : 0 ≤ t) (h3 : t ≤ 3000) {Q : Int → HI → HD → Prop} (h : Q (b2i (isF g n f t l)) I D) : CI 94 [vR (some 312), vI f, vI t, vL w, vI m] e I D Q := by
  unfold isF at h
  refine S94 he ⟨⟨by omega, by omega⟩, fun a => ?_, fun a => m92 he hM hw hm h0 h1 ⟨fun b => ?_, fun b => ?_⟩⟩
  · rw [decide_eq_false (by omega)] at h; exact h
  · rw [b2i_0.mp b, Bool.and_false] at h; exact h
  · rw [b2i_n b, decide_eq_true (by omega)] at h; exact h
theorem m95_15 (he : HS e) (hM : MoB g n s I) {t : Int} (ht : t ≤ n) {Q : Int → HI → HD → Prop} (k : Nat) : ∀ p v : Int, 0 ≤ p → p ≤ t → (t - p).toNat = k → k ≤ 6 → 0 ≤ v → v ≤ mx k → Q (nuN g k p v) I D → RI 95 15 [vR (some 312), vJ, vI t, vI v, vI p, vJ] [] e I D Q := by
  have hn := hM.2.2.2.2.1
  induction k with
  | zero => intro p v h0 h1 h2 h3 h4 h5 h; exact S95_15 he ⟨fun _ => h, fun a => by omega⟩
  | succ k ih =>
    intro p v h0 h1 h2 h3 h4 h5 h
    obtain ⟨m1, m2⟩ := mx_step (show k < 6 by omega)
    refine S95_15 he ⟨fun a => by omega, fun a => m88 he hM h0 (by omega) ?_⟩
    have hN : nuN g (k + 1) p v = if g p < 48 ∨ 57 < g p then -1 else nuN g k (p + 1) (v * 10 + (g p - 48)) := rfl
    rw [hN] at h
    refine ⟨fun b => ?_, fun b => ⟨fun c => ⟨⟨by omega, by omega⟩, ⟨by omega, by omega⟩, ⟨by omega, by omega⟩, ⟨by omega, by omega⟩, ?_⟩, fun c => ?_⟩⟩
    · rw [if_pos (by omega)] at h; exact h
    · rw [if_neg (by omega)] at h
      rw [show 10 * v + g p - 48 = v * 10 + (g p - 48) by omega]
      exact ih (p + 1) _ (by omega) (by omega) (by omega) (by omega) (by omega) (by omega) h
    · rw [if_pos (by omega)] at h; exact h
theorem mx0 {k : Nat} (hk : k ≤ 6) : 0 ≤ mx k := by
  match k, hk with
  | 0, _ | 1, _ | 2, _ | 3, _ | 4, _ | 5, _ | 6, _ => decide
theorem m95 (he : HS e) (hM : MoB g n s I) {f t : Int} (h0 : 0 ≤ f) (h1 : f ≤ t) (h2 : t ≤ n) {Q : Int → HI → HD → Prop} (h : Q (nuF g f t) I D) : CI 95 [vR (some 312), vI f, vI t] e I D Q := by
  have hn := hM.2.2.2.2.1
  unfold nuF at h
  refine S95 he ⟨⟨by omega, by omega⟩, fun c => ?_, fun c => ?_⟩
  · rw [if_neg (by omega)] at h
    exact m95_15 he hM h2 _ f 0 h0 h1 rfl (by omega) (by omega) (mx0 (by omega)) h
  · rw [if_pos (by omega)] at h; exact h
theorem wok_R : WOK 82 [82] := ⟨by decide, by decide⟩
theorem m96 (he : HS e) (hM : MoB g n s I) {f t a : Int} (h0 : 0 ≤ f) (h1 : f ≤ t) (h2 : t ≤ n) (hl : I 312 32 = lim) (ha : I 312 31 = a) (ha0 : 0 ≤ a) (hal : a ≤ lim) (hln : lim ≤ n) {Q : Int → HI → HD → Prop}
    (hQ : ∀ I', Fr cuS I I' → I' 312 31 = (if rfB g n lim f t a = true then rfE g lim a else a) → Q (b2i (rfB g n lim f t a)) I' D) : CI 96 [vR (some 312), vI f, vI t] e I D Q := by
  have hn := hM.2.2.2.2.1
  have no : rfB g n lim f t a = false → ∀ I', Fr cuS I I' → RI 96 80 [vR (some 312), vJ, vJ, vI a, vJ, vJ] [] e I' D Q := by
    intro q I' hf
    refine S96_80 he (S96_81 he ⟨fun _ => ⟨Or.inl rfl, ?_⟩, fun w => absurd rfl w⟩)
    have := hQ (uI I' 312 31 a) (hf.trans (Fr.u ⟨rfl, Or.inl rfl⟩)) (by rw [uI_eq, q]; rfl)
    rw [q] at this; exact this
  have no2 : rfB g n lim f t a = false → ∀ I', Fr cuS I I' → RI 96 42 [vR (some 312), vJ, vJ, vI a, vJ, vJ] [] e I' D Q :=
    fun q I' hf => S96_42 he (S96_43 he ⟨fun _ => no q I' hf, fun w => absurd rfl w⟩)
  obtain ⟨k1, k2⟩ := skp_bd (g := g) hal
  refine S96 he (m95 he hM h0 h1 h2 ⟨fun b => ?_, fun b => ?_⟩)
  · rw [ha]
    refine m91 he hM hl ha ha0 hal hln (fun c I' hf e1 => ⟨fun _ => no2 (by simp [rfB, c]) I' hf, fun w => absurd rfl w⟩) (fun c I' hf e1 e2 e3 => ⟨fun w => absurd w (by decide), fun _ => ?_⟩)
    obtain ⟨k3, k4⟩ := tE_bd (g := g) c
    obtain ⟨k5, k6⟩ := skp_bd (g := g) k4
    have hM1 := hM.cu hf
    have l1 : I' 312 32 = lim := by rw [hf _ _ (by simp [cuS])]; exact hl
    rw [e2, e3]
    refine m95 he hM1 (by omega) (by omega) (by omega) ⟨fun d => no2 ?_ I' hf, fun d => S96_43 he ⟨fun w => absurd w (by decide), fun _ => ?_⟩⟩
    · have : decide (0 ≤ nuF g (skp g lim a) (tE g lim (skp g lim a))) = false := decide_eq_false (by omega)
      simp [rfB, this]
    · refine m91 he hM1 l1 e1 (by omega) k4 hln (fun c2 J hf2 e4 => ⟨fun _ => no (by simp [rfB, c2]) J (hf.trans hf2), fun w => absurd rfl w⟩) (fun c2 J hf2 e4 e5 e6 => ⟨fun w => absurd w (by decide), fun _ => ?_⟩)
      obtain ⟨k7, k8⟩ := tE_bd (g := g) c2
      rw [e5, e6]
      have hM2 := hM1.cu hf2
      refine m94 he hM2 wok_R rfl (by omega) (by omega) (by omega) (by omega) ⟨fun q => no ?_ J (hf.trans hf2), fun q => S96_81 he ⟨fun w => absurd w (by decide), fun _ => ⟨Or.inr rfl, ?_⟩⟩⟩
      · simp [rfB, b2i_0.mp q]
      · have hy : rfB g n lim f t a = true := by
          have q := b2i_n q
          have d : 0 ≤ nuF g (skp g lim a) (tE g lim (skp g lim a)) := by omega
          simp [rfB, q, b, c, c2, d]
        rw [uI_self rfl]
        have := hQ J (hf.trans hf2) (by rw [hy, if_pos rfl]; exact e4)
        rw [hy] at this; exact this
  · have : decide (0 ≤ nuF g f t) = false := decide_eq_false b
    have := hQ I Fr.refl (by rw [show rfB g n lim f t a = false by simp [rfB, this]]; exact ha)
    rw [show rfB g n lim f t a = false by simp [rfB, *]] at this; exact this
theorem m97 (he : HS e) {rs : List (Int × Int × Int)} (hR : MR I rs) (hl : rs.length < 700) {f o a : Int} (ha : I 312 31 = a) {Q : HI → HD → Prop}
    (hQ : ∀ I', Fr rfS I I' → MR I' (rs ++ [(f, a, o)]) → Q I' D) : CV 97 [vR (some 312), vI f, vI o] e I D Q := by
  refine S97 he ?_
  rw [hR.1, ha]
  refine ⟨⟨by omega, by omega⟩, ⟨by omega, by omega⟩, ⟨by omega, by omega⟩, ⟨by omega, by omega⟩, hQ _ ?_ ?_⟩
  · exact ((Fr.u (Or.inr ⟨by omega, by omega⟩)).trans (Fr.u (Or.inr ⟨by omega, by omega⟩))).trans ((Fr.u (Or.inr ⟨by omega, by omega⟩)).trans (Fr.u (Or.inl ⟨rfl, rfl⟩)))
  · rw [Int.toNat_natCast]
    refine ⟨by rw [uI_eq]; simp, fun i r hr => ?_⟩
    by_cases hi : i < rs.length
    · rw [List.getElem?_append_left hi] at hr
      have := hR.2 i r hr
      rw [uI_ne (by omega), uI_ne (by omega), uI_ne (by omega), uI_ne (by omega), uI_ne (by omega), uI_ne (by omega), uI_ne (by omega), uI_ne (by omega), uI_ne (by omega), uI_ne (by omega), uI_ne (by omega), uI_ne (by omega)]
      exact this
    · rw [List.getElem?_append_right (by omega)] at hr
      have hi2 : i = rs.length := by
        have := (List.getElem?_eq_some_iff.mp hr).1
        simp at this; omega
      subst hi2
      simp at hr
      subst hr
      simp [uI]
end
