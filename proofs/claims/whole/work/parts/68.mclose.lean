/-! the model's open object: closeMissing, readTrailer -/
def mgS (d a k : Nat) : Prop := (a = 312 ∧ ((25 ≤ k ∧ k ≤ 38) ∨ k = 42 ∨ (45 ≤ k ∧ k ≤ 51) ∨ (d = 0 ∧ k = 17))) ∨ (333 ≤ a ∧ a ≤ 337) ∨ (316 ≤ a ∧ a ≤ 322 ∧ 61 * d ≤ k ∧ k < 61 * d + 61) ∨
  ((a = 323 ∨ a = 327 ∨ a = 328 ∨ a = 329) ∧ k = d) ∨ ((a = 324 ∨ a = 325) ∧ 2000 * d ≤ k ∧ k < 2000 * d + 2000) ∨ (a = 326 ∧ d = 0)
def maS (d a k : Nat) : Prop := mgS d a k ∨ (a = 338 ∨ a = 339) ∨ ((a = 330 ∨ a = 331) ∧ k = d) ∨ (a = 332 ∧ 61 * d ≤ k ∧ k < 61 * d + 61)
def OPN (I : HI) (i h t od oe : Int) (ow : Bool) : Prop := I 312 25 = i ∧ I 312 26 = h ∧ I 312 27 = t ∧ I 312 28 = od ∧ I 312 29 = oe ∧ I 312 30 = b2i ow
def obO1 (g : Int → Int) (n h : Int) : Bool := !obS g n h || decide (0 ≤ ebL g n (obD g n h) (obL g n h))
/-- the object that began at h, all its tokens gone through, is still open -/
def OPE (g : Int → Int) (n : Int) (I : HI) (h : Int) : Prop := OPN I (mF g n h) h (e3F g n h) (dtF (obF g n h)) (deF (obF g n h)) (obO1 g n h)
def Sim (g : Int → Int) (n : Int) (d : Nat) (I : HI) (s : SC) (p : Int) : Prop := (I 312 25 = 0 ∧ MM d I s) ∨
  ∃ (h : Int) (s0 : SC), (0 ≤ h ∧ h ≤ n ∧ kF' g n h = 5) ∧ p = obE g n h ∧ kF' g n p ≠ 6 ∧ (obS g n h = true → 0 ≤ obY g n h) ∧ OPE g n I h ∧ MM d I (s0.1, s0.2.1 ++ obM g n h, s0.2.2) ∧ s = obX g n h s0
theorem OPN.fr {S : Nat → Nat → Prop} {I I' : HI} {i h t od oe : Int} {ow : Bool} (o : OPN I i h t od oe ow) (hf : Fr S I I') (hs : ∀ k, 25 ≤ k → k ≤ 30 → ¬ S 312 k) : OPN I' i h t od oe ow := by
  obtain ⟨a1, a2, a3, a4, a5, a6⟩ := o
  exact ⟨by rw [hf _ _ (hs 25 (by omega) (by omega))]; exact a1, by rw [hf _ _ (hs 26 (by omega) (by omega))]; exact a2, by rw [hf _ _ (hs 27 (by omega) (by omega))]; exact a3, by rw [hf _ _ (hs 28 (by omega) (by omega))]; exact a4, by rw [hf _ _ (hs 29 (by omega) (by omega))]; exact a5, by rw [hf _ _ (hs 30 (by omega) (by omega))]; exact a6⟩
section
variable {e : En} {g : Int → Int} {n : Int} {d : Nat} {I : HI} {D : HD}
theorem MoB.mg {I' : HI} (h : MoB g n (d : Int) I) (hf : Fr (mgS d) I I') : MoB g n (d : Int) I' := h.fr hf (fun q => by unfold mgS at q; omega) (fun k => ⟨fun q => by unfold mgS at q; omega, fun q => by unfold mgS at q; omega⟩)
theorem MoB.ma {I' : HI} (h : MoB g n (d : Int) I) (hf : Fr (maS d) I I') : MoB g n (d : Int) I' := h.fr hf (fun q => by unfold maS mgS at q; omega) (fun k => ⟨fun q => by unfold maS mgS at q; omega, fun q => by unfold maS mgS at q; omega⟩)
theorem dimg (a k : Nat) (h : diS a k) : mgS d a k := by unfold diS at h; unfold mgS; omega
theorem cumg (a k : Nat) (h : cuS a k) : mgS d a k := by unfold cuS at h; unfold mgS; omega
theorem mnmg (a k : Nat) (h : mnS d a k) : mgS d a k := by unfold mnS at h; unfold mgS; omega
theorem clmg {i : Nat} (hi : i < 61) (a k : Nat) (h : clS d i a k) : mgS d a k := by unfold clS mnS at h; unfold mgS; omega
theorem Sim.fr {I' : HI} {S : Nat → Nat → Prop} {s : SC} {p : Int} (h : Sim g n d I s p) (hf : Fr S I I') (hs : ∀ a k, S a k → (a < 316 ∨ 329 < a) ∧ (a = 312 → k ≠ 17 ∧ ¬ (25 ≤ k ∧ k ≤ 30))) : Sim g n d I' s p := by
  rcases h with ⟨h1, h2⟩ | ⟨h, s0, a1, a2, a3, a4, a5, a6, a7⟩
  · exact Or.inl ⟨by rw [hf _ _ (fun q => by have := hs _ _ q; omega)]; exact h1, h2.fr hf (fun a k q => ⟨(hs a k q).1, fun w => ((hs a k q).2 w).1⟩)⟩
  · exact Or.inr ⟨h, s0, a1, a2, a3, a4, a5.fr hf (fun k q1 q2 q => by have := hs _ _ q; omega), a6.fr hf (fun a k q => ⟨(hs a k q).1, fun w => ((hs a k q).2 w).1⟩), a7⟩
/-- what a closed object adds -/
theorem keS_ob {h : Int} {s : SC} (hc : obC g n h = false) (hm : 0 ≤ mF g n h) : keS (mF g n h).toNat (obF g n h) (s.1, s.2.1 ++ obM g n h ++ obM2 g n h, s.2.2) = obX g n h s := by
  have e1 : ((mF g n h).toNat : Int) = mF g n h := by omega
  unfold obX keS
  rw [if_neg (by rw [hc]; decide), e1]
  rfl
theorem whF_ob {h : Int} : whF (obF g n h) = (obO1 g n h && (kF' g n (obE g n h) == 6)) := by
  show ((kF' g n (obE g n h) == 6) && (!obS g n h || (obS g n h && decide (0 ≤ ebL g n (obD g n h) (obL g n h))))) = _
  unfold obO1
  cases obS g n h <;> cases (kF' g n (obE g n h) == 6) <;> simp
theorem obX_len {h : Int} {s : SC} : (obC g n h = false → (s.2.1 ++ obM g n h ++ obM2 g n h).length ≤ (obX g n h s).2.1.length) ∧ (s.2.1 ++ obM g n h).length ≤ (obX g n h s).2.1.length ∧ s.2.2.1.length ≤ (obX g n h s).2.2.1.length := by
  unfold obX
  split
  · rename_i c
    refine ⟨(fun w => by rw [c] at w; cases w), ?_, Nat.le_refl _⟩
    show (s.2.1 ++ obM g n h).length ≤ (s.2.1 ++ obM g n h ++ [(h, h, 10)]).length
    simp only [List.length_append]; omega
  · refine ⟨fun _ => ?_, ?_, ?_⟩
    · show (s.2.1 ++ obM g n h ++ obM2 g n h).length ≤ (s.2.1 ++ obM g n h ++ obM2 g n h ++ _).length
      simp only [List.length_append]; omega
    · show (s.2.1 ++ obM g n h).length ≤ (s.2.1 ++ obM g n h ++ obM2 g n h ++ _).length
      simp only [List.length_append]; omega
    · show s.2.2.1.length ≤ (s.2.2.1 ++ _).length
      simp only [List.length_append]; omega
theorem WT.len {p : Int} {s : SC} (h : WT g n p s) (hp : p ≤ 3000) : s.2.1.length < 1002 ∧ s.2.2.1.length < 430 := by
  have a := h.1
  have b := h.2
  omega
theorem m108 (he : HS e) (hM : MoB g n (d : Int) I) {s : SC} {p : Int} (hS : Sim g n d I s p) (hW : WT g n n s) (hp : kF' g n p ≠ 0 ∨ 0 ≤ I 312 28) {Q : HI → HD → Prop}
    (hQ : ∀ I', Fr (mgS d) I I' → (∀ k, k = 31 ∨ k = 32 ∨ k = 33 ∨ k = 34 → I' 312 k = I 312 k) → I' 312 25 = 0 → MM d I' s → Q I' D) : CV 108 [vR (some 312), vI p] e I D Q := by
  obtain ⟨m4, hd, -, h0n, h3n⟩ := hM.sd
  have wl := hW.len h3n
  refine S108 he ?_
  rcases hS with ⟨h1, h2⟩ | ⟨h, s0, ⟨h0, hn, hk⟩, a2, a3, a4, ⟨o1, o2, o3, o4, o5, o6⟩, a6, rfl⟩
  · rw [h1]
    exact ⟨fun _ => hQ I Fr.refl (fun _ _ => rfl) h1 h2, fun q => absurd (Int.le_refl 0) q⟩
  · have hd5 := hd_5 hn hk
    have ol := obX_len (g := g) (n := n) (h := h) (s := s0)
    have hc : obC g n h = false := by
      unfold obC
      rw [← a2]
      rcases hp with hp | hp
      · have : (kF' g n p == 0) = false := by simpa using hp
        rw [this]; rfl
      · rw [o4] at hp
        cases hs : obS g n h with
        | true => simp
        | false =>
          have : dtF (obF g n h) = -1 := by
            show (if obS g n h = true then _ else -1) = _
            rw [if_neg (by rw [hs]; decide)]
          omega
    have eM2 : obM2 g n h = [(p, p, 1)] := by
      have hh : obS g n h = false ∨ 0 ≤ obY g n h := by
        cases hs : obS g n h with
        | true => exact Or.inr (a4 hs)
        | false => exact Or.inl rfl
      unfold obM2
      rw [← a2]
      exact if_pos ⟨a3, hh⟩
    have l1 := ol.1 hc
    rw [eM2] at l1
    simp only [List.length_append, List.length_singleton] at l1 ol
    rw [o1]
    refine ⟨fun q => by omega, fun _ => m106 he m4 hd a6 (by show (s0.2.1 ++ obM g n h).length < 2000; rw [List.length_append]; omega) fun I1 f1 M1 => ?_⟩
    have gk : ∀ k, I1 312 k = I 312 k := fun k => f1 _ _ (fun q => by unfold mnS at q; omega)
    have ei : mF g n h = ((mF g n h).toNat : Int) := by omega
    refine m107 he (by rw [gk]; exact m4) hd M1 (i := (mF g n h).toNat) (by omega) (by omega) (gd := false) (by rw [gk, o1]; exact ei) (by rw [gk]; exact o2) (by rw [gk]; exact o3) (by rw [gk]; exact o4) (by rw [gk]; exact o5) (by rw [gk]; exact o6) (f := obF g n h) ⟨rfl, rfl, a2.symm, ?_, rfl, rfl⟩ (by show (s0.2.1 ++ obM g n h ++ [(p, p, 1)]).length < 2000; simp only [List.length_append, List.length_singleton]; omega) (by show s0.2.2.1.length < 800; omega) fun I2 f2 z2 M2 => ?_
    · rw [whF_ob, ← a2]
      have : (kF' g n p == 6) = false := by simpa using a3
      rw [this]
    · have ek := keS_ob (g := g) (n := n) (h := h) (s := s0) hc (by omega)
      rw [eM2] at ek
      have M2 : MM d I2 (keS (mF g n h).toNat (obF g n h) (s0.1, s0.2.1 ++ obM g n h ++ [(p, p, 1)], s0.2.2)) := M2
      rw [ek] at M2
      refine hQ I2 ((f1.mono mnmg).trans (f2.mono (clmg (by omega)))) (fun k q => ?_) z2 M2
      rw [f2 _ _ (fun w => by unfold clS mnS at w; omega)]; exact gk k
theorem ky_num {v : Int} (hv : v ≤ n) : (if raF g n v = true then -1 else mF g n v) = (if kF' g n v = 4 then -1 else mF g n v) := by
  cases hr : raF g n v with
  | false =>
    unfold raF at hr
    simp only [Bool.or_eq_false_iff, beq_eq_false_iff_ne] at hr
    rw [if_neg hr.2]; rfl
  | true =>
    rw [if_pos rfl]
    by_cases c : kF' g n v = 4
    · rw [if_pos c]
    · rw [if_neg c]
      unfold raF at hr
      simp only [Bool.or_eq_true, beq_iff_eq] at hr
      exact (mF_row (by omega) hv).symm
theorem trP_ok {w : Int} (h0 : 0 ≤ w) (h1 : w ≤ n) : ∀ pr ∈ trP g n w, (0 ≤ pr.2.1 ∧ pr.2.1 < n) := by
  unfold trP
  split
  · intro pr hpr
    have nb := nxF_bd (g := g) h1
    have nb2 := nxF_bd (g := g) nb.2.1
    have p := dic_pr (Bd_n (g := g) (n := n)) 4000 (nxF g n (nxF g n w)) [] [] ⟨by omega, nb2.2.1, skp_skp (eF_bd (g := g) nb.2.1).2.1⟩ (by simp; omega) (fun pr h => by cases h) pr hpr
    exact ⟨p.1.1, p.2.1⟩
  · intro pr hpr; cases hpr
/-- a trailer's dictionary, asked for a key -/
theorem m98_tr (he : HS e) (hM : MoB g n (d : Int) I) {w : Int} (h0 : 0 ≤ w) (h1 : w ≤ n) {x m : Int} {l : List Nat} (hw : WOK x l) (hm : m = l.length) {Q : HI → HD → Prop}
    (hQ : ∀ I' rs, Fr diS I I' → MD g n l (I 312 51) I' (trP g n w) rs → (∀ pr ∈ trP g n w, kF' g n pr.2.1 = 4 → rs[pr.2.2.2.1]? = some (pr.2.1, e3F g n pr.2.1, mF g n pr.2.1)) → rs.length ≤ 700 → Q I' D) : CV 98 [vR (some 312), vI (eF g n w), vI n, vL x, vI m] e I D Q := by
  have nb := nxF_bd (g := g) h1
  have eb := eF_bd (g := g) h1
  have sb := skp_bd (g := g) eb.2.1
  have nb2 := nxF_bd (g := g) nb.2.1
  obtain ⟨m4, hd, -, h0n, h3n⟩ := hM.sd
  refine m98 he (Bd_n (g := g) (n := n)) (lim := n) ⟨Int.le_refl _, Int.le_refl _, Or.inl rfl⟩ hw hm hM (x := eF g n w) (p := nxF g n w) (by omega) sb.1 rfl ⟨by omega, nb.2.1, skp_skp eb.2.1⟩ (Or.inl rfl) (fun q I' f' M' _ _ => ?_) fun q I' f' M' _ _ _ => ?_
  · have e1 : trP g n w = [] := if_neg (fun k9 => q ⟨(kF_9 k9).1, k9⟩)
    rw [e1] at hQ
    exact hQ I' [] f' M' (fun pr h => by cases h) (by simp)
  · have e1 : trP g n w = (dicN g n n 4000 (nxF g n (nxF g n w)) [] []).2.2.1 := if_pos q.2
    rw [e1] at hQ
    have hP : 0 ≤ nxF g n (nxF g n w) ∧ nxF g n (nxF g n w) ≤ n ∧ skp g n (nxF g n (nxF g n w)) = nxF g n (nxF g n w) := ⟨by omega, nb2.2.1, skp_skp (eF_bd (g := g) nb.2.1).2.1⟩
    have dl := dic_le (Bd_n (g := g) (n := n)) 4000 (nxF g n (nxF g n w)) [] [] hP (by simp; omega)
    exact hQ I' _ f' M' (fun pr hpr => (dic_pr (Bd_n (g := g) (n := n)) 4000 (nxF g n (nxF g n w)) [] [] hP (by simp; omega) (fun pr h => by cases h) pr hpr).2.2) (by omega)
theorem MM.u327 {s : SC} (h : MM d I s) {z : Int} : MM d (uI I 327 d z) (s.1, s.2.1, s.2.2.1, z, s.2.2.2.2) := by
  obtain ⟨h1, h2, h3, h4, h5, h6⟩ := h
  have F : Fr (fun a k => a = 327 ∧ k = d) I (uI I 327 d z) := Fr.u ⟨rfl, rfl⟩
  exact ⟨fun i i1 i2 => (h1 i i1 i2).fr F (fun a q1 q2 q => by omega), h2.fr F (by omega) (fun k _ _ => ⟨by omega, by omega⟩), fun h => (h3 h).fr F (by omega) (fun k => by omega), uI_eq, by rw [F _ _ (by omega)]; exact h5, by rw [F _ _ (by omega)]; exact h6⟩
theorem MM.u328 {s : SC} (h : MM d I s) {z : Int} : MM d (uI I 328 d z) (s.1, s.2.1, s.2.2.1, s.2.2.2.1, z, s.2.2.2.2.2) := by
  obtain ⟨h1, h2, h3, h4, h5, h6⟩ := h
  have F : Fr (fun a k => a = 328 ∧ k = d) I (uI I 328 d z) := Fr.u ⟨rfl, rfl⟩
  exact ⟨fun i i1 i2 => (h1 i i1 i2).fr F (fun a q1 q2 q => by omega), h2.fr F (by omega) (fun k _ _ => ⟨by omega, by omega⟩), fun h => (h3 h).fr F (by omega) (fun k => by omega), by rw [F _ _ (by omega)]; exact h4, uI_eq, by rw [F _ _ (by omega)]; exact h6⟩
theorem m109 (he : HS e) (hM : MoB g n (d : Int) I) {s : SC} {p : Int} (h0 : 0 ≤ p) (h1 : p ≤ n) (hk : kF' g n p = 7) (hS : Sim g n d I s p) (hW : WT g n n s) (ha : I 312 31 = eF g n p) (hl : I 312 32 = n) (hf : I 312 33 = p) {Q : HI → HD → Prop}
    (hQ : ∀ I', Fr (mgS d) I I' → I' 312 31 = eF g n p → I' 312 32 = n → I' 312 25 = 0 → MM d I' (trX g n p s) → Q I' D) : CV 109 [vR (some 312)] e I D Q := by
  obtain ⟨m4, hd, -, h0n, h3n⟩ := hM.sd
  refine S109 he ?_
  rw [hf]
  refine m108 he hM hS hW (Or.inl (by omega)) fun I1 f1 g1 z1 M1 => ?_
  have hM1 := hM.mg f1
  have a31 : I1 312 31 = eF g n p := by rw [g1 31 (by omega)]; exact ha
  have a32 : I1 312 32 = n := by rw [g1 32 (by omega)]; exact hl
  rw [a31, a32]
  refine m98_tr he hM1 h0 h1 wok_roo (by decide) fun I2 rs f2 D2 hp2 hl2 => m101 he D2 hp2 hl2 ?_
  have hM2 := hM1.di f2
  have M2 := M1.di f2
  rw [← ky_6]
  have g4 : I2 312 4 = (d : Int) := hM2.1
  rw [g4]
  -- behind the root
  have s58 : ∀ r : Int, r = (trX g n p s).2.2.2.1 → RV 109 58 [vR (some 312), vI (eF g n p), vI n, vJ] [vI r, vI (d : Int), vR (some 327)] e I2 D Q := by
    intro r hr
    subst hr
    refine S109_58 he ?_
    rw [Int.toNat_natCast]
    have F3 : Fr (mgS d) I2 (uI I2 327 d (trX g n p s).2.2.2.1) := Fr.u (by unfold mgS; omega)
    have hM3 := hM2.mg F3
    have M3 := M2.u327 (z := (trX g n p s).2.2.2.1)
    refine ⟨⟨by omega, by omega⟩, m98_tr he hM3 h0 h1 wok_siz (by decide) fun I4 rs4 f4 D4 _ _ => ?_⟩
    have hM4 := hM3.di f4
    have M4 := M3.di f4
    have g44 : I4 312 4 = (d : Int) := hM4.1
    rw [g44]
    have z4 : I4 312 25 = 0 := by rw [f4 _ _ (fun q => by unfold diS at q; omega), uI_ne (by omega), f2 _ _ (fun q => by unfold diS at q; omega)]; exact z1
    have s107 : ∀ t : Int, t = (trX g n p s).2.2.2.2.1 → RV 109 107 [vR (some 312), vI (eF g n p), vI n, vJ] [vI t, vI (d : Int), vR (some 328)] e I4 D Q := by
      intro t ht
      subst ht
      refine S109_107 he ?_
      rw [Int.toNat_natCast]
      have F5 : Fr (mgS d) I4 (uI (uI (uI I4 328 d (trX g n p s).2.2.2.2.1) 312 31 (eF g n p)) 312 32 n) := (Fr.u (S := mgS d) (by unfold mgS; omega)).trans ((Fr.u (S := mgS d) (by unfold mgS; omega)).trans (Fr.u (S := mgS d) (by unfold mgS; omega)))
      have M5 := M4.u328 (z := (trX g n p s).2.2.2.2.1)
      have F6 : Fr (fun a k => a = 312 ∧ (k = 31 ∨ k = 32)) (uI I4 328 d (trX g n p s).2.2.2.2.1) (uI (uI (uI I4 328 d (trX g n p s).2.2.2.2.1) 312 31 (eF g n p)) 312 32 n) := (Fr.u (S := fun a k => a = 312 ∧ (k = 31 ∨ k = 32)) ⟨rfl, Or.inl rfl⟩).trans (Fr.u ⟨rfl, Or.inr rfl⟩)
      refine ⟨⟨by omega, by omega⟩, hQ _ (f1.trans ((f2.mono dimg).trans (F3.trans ((f4.mono dimg).trans F5)))) (by rw [uI_ne (by omega), uI_eq]) uI_eq (by rw [uI_ne (by omega), uI_ne (by omega), uI_ne (by omega)]; exact z4) ?_⟩
      have := M5.fr F6 (fun a k q => by omega)
      exact this
    have s98 : dfF g n 0 (trP g n p) 7 < 0 → RV 109 98 [vR (some 312), vI (eF g n p), vI n, vJ] [vI (d : Int), vR (some 328)] e I4 D Q := by
      intro hneg
      refine S109_98 he ?_
      rw [g44, Int.toNat_natCast]
      refine ⟨⟨by omega, by omega⟩, s107 _ ?_⟩
      have : I4 328 d = s.2.2.2.2.1 := M4.2.2.2.2.1
      rw [this]
      exact (if_neg (by omega)).symm
    obtain ⟨-, -, hK⟩ := D4
    have k7 := ky_7 (g := g) (n := n) (trP g n p)
    cases hk4 : kyF g n (zstr 22) (trP g n p) with
    | none =>
      rw [hk4] at hK k7
      have hK : I4 312 45 = 0 := hK.1
      exact ⟨fun _ => s98 (by rw [k7]; show (-1 : Int) < 0; decide), fun q => absurd hK q⟩
    | some pr =>
      rw [hk4] at hK k7
      obtain ⟨a1, a2, -⟩ := hK
      have pp := trP_ok h0 h1 pr (ky_mem hk4)
      rw [ky_num (by omega)] at a2
      have k7 : dfF g n 0 (trP g n p) 7 = (if kF' g n pr.2.1 = 4 then -1 else mF g n pr.2.1) := k7
      rw [← k7] at a2
      rw [a2]
      exact ⟨fun q => by omega, fun _ => ⟨fun q => s98 q, fun q => s107 _ (if_pos (by omega)).symm⟩⟩
  have e327 : I2 327 d = s.2.2.2.1 := M2.2.2.2.1
  rw [Int.toNat_natCast, e327]
  exact ⟨fun q => ⟨⟨by omega, by omega⟩, s58 _ (if_neg (by omega)).symm⟩, fun q => s58 _ (if_pos (by omega)).symm⟩
end
