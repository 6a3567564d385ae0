/-! records of objects come from heads; the rest of the Writer -/
def OK1 (g : Int → Int) (n : Int) (i : Nat) (f : FR) : Prop := ∃ h, 0 ≤ h ∧ h ≤ n ∧ skp g n h = h ∧ kF' g n h = 5 ∧ mF g n h = (i : Int) ∧ f = obF g n h ∧ obC g n h = false
def OKS (g : Int → Int) (n : Int) (fo : Nat → Option FR) : Prop := ∀ i f, fo i = some f → OK1 g n i f
section
variable {g : Int → Int} {n : Int}
theorem OKS_ob {s : SC} {h : Int} (hO : OKS g n s.1) (h0 : 0 ≤ h) (h1 : h ≤ n) (hs : skp g n h = h) (hk : kF' g n h = 5) : OKS g n (obX g n h s).1 := by
  by_cases c : obC g n h = true
  · have : (obX g n h s).1 = s.1 := by unfold obX; rw [if_pos c]
    rw [this]; exact hO
  · have : (obX g n h s).1 = fun i => if i = (mF g n h).toNat then some (obF g n h) else s.1 i := by unfold obX; rw [if_neg c]
    rw [this]
    intro i f hf
    dsimp only at hf
    split at hf
    · rename_i q
      cases hf
      have hd := hd_5 h1 hk
      exact ⟨h, h0, h1, hs, hk, by omega, rfl, by simpa using c⟩
    · exact hO i f hf
theorem scN_ok (k : Nat) : ∀ (p : Int) (s : SC), 0 ≤ p → p ≤ n → skp g n p = p → OKS g n s.1 → OKS g n (scN g n k p s).1 := by
  induction k with
  | zero => intro p s _ _ _ h; exact h
  | succ k ih =>
    intro p s h0 h1 hs hO
    have nb := nxF_bd (g := g) h1
    have hsn : skp g n (nxF g n p) = nxF g n p := skp_skp (eF_bd (g := g) h1).2.1
    unfold scN
    split
    · exact hO
    · split
      · rename_i k5
        have b := ob_bd h0 h1 k5
        exact ih _ _ (by omega) b.2.2.2.2.2.2.2.1 b.2.2.2.2.2.2.2.2 (OKS_ob hO h0 h1 hs k5)
      · split
        · exact ih _ _ (by omega) nb.2.1 hsn hO
        · exact ih _ _ (by omega) nb.2.1 hsn hO
theorem scF_ok (h0 : 0 ≤ n) : OKS g n (scF g n).1 := by
  have sb := skp_bd (g := g) h0
  exact scN_ok 4000 _ _ sb.1 sb.2 (skp_skp h0) (fun i f h => by cases h)
theorem stT_bd {d l : Int} (h0 : 0 ≤ d) (h1 : d ≤ n) : d ≤ stT g n d l ∧ stT g n d l ≤ n := by
  unfold stT
  split
  · rename_i c
    have := ebL_bd h0 c
    omega
  · split
    · rename_i c
      have := ebW_bd h1 c
      split <;> omega
    · omega
theorem OK1.bd {i : Nat} {f : FR} (h : OK1 g n i f) : (1 ≤ i ∧ i ≤ 60) ∧ (0 ≤ f.2.1 ∧ f.2.1 ≤ f.2.2.1 ∧ f.2.2.1 ≤ n) ∧ (0 ≤ f.2.2.2.2.2.2.1 ∧ f.2.2.2.2.2.2.1 ≤ f.2.2.2.2.2.2.2 ∧ f.2.2.2.2.2.2.2 ≤ n) ∧ (0 ≤ dFr g n f ∧ dFr g n f ≤ n ∧ dTo g n f ≤ n) ∧ (0 ≤ skp g n f.2.1 ∧ skp g n f.2.1 ≤ n ∧ skp g n (skp g n f.2.1) = skp g n f.2.1) := by
  obtain ⟨h, h0, h1, hs, hk, hm, rfl, hc⟩ := h
  obtain ⟨⟨b1, b2, b3, b4⟩, ⟨b5, b6⟩, ⟨b7, b8, b9⟩, b10, ⟨b11, b12, b13⟩, ⟨b14, b15, b16⟩, b17, b18, b19⟩ := ob_bd h0 h1 hk
  have hd := hd_5 h1 hk
  have e1 : (obF g n h).2.1 = e3F g n h := rfl
  have e2 : (obF g n h).2.2.1 = obE g n h := rfl
  have e3 : (obF g n h).2.2.2.2.2.2.1 = (if obS g n h = true then obD g n h else 0) := rfl
  have e4 : (obF g n h).2.2.2.2.2.2.2 = (if obS g n h = true then stT g n (obD g n h) (obL g n h) else 0) := rfl
  have e5 : skp g n (obF g n h).2.1 = obP g n h := rfl
  have eb := eF_bd (g := g) b3
  rw [e3, e4]
  unfold dFr dTo
  rw [e1, e2, show skp g n (e3F g n h) = obP g n h from rfl]
  refine ⟨by omega, by omega, ?_, ?_, by omega, b3, b4⟩
  · split
    · rename_i w
      have := b10 w
      have := stT_bd (g := g) (n := n) (d := obD g n h) (l := obL g n h) (by omega) (by omega)
      omega
    · omega
  · split
    · omega
    · omega
theorem ff_end {P : Int → Bool} {f t : Int} (h : f ≤ t) : f ≤ ff P t f ∧ ff P t f ≤ t := ff_bd h
theorem trR_bd {f : Int} (k : Nat) : ∀ t : Int, f ≤ t → f ≤ trR g f k t ∧ trR g f k t ≤ t := by
  induction k with
  | zero => intro t h; exact ⟨h, Int.le_refl _⟩
  | succ k ih =>
    intro t h
    unfold trR
    split
    · omega
    · split
      · omega
      · have := ih (t - 1) (by omega); omega
end
section
variable {e : En} {g : Int → Int} {n : Int} {A : Nat} {D : HD}
theorem c65 (he : HS e) (hA : isA A) {I : HI} {s : SC} {rs ls : RfL} (hC : CS g n A I D s rs ls) (hnA : n ≤ L0 (A + 1)) (hby : ∀ p : Int, 0 ≤ p → p < n → I (A + 1) p.toNat % 256 = g p) (hbR : rs.length < 100000) (hbL : ls.length < 100000) {F : Nat} (hF : K0 F = 3) (hFA : A + 22 ≤ F ∧ F + 1 < A + 146) {i0 : Nat} {f : FR} (hcf : CF g n I F rs ls f) (ho : OK1 g n i0 f)
    {lv : Bool} {i t : Int} (h0 : 0 ≤ i) (ht : t ≤ n) {l : List Int} (hW : WM I l) {Q : HI → HD → Prop} (hQ : ∀ I', Fr wmS I I' → WM I' (l ++ cpN g s.1 (dRs g n f) (dLn g n f) lv t 4000 i) → Q I' D) :
    CV 65 [vR (some 310), vR (some A), vR (some (F + 1)), vI i, vI t, vI (b2i lv)] e I D Q := by
  obtain ⟨-, r0, l0, a0, a1, a2, a3, a4, a5, a6, a7, a8, a9⟩ := hcf
  have bd := ho.bd.2.2.2.2
  have so := dR_srt (g := g) (n := n) bd.1 bd.2.1 bd.2.2
  obtain ⟨hn3, -⟩ := caps hA hnA
  have a81 : r0 + (dRs g n f).length ≤ rs.length := a8.1
  have a91 : l0 + (dLn g n f).length ≤ ls.length := a9.1
  refine S65 he hA (kF hF).1 ?_
  rw [a4, a6]
  have := c65_15 he hA hC hnA hby (kF hF).1 (by omega) (R := dRs g n f) (L := dLn g n f) (r0 := r0) (l0 := l0) a5 a7 a8.2 a9.2 (by omega) (by omega) so.1 so.2.2.1 so.2.1 so.2.2.2 (lv := lv) ht (Q := Q) 4000 i 0 0 I l h0 (by omega) Fr.refl ⟨Nat.zero_le _, fun a r q => by omega⟩ ⟨Nat.zero_le _, fun a r q => by omega⟩ hW hQ
  exact this
theorem c63_11 (he : HS e) (hA : isA A) {I : HI} (hn : I A 2 = n) (hnA : n ≤ L0 (A + 1)) (hby : ∀ p : Int, 0 ≤ p → p < n → I (A + 1) p.toNat % 256 = g p) {F : Nat} (hF : K0 F = 3) {t : Int} (ht : t ≤ n) {Q : HI → HD → Prop} (k : Nat) : ∀ i : Int, 0 ≤ i → (t - i).toNat ≤ k →
    RV 63 33 [vR (some 310), vR (some A), vR (some F), vI (ff (blP g) t i), vI t] [] e I D Q → RV 63 11 [vR (some 310), vR (some A), vR (some F), vI i, vI t] [] e I D Q := by
  obtain ⟨hn3, -⟩ := caps hA hnA
  induction k with
  | zero =>
    intro i h0 hk hQ
    rw [ff_ge (by omega)] at hQ
    exact S63_11 he hA hF ⟨fun _ => hQ, fun q => by omega⟩
  | succ k ih =>
    intro i h0 hk hQ
    refine S63_11 he hA hF ⟨fun q => by rw [ff_ge q] at hQ; exact hQ, fun q => c37 he hA hn hnA ?_⟩
    rw [if_pos (by omega), hby i h0 (by omega)]
    refine ⟨fun w => ?_, fun w => ⟨⟨by omega, by omega⟩, ih (i + 1) (by omega) (by omega) ?_⟩⟩
    · rw [ff_hit (by unfold blP; simpa using w)] at hQ; exact hQ
    · rw [ff_go (by omega) (by unfold blP; simpa using w)] at hQ; exact hQ
theorem c63_33 (he : HS e) (hA : isA A) {I : HI} (hn : I A 2 = n) (hnA : n ≤ L0 (A + 1)) (hby : ∀ p : Int, 0 ≤ p → p < n → I (A + 1) p.toNat % 256 = g p) {F : Nat} (hF : K0 F = 3) {i : Int} (h0 : 0 ≤ i) {Q : HI → HD → Prop} (k : Nat) : ∀ t : Int, t ≤ n → (t - i).toNat ≤ k →
    RV 63 58 [vR (some 310), vR (some A), vR (some F), vI i, vI (trR g i k t)] [] e I D Q → RV 63 33 [vR (some 310), vR (some A), vR (some F), vI i, vI t] [] e I D Q := by
  obtain ⟨hn3, -⟩ := caps hA hnA
  induction k with
  | zero =>
    intro t ht hk hQ
    exact S63_33 he hA hF ⟨fun _ => hQ, fun q => by omega⟩
  | succ k ih =>
    intro t ht hk hQ
    refine S63_33 he hA hF ⟨fun q => ?_, fun q => ⟨⟨by omega, by omega⟩, c37 he hA hn hnA ?_⟩⟩
    · have : trR g i (k + 1) t = t := by unfold trR; rw [if_pos q]
      rw [this] at hQ; exact hQ
    · rw [if_pos (by omega), hby (t - 1) (by omega) (by omega)]
      refine ⟨fun w => ?_, fun w => ⟨⟨by omega, by omega⟩, ih (t + -1) (by omega) (by omega) ?_⟩⟩
      · have : trR g i (k + 1) t = t := by unfold trR; rw [if_neg q, if_pos w]
        rw [this] at hQ; exact hQ
      · have : trR g i (k + 1) t = trR g i k (t + -1) := by conv => lhs; unfold trR; rw [if_neg q, if_neg w]
                                                            rfl
        rw [this] at hQ; exact hQ
theorem c63 (he : HS e) (hA : isA A) {I : HI} {s : SC} {rs ls : RfL} (hC : CS g n A I D s rs ls) (hnA : n ≤ L0 (A + 1)) (hby : ∀ p : Int, 0 ≤ p → p < n → I (A + 1) p.toNat % 256 = g p) (hbR : rs.length < 100000) (hbL : ls.length < 100000) {F : Nat} (hF : K0 F = 3) (hFA : A + 22 ≤ F ∧ F + 1 < A + 146) {i0 : Nat} {f : FR} (hcf : CF g n I F rs ls f) (ho : OK1 g n i0 f)
    {l : List Int} (hW : WM I l) {Q : HI → HD → Prop} (hQ : ∀ I', Fr wmS I I' → WM I' (l ++ wrP g n s.1 f) → Q I' D) : CV 63 [vR (some 310), vR (some A), vR (some F)] e I D Q := by
  have bd := ho.bd.2.1
  obtain ⟨hn3, -⟩ := caps hA hnA
  have fb := ff_end (P := blP g) bd.2.1
  have tb := trR_bd (g := g) (f := ff (blP g) f.2.2.1 f.2.1) 4000 f.2.2.1 fb.2
  refine S63 he hA hF ?_
  rw [hcf.1.2.1, hcf.1.2.2.1]
  exact c63_11 he hA hC.2.1.1 hnA hby hF bd.2.2 4000 f.2.1 bd.1 (by omega) (c63_33 he hA hC.2.1.1 hnA hby hF (by omega) 4000 f.2.2.1 bd.2.2 (by omega) (S63_58 he hA hF (c65 he hA hC hnA hby hbR hbL hF hFA hcf ho (lv := false) (by omega) (by omega) hW hQ)))
theorem c64_60 (he : HS e) (hA : isA A) {I0 : HI} (hn : I0 A 2 = n) (hnA : n ≤ L0 (A + 1)) (hby : ∀ p : Int, 0 ≤ p → p < n → I0 (A + 1) p.toNat % 256 = g p) {F : Nat} (hF : K0 F = 3) (hFA : A + 22 ≤ F ∧ F + 1 < A + 146) {t : Int} (h10 : I0 F 10 = t) (ht : t ≤ n) {Q : HI → HD → Prop} (k : Nat) : ∀ (i : Int) (I : HI) (l : List Int), 0 ≤ i → (t - i).toNat ≤ k → Fr wmS I0 I → WM I l →
    (∀ I', Fr wmS I0 I' → WM I' (l ++ byL g t k i ++ txL 6) → Q I' D) → RV 64 60 [vR (some 310), vR (some A), vR (some F), vI i] [] e I D Q := by
  obtain ⟨hn3, -⟩ := caps hA hnA
  have hAb : A + 151 ≤ 310 := by rcases hA with rfl | rfl <;> omega
  induction k with
  | zero =>
    intro i I l h0 hk f hW hQ
    have g10 : I F 10 = t := by rw [f _ _ (fun q => by unfold wmS at q; omega)]; exact h10
    refine S64_60 he hA hF ?_
    rw [g10]
    exact ⟨fun _ => c67 he (by omega) hW fun I' f' M' => hQ I' (f.trans f') (by show WM I' (l ++ [] ++ txL 6); rw [List.append_nil]; exact M'), fun q => by omega⟩
  | succ k ih =>
    intro i I l h0 hk f hW hQ
    have g10 : I F 10 = t := by rw [f _ _ (fun q => by unfold wmS at q; omega)]; exact h10
    refine S64_60 he hA hF ?_
    rw [g10]
    refine ⟨fun q => ?_, fun q => c37 he hA (by rw [f _ _ (fun q => by unfold wmS at q; omega)]; exact hn) hnA ?_⟩
    · have : byL g t (k + 1) i = [] := by unfold byL; rw [if_pos q]
      rw [this] at hQ
      exact c67 he (by omega) hW fun I' f' M' => hQ I' (f.trans f') (by rw [List.append_nil]; exact M')
    · have e1 : byL g t (k + 1) i = [g i] ++ byL g t k (i + 1) := by conv => lhs; unfold byL; rw [if_neg q]
      have gr := hby i h0 (by omega)
      rw [if_pos (by omega), f _ _ (fun q => by unfold wmS at q; omega), gr]
      refine c66 he hW (by omega) (by omega) fun I' f' M' => ⟨⟨by omega, by omega⟩, ih (i + 1) I' _ (by omega) (by omega) (f.trans f') M' fun I'' f'' M'' => hQ I'' f'' ?_⟩
      rw [e1, ← List.append_assoc]; exact M''
theorem c64 (he : HS e) (hA : isA A) {I : HI} {s : SC} {rs ls : RfL} (hC : CS g n A I D s rs ls) (hnA : n ≤ L0 (A + 1)) (hby : ∀ p : Int, 0 ≤ p → p < n → I (A + 1) p.toNat % 256 = g p) (hbR : rs.length < 100000) (hbL : ls.length < 100000) {F : Nat} (hF : K0 F = 3) (hFA : A + 22 ≤ F ∧ F + 1 < A + 146) {i0 : Nat} {f : FR} (hcf : CF g n I F rs ls f) (ho : OK1 g n i0 f)
    {l : List Int} (hW : WM I l) {Q : HI → HD → Prop} (hQ : ∀ I', Fr wmS I I' → WM I' (l ++ wrS g n s.1 f) → Q I' D) : CV 64 [vR (some 310), vR (some A), vR (some F)] e I D Q := by
  have bd := ho.bd
  obtain ⟨hn3, -⟩ := caps hA hnA
  have hAb : A + 151 ≤ 310 := by rcases hA with rfl | rfl <;> omega
  have st : ∀ J : HI, Fr wmS I J → CS g n A J D s rs ls ∧ CF g n J F rs ls f ∧ ∀ p : Int, 0 ≤ p → p < n → J (A + 1) p.toNat % 256 = g p := fun J fJ =>
    ⟨hC.wm hA fJ, hcf.fr fJ (fun k _ q => by unfold wmS at q; omega) (fun k q => by unfold wmS at q; omega), fun p p0 p1 => by rw [fJ _ _ (fun q => by unfold wmS at q; omega)]; exact hby p p0 p1⟩
  refine S64 he hA hF (c67 he (by omega) hW fun I1 f1 M1 => ?_)
  have c1 := (st I1 f1).2.1
  rw [c1.1.2.2.2.2.2.2.1, c1.1.2.2.2.2.2.2.2]
  refine ⟨⟨by omega, by omega⟩, c68 he (by omega) (by omega) M1 fun I2 f2 M2 => c67 he (by omega) M2 fun I3 f3 M3 => ?_⟩
  have F3 := f1.trans (f2.trans f3)
  obtain ⟨C3, c3, b3⟩ := st I3 F3
  have d0 : I3 (F + 1) 0 = dFr g n f := by obtain ⟨-, r0, l0, a0, a1, -⟩ := c3; exact a0
  have d1 : I3 (F + 1) 1 = dTo g n f := by obtain ⟨-, r0, l0, a0, a1, -⟩ := c3; exact a1
  rw [d0, d1]
  refine c65 he hA C3 hnA b3 hbR hbL hF hFA c3 ho (lv := true) bd.2.2.2.1.1 bd.2.2.2.1.2.2 M3 fun I4 f4 M4 => c67 he (by omega) M4 fun I5 f5 M5 => ?_
  have F5 := F3.trans (f4.trans f5)
  obtain ⟨C5, c5, b5⟩ := st I5 F5
  rw [c5.1.2.2.2.2.2.2.1]
  refine c64_60 he hA C5.2.1.1 hnA b5 hF hFA c5.1.2.2.2.2.2.2.2 bd.2.2.1.2.2 4000 _ I5 _ bd.2.2.1.1 (by omega) Fr.refl M5 fun I6 f6 M6 => hQ I6 (F5.trans f6) ?_
  unfold wrS
  simp only [List.append_assoc] at M6 ⊢
  exact M6
theorem c62 (he : HS e) (hA : isA A) {I : HI} {s : SC} {rs ls : RfL} (hC : CS g n A I D s rs ls) (hnA : n ≤ L0 (A + 1)) (hby : ∀ p : Int, 0 ≤ p → p < n → I (A + 1) p.toNat % 256 = g p) (hbR : rs.length < 100000) (hbL : ls.length < 100000) {F : Nat} (hF : K0 F = 3) (hFA : A + 22 ≤ F ∧ F + 1 < A + 146) {i0 : Nat} {f : FR} (hcf : CF g n I F rs ls f) (ho : OK1 g n i0 f)
    {l : List Int} (hW : WM I l) {Q : HI → HD → Prop} (hQ : ∀ I', Fr wmS I I' → WM I' (l ++ wrO g n s.1 i0 f) → Q I' D) : CV 62 [vR (some 310), vR (some A), vR (some F), vI (i0 : Int)] e I D Q := by
  have bd := ho.bd
  have hAb : A + 151 ≤ 310 := by rcases hA with rfl | rfl <;> omega
  have st : ∀ J : HI, Fr wmS I J → CS g n A J D s rs ls ∧ CF g n J F rs ls f ∧ ∀ p : Int, 0 ≤ p → p < n → J (A + 1) p.toNat % 256 = g p := fun J fJ =>
    ⟨hC.wm hA fJ, hcf.fr fJ (fun k _ q => by unfold wmS at q; omega) (fun k q => by unfold wmS at q; omega), fun p p0 p1 => by rw [fJ _ _ (fun q => by unfold wmS at q; omega)]; exact hby p p0 p1⟩
  refine S62 he hA hF (c68 he (by omega) (by omega) hW fun I1 f1 M1 => c67 he (by omega) M1 fun I2 f2 M2 => ?_)
  have F2 := f1.trans f2
  obtain ⟨C2, c2, b2⟩ := st I2 F2
  rw [c2.1.2.2.2.2.1]
  refine ⟨fun q => c63 he hA C2 hnA b2 hbR hbL hF hFA c2 ho M2 fun I3 f3 M3 => S62_33 he (c67 he (by omega) M3 fun I4 f4 M4 => hQ I4 (F2.trans (f3.trans f4)) ?_), fun q => c64 he hA C2 hnA b2 hbR hbL hF hFA c2 ho M2 fun I3 f3 M3 => S62_33 he (c67 he (by omega) M3 fun I4 f4 M4 => hQ I4 (F2.trans (f3.trans f4)) ?_)⟩
  · have q' := b2i_0.mp q
    unfold wrO
    rw [if_neg (by rw [q']; decide)]
    simp only [List.append_assoc] at M4 ⊢
    exact M4
  · have q' := b2i_n q
    unfold wrO
    rw [if_pos q']
    simp only [List.append_assoc] at M4 ⊢
    exact M4
theorem c61_13 (he : HS e) (hA : isA A) {I0 : HI} {s : SC} {c : Int} {pg : List Int} (hR : RS g n A I0 D s c pg) (hok : OKS g n s.1) (hc : c ≤ 60) {Q : HI → HD → Prop} (k : Nat) : ∀ (i : Nat) (I : HI), i ≤ 60 → 60 - i = k → Fr wmS I0 I → WM I (wrN g n s.1 i) →
    (∀ I', Fr wmS I0 I' → WM I' (wrA g n s.1 c) → Q I' D) → RV 61 13 [vR (some 310), vR (some A), vI ((i + 1 : Nat) : Int), vJ] [] e I D Q := by
  obtain ⟨rs, ls, hC, h15, -, -, hnA, hby, hbR, hbL⟩ := hR
  have hAb : A + 151 ≤ 310 := by rcases hA with rfl | rfl <;> omega
  induction k with
  | zero =>
    intro i I hi hk f hW hQ
    have : i = 60 := by omega
    subst this
    have g15 : ∀ J, Fr wmS I0 J → J A 15 = c := fun J fJ => by rw [fJ _ _ (fun q => by unfold wmS at q; omega)]; exact h15
    refine S61_13 he hA ⟨fun _ => ?_, fun q => by omega⟩
    rw [g15 I f]
    refine ⟨fun q => hQ I f ?_, fun q => c67 he (by omega) hW fun I1 f1 M1 => ?_⟩
    · unfold wrA; rw [if_neg (by omega), List.append_nil]; exact hW
    · rw [g15 I1 (f.trans f1)]
      refine c68 he (by omega) (by omega) M1 fun I2 f2 M2 => c67 he (by omega) M2 fun I3 f3 M3 => hQ I3 (f.trans (f1.trans (f2.trans f3))) ?_
      unfold wrA; rw [if_pos (by omega)]
      simp only [List.append_assoc] at M3 ⊢
      exact M3
  | succ k ih =>
    intro i I hi hk f hW hQ
    have C := hC.wm hA f
    have by' : ∀ p : Int, 0 ≤ p → p < n → I (A + 1) p.toNat % 256 = g p := fun p p0 p1 => by rw [f _ _ (fun q => by unfold wmS at q; omega)]; exact hby p p0 p1
    have go : ∀ I', Fr wmS I0 I' → WM I' (wrN g n s.1 (i + 1)) → RV 61 36 [vR (some 310), vR (some A), vI ((i + 1 : Nat) : Int), vJ] [] e I' D Q := fun I' f' M' =>
      S61_36 he hA ⟨⟨by omega, by omega⟩, ih (i + 1) I' (by omega) (by omega) f' M' hQ⟩
    refine S61_13 he hA ⟨fun q => by omega, fun _ => c35' he hA C (fun q => ⟨fun _ => go I f ?_, fun u w => by cases w⟩) fun f' hf hx hk3 hcf => ⟨fun w => (by cases w), fun u w => ?_⟩⟩
    · have : s.1 (i + 1) = none := by rw [← obO_s (fo := s.1) (i := i + 1) (by omega)]; exact q
      show WM I (wrN g n s.1 i ++ _)
      rw [this, List.append_nil]; exact hW
    · cases w
      have hfi : s.1 (i + 1) = some f' := hx.2
      have pF := hC.2.2.1.1 (i + 1) (by omega)
      refine ⟨hk3, c62 he hA C hnA.2 by' hbR hbL hk3 ⟨pF.2.1, pF.2.2⟩ hcf (hok (i + 1) f' hfi) hW fun I' f'' M' => go I' (f.trans f'') ?_⟩
      show WM I' (wrN g n s.1 i ++ _)
      rw [hfi]; exact M'
theorem c61 (he : HS e) (hA : isA A) {I : HI} {s : SC} {c : Int} {pg : List Int} (hR : RS g n A I D s c pg) (hok : OKS g n s.1) (hc : c ≤ 60) {Q : HI → HD → Prop}
    (hQ : ∀ I', Fr wmS I I' → WM I' (wrA g n s.1 c) → Q I' D) : CV 61 [vR (some 310), vR (some A)] e I D Q := by
  have hAb : A + 151 ≤ 310 := by rcases hA with rfl | rfl <;> omega
  have fu : Fr wmS I (uI I 310 1 0) := Fr.u (Or.inl ⟨rfl, rfl⟩)
  have W0 : WM (uI I 310 1 0) [] := ⟨uI_eq, fun i x _ h => by cases h⟩
  refine S61 he hA (c67 he (by omega) W0 fun I1 f1 M1 => c61_13 he hA hR hok hc 60 0 I1 (by omega) rfl (fu.trans f1) M1 hQ)
end
