/-! putObject, the whole written anew by the model -/
section
variable {e : En} {g : Int → Int} {n : Int} {D : HD}
theorem m133 (he : HS e) {I : HI} {s : SC} (hM : MoB g n ((0 : Nat) : Int) I) (hS : MM 0 I s) {i0 : Nat} {f : FR} (ho : OK1 g n i0 f) (hR : MR I (dRs g n f)) (hL : ML I (dLn g n f)) {lv : Bool} {i t : Int} (h0 : 0 ≤ i) (ht : t ≤ n) {l : List Int} (hW : OW I l) {Q : HI → HD → Prop} (hQ : ∀ I', Fr ouS I I' → OW I' (l ++ cpN g s.1 (dRs g n f) (dLn g n f) lv t 4000 i) → Q I' D) :
    CV 133 [vR (some 312), vI i, vI t, vI (b2i lv)] e I D Q := by
  have bd := ho.bd.2.2.2.2
  have so := dR_srt (g := g) (n := n) bd.1 bd.2.1 bd.2.2
  have dk := dR_ok (g := g) (n := n) bd.1 bd.2.1 bd.2.2 (r0 := 0) (l0 := 0) (by omega) (by omega)
  obtain ⟨m4, hd, m14, h0n, h3n⟩ := hM.sd
  have l1 : ((dRs g n f).length : Int) = ((0 + (dR g n (skp g n f.2.1)).2.2.2.length : Nat) : Int) := by rw [Nat.zero_add]; rfl
  have l2 : ((dLn g n f).length : Int) = ((0 + (lnL g n (dR g n (skp g n f.2.1)).2.2.1).length : Nat) : Int) := by rw [Nat.zero_add]; rfl
  exact S133 he (m133_3 he hM hS hR hL so.1 so.2.2.1 so.2.1 so.2.2.2 (by omega) (by omega) ht 4000 i I l h0 (by omega) Fr.refl hW hQ)
theorem m134_48 (he : HS e) {I : HI} (hM : MoB g n ((0 : Nat) : Int) I) {t : Int} (ht : t ≤ n) {Q : HI → HD → Prop} (k : Nat) : ∀ i : Int, 0 ≤ i → (t - i).toNat ≤ k → RV 134 69 [vR (some 312), vJ, vI (ff (blP g) t i), vI t] [] e I D Q → RV 134 48 [vR (some 312), vJ, vI i, vI t] [] e I D Q := by
  obtain ⟨m4, hd, m14, h0n, h3n⟩ := hM.sd
  induction k with
  | zero =>
    intro i h0 hk hQ
    rw [ff_ge (by omega)] at hQ
    exact S134_48 he ⟨fun _ => hQ, fun q => by omega⟩
  | succ k ih =>
    intro i h0 hk hQ
    refine S134_48 he ⟨fun q => by rw [ff_ge q] at hQ; exact hQ, fun q => m88 he hM h0 (by omega) ⟨fun w => ?_, fun w => ⟨⟨by omega, by omega⟩, ih (i + 1) (by omega) (by omega) ?_⟩⟩⟩
    · rw [ff_hit (by unfold blP; simpa using w)] at hQ; exact hQ
    · rw [ff_go (by omega) (by unfold blP; simpa using w)] at hQ; exact hQ
theorem m134_69 (he : HS e) {I : HI} (hM : MoB g n ((0 : Nat) : Int) I) {i : Int} (h0 : 0 ≤ i) {Q : HI → HD → Prop} (k : Nat) : ∀ t : Int, t ≤ n → (t - i).toNat ≤ k → RV 134 92 [vR (some 312), vJ, vI i, vI (trR g i k t)] [] e I D Q → RV 134 69 [vR (some 312), vJ, vI i, vI t] [] e I D Q := by
  obtain ⟨m4, hd, m14, h0n, h3n⟩ := hM.sd
  induction k with
  | zero =>
    intro t ht hk hQ
    exact S134_69 he ⟨fun _ => hQ, fun q => by omega⟩
  | succ k ih =>
    intro t ht hk hQ
    refine S134_69 he ⟨fun q => ?_, fun q => ⟨⟨by omega, by omega⟩, m88 he hM (by omega) (by omega) ⟨fun w => ?_, fun w => ⟨⟨by omega, by omega⟩, ih (t + -1) (by omega) (by omega) ?_⟩⟩⟩⟩
    · have : trR g i (k + 1) t = t := by unfold trR; rw [if_pos q]
      rw [this] at hQ; exact hQ
    · have : trR g i (k + 1) t = t := by unfold trR; rw [if_neg q, if_pos w]
      rw [this] at hQ; exact hQ
    · have : trR g i (k + 1) t = trR g i k (t + -1) := by conv => lhs; unfold trR; rw [if_neg q, if_neg w]
                                                          rfl
      rw [this] at hQ; exact hQ
theorem m134_172 (he : HS e) {I0 : HI} (hM : MoB g n ((0 : Nat) : Int) I0) {i0 : Nat} (hi : i0 < 61) {t : Int} (ht : t ≤ n) (h22 : I0 322 i0 = t) {Q : HI → HD → Prop} (k : Nat) : ∀ (i : Int) (I : HI) (l : List Int), 0 ≤ i → (t - i).toNat ≤ k → Fr ouS I0 I → OW I l →
    (∀ I', Fr ouS I0 I' → OW I' (l ++ byL g t k i ++ txL 6) → RV 134 217 [vR (some 312), vJ, vJ, vJ] [] e I' D Q) → RV 134 172 [vR (some 312), vI (i0 : Int), vI i, vJ] [] e I D Q := by
  have fin : ∀ (i : Int) (I : HI) (l : List Int), Fr ouS I0 I → OW I l → (∀ I', Fr ouS I0 I' → OW I' (l ++ txL 6) → RV 134 217 [vR (some 312), vJ, vJ, vJ] [] e I' D Q) → CV 130 [vR (some 312), vI 10] e I D (fun I3 D4 => CV 131 [vR (some 312), vL 500152168037] e I3 D4 (fun I6 D7 => CV 131 [vR (some 312), vL 1835099506] e I6 D7 (fun I9 D10 => RV 134 217 [vR (some 312), vJ, vJ, vJ] [] e I9 D10 Q))) := by
    intro i I l f hW hQ
    refine m130 he hW fun I1 f1 M1 => m131 he [101, 110, 100, 115, 116] (by decide) (by decide) (by decide) M1 fun I2 f2 M2 => m131 he [114, 101, 97, 109] (by decide) (by decide) (by decide) M2 fun I3 f3 M3 => hQ I3 (f.trans (f1.trans (f2.trans f3))) ?_
    have e6 : txL 6 = [10] ++ ([101, 110, 100, 115, 116] : List Nat).map (fun (c : Nat) => (c : Int)) ++ ([114, 101, 97, 109] : List Nat).map fun (c : Nat) => (c : Int) := by decide
    rw [e6, ← List.append_assoc, ← List.append_assoc]; exact M3
  induction k with
  | zero =>
    intro i I l h0 hk f hW hQ
    have g22 : I 322 i0 = t := by rw [f _ _ (fun q => by unfold ouS at q; omega)]; exact h22
    refine S134_172 he ?_
    rw [Int.toNat_natCast, g22]
    exact ⟨⟨by omega, by omega⟩, fun _ => fin i I l f hW fun I' f' M' => hQ I' f' (by show OW I' (l ++ [] ++ txL 6); rw [List.append_nil]; exact M'), fun q => by omega⟩
  | succ k ih =>
    intro i I l h0 hk f hW hQ
    have g22 : I 322 i0 = t := by rw [f _ _ (fun q => by unfold ouS at q; omega)]; exact h22
    refine S134_172 he ?_
    rw [Int.toNat_natCast, g22]
    refine ⟨⟨by omega, by omega⟩, fun q => ?_, fun q => m88 he (hM.ou f) h0 (by omega) ?_⟩
    · have : byL g t (k + 1) i = [] := by unfold byL; rw [if_pos q]
      rw [this] at hQ
      exact fin i I l f hW fun I' f' M' => hQ I' f' (by rw [List.append_nil]; exact M')
    · have e1 : byL g t (k + 1) i = [g i] ++ byL g t k (i + 1) := by conv => lhs; unfold byL; rw [if_neg q]
      obtain ⟨-, -, -, -, h3n⟩ := hM.sd
      refine m130 he hW fun I' f' M' => ⟨⟨by omega, by omega⟩, ih (i + 1) I' _ (by omega) (by omega) (f.trans f') M' fun I'' f'' M'' => hQ I'' f'' ?_⟩
      rw [e1, ← List.append_assoc]; exact M''
theorem oudi (a k : Nat) (h : ouS a k) : ¬ diS a k ∧ ¬ (316 ≤ a ∧ a ≤ 339) := by unfold ouS at h; unfold diS; omega
def owS (a k : Nat) : Prop := ouS a k ∨ diS a k
theorem m134 (he : HS e) {I : HI} {s : SC} (hM : MoB g n ((0 : Nat) : Int) I) (hS : MM 0 I s) {i : Nat} {f : FR} (hfi : s.1 i = some f) (ho : OK1 g n i f) {l : List Int} (hW : OW I l) {Q : HI → HD → Prop} (hQ : ∀ I', Fr owS I I' → OW I' (l ++ wrO g n s.1 i f) → Q I' D) : CV 134 [vR (some 312), vI (i : Int)] e I D Q := by
  have bd := ho.bd
  obtain ⟨m4, hd, m14, h0n, h3n⟩ := hM.sd
  have e1 : txL 1 = ([32, 48, 32, 111, 98, 106] : List Nat).map (fun (c : Nat) => (c : Int)) ++ [10] := by decide
  have e7 : txL 7 = [10] ++ ([101, 110, 100, 111, 98, 106] : List Nat).map (fun (c : Nat) => (c : Int)) ++ [10] := by decide
  refine S134 he (m132 he (by omega) (by omega) hW fun I1 f1 M1 => m131 he [32, 48, 32, 111, 98, 106] (by decide) (by decide) (by decide) M1 fun I2 f2 M2 => m130 he M2 fun I3 f3 M3 => ?_)
  have F3 : Fr ouS I I3 := f1.trans (f2.trans f3)
  have hM3 := hM.ou F3
  have S3 := hS.ou F3
  refine m104 he hM3 S3 hfi ho wok_0 rfl fun I4 f4 D4 k36 k37 => ?_
  have hM4 := hM3.di f4
  have S4 := S3.di f4
  have W4 : OW I4 (l ++ dgL (i : Int) ++ txL 1) := by
    refine ⟨?_, fun j x hj hx => ?_⟩
    · rw [f4 _ _ (fun q => by unfold diS at q; omega), M3.1, e1]; simp only [List.append_assoc]
    · rw [f4 _ _ (fun q => by unfold diS at q; omega)]
      rw [e1] at hx
      exact M3.2 j x hj (by simp only [List.append_assoc] at hx ⊢; exact hx)
  have F4 : Fr owS I I4 := (F3.mono fun a k q => Or.inl q).trans (f4.mono fun a k q => Or.inr q)
  have mo := S4.1 i bd.1.1 (by omega)
  rw [hfi, Nat.mul_zero, Nat.zero_add] at mo
  obtain ⟨-, -, z18, z19, -, z21, z22⟩ := mo
  rw [Int.toNat_natCast, z18, z19, z21]
  -- the end of it
  have s217 : ∀ (J : HI) (b : List Int), Fr ouS I4 J → OW J (l ++ dgL (i : Int) ++ txL 1 ++ b) → b = (if f.2.2.2.2.1 = true then wrS g n s.1 f else wrP g n s.1 f) → RV 134 217 [vR (some 312), vJ, vJ, vJ] [] e J D Q := by
    intro J b fJ MJ hb
    refine S134_217 he (m130 he MJ fun I5 f5 M5 => m131 he [101, 110, 100, 111, 98, 106] (by decide) (by decide) (by decide) M5 fun I6 f6 M6 => m130 he M6 fun I7 f7 M7 => hQ I7 (F4.trans ((fJ.trans (f5.trans (f6.trans f7))).mono fun a k q => Or.inl q)) ?_)
    unfold wrO
    rw [← hb, e7]
    simp only [List.append_assoc] at M7 ⊢
    exact M7
  cases hs : f.2.2.2.2.1 with
  | true =>
    have dt : dtF f = f.2.2.2.2.2.2.1 := if_pos hs
    have de : deF f = f.2.2.2.2.2.2.2 := if_pos hs
    have k9c : kF' g n (skp g n f.2.1) = 9 ∧ (dR g n (skp g n f.2.1)).2.1 = true := by
      obtain ⟨h, h0, h1, hsk, hk, hm, rfl, hc⟩ := ho
      have sf := obS_facts (show obS g n h = true from hs)
      exact ⟨sf.2.2.2, sf.1⟩
    have i36 := k36 k9c.1
    rw [if_pos k9c.2] at k37
    have eFr : dFr g n f = eF g n (skp g n f.2.1) := if_pos k9c.1
    have eTo : dTo g n f = (dR g n (skp g n f.2.1)).1 := if_pos k9c.1
    have e2 : txL 2 = ([60, 60, 32, 47, 76, 101] : List Nat).map (fun (c : Nat) => (c : Int)) ++ ([110, 103, 116, 104, 32] : List Nat).map (fun (c : Nat) => (c : Int)) := by decide
    have e3 : txL 3 = [32] := by decide
    have e5 : txL 5 = ([32, 115, 116, 114, 101, 97, 109] : List Nat).map (fun (c : Nat) => (c : Int)) ++ [10] := by decide
    rw [dt]
    refine ⟨⟨by omega, by omega⟩, fun _ => m131 he [60, 60, 32, 47, 76, 101] (by decide) (by decide) (by decide) W4 fun I5 f5 M5 => m131 he [110, 103, 116, 104, 32] (by decide) (by decide) (by decide) M5 fun I6 f6 M6 => ?_, fun q => by omega⟩
    have g6 : ∀ a, 316 ≤ a → a ≤ 339 → ∀ J, Fr ouS I4 J → J a i = I4 a i := fun a q1 q2 J fJ => fJ _ _ (fun q => by unfold ouS at q; omega)
    have F6 := f5.trans f6
    rw [g6 322 (by omega) (by omega) I6 F6, g6 321 (by omega) (by omega) I6 F6, z21, z22, dt, de]
    refine ⟨⟨by omega, by omega⟩, ⟨by omega, by omega⟩, ⟨by omega, by omega⟩, m132 he (by omega) (by omega) M6 fun I7 f7 M7 => m130 he M7 fun I8 f8 M8 => ?_⟩
    have F8 : Fr ouS I4 I8 := F6.trans (f7.trans f8)
    have j36 : I8 312 36 = dFr g n f := by rw [F8 _ _ (fun q => by unfold ouS at q; omega), eFr]; exact i36
    have j37 : I8 312 37 = dTo g n f := by rw [F8 _ _ (fun q => by unfold ouS at q; omega), eTo]; exact k37
    rw [j36, j37]
    have R8 : MR I8 (dRs g n f) := D4.1.fr F8 (fun q => by unfold ouS at q; omega) (fun k => ⟨fun q => by unfold ouS at q; omega, fun q => by unfold ouS at q; omega, fun q => by unfold ouS at q; omega⟩)
    have L8 : ML I8 (dLn g n f) := ML.fr D4.2.1 F8 (fun q => by unfold ouS at q; omega) (fun k => ⟨fun q => by unfold ouS at q; omega, fun q => by unfold ouS at q; omega⟩)
    refine m133 he (hM4.ou F8) (S4.ou F8) ho R8 L8 (lv := true) bd.2.2.2.1.1 bd.2.2.2.1.2.2 M8 fun I9 f9 M9 => m131 he [32, 115, 116, 114, 101, 97, 109] (by decide) (by decide) (by decide) M9 fun I10 f10 M10 => m130 he M10 fun I11 f11 M11 => ?_
    have F11 : Fr ouS I4 I11 := F8.trans (f9.trans (f10.trans f11))
    rw [g6 321 (by omega) (by omega) I11 F11, z21, dt]
    refine ⟨⟨by omega, by omega⟩, m134_172 he (hM4.ou F11) (by omega) bd.2.2.1.2.2 (by rw [g6 322 (by omega) (by omega) I11 F11, z22, de]) 4000 _ I11 _ bd.2.2.1.1 (by omega) Fr.refl M11 fun I12 f12 M12 => s217 I12 (wrS g n s.1 f) (F11.trans f12) ?_ (by rw [hs]; rfl)⟩
    unfold wrS
    rw [e2, e3, e5]
    simp only [List.append_assoc] at M12 ⊢
    exact M12
  | false =>
    have dt : dtF f = -1 := if_neg (by rw [hs]; decide)
    have fb := ff_end (P := blP g) bd.2.1.2.1
    have tb := trR_bd (g := g) (f := ff (blP g) f.2.2.1 f.2.1) 4000 f.2.2.1 fb.2
    rw [dt]
    refine ⟨⟨by omega, by omega⟩, fun q => by omega, fun _ => ⟨⟨by omega, by omega⟩, ⟨by omega, by omega⟩, ?_⟩⟩
    refine m134_48 he hM4 bd.2.1.2.2 4000 f.2.1 bd.2.1.1 (by omega) (m134_69 he hM4 (by omega) 4000 f.2.2.1 bd.2.1.2.2 (by omega) (S134_92 he (m133 he hM4 S4 ho D4.1 D4.2.1 (lv := false) (by omega) (by omega) W4 fun I5 f5 M5 => s217 I5 (wrP g n s.1 f) f5 M5 (by rw [hs]; rfl))))
end
