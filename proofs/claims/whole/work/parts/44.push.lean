-- PURE: an item more; two lists joined
section PS4
variable {M : MEM} {h nx : Nat} {a : SLT}
theorem pushA_n (x : ITM) : sN (pushA a x) = if sP a ≠ 0 ∧ sP a ≤ sN a then sN a - 1 + 1 else sN a + 1 := by
  unfold pushA sN
  split <;> simp
theorem s_removeFirst (hr : RepC M h a) (h1 : 100 ≤ h) (h2 : h < 121) (hn : 1 ≤ sN a) (hn2 : sN a ≤ 60) {Q : MEM → Prop} (hQ : ∀ M', RepC M' h (a.1, a.2.1, a.2.2.1, (sL a).drop 1) → FrI (inH h) M M' → Q M') : wp_X4_removeFirst h M Q := by
  obtain ⟨e0, e5, ei, es⟩ := hr
  unfold wp_X4_removeFirst
  rw [e5]
  obtain ⟨m, hm⟩ : ∃ m, sN a = m + 1 := ⟨sN a - 1, by omega⟩
  rw [hm]
  simp (disch := omega) only [kS, kSq, kSr, rSq, rSr, k1, k2, k3, k4, k5, k6, k7, k8, k9, k10, k11, k12, k13, k14, k15, k16, k17, k40, k41, k108, r1_0, r1_1, r1_5, r1_6, r1_7, r1_8, r1_9, r1_10, r1_11, r1_12, r1_13, r2, r3, r5, r4_0, r4_1, r4_2, r8, r10, r12, r40_1, n0, n1, n5, n60, nM, nC, nLF, nLT, nEF, nET, nm1, true_and, and_true, true_implies, false_implies, not_true_eq_false, not_false_eq_true, forall_const, false_or, or_false, if_true, if_false]
  refine ⟨by omega, by omega, fun M7 e7 M8 e8 => ?_⟩
  subst e7
  rw [rc_ne (by omega), e5, hm, nm1] at e8
  refine hQ _ ⟨?_, ?_, fun i hi p hp => ?_, fun ht => ?_⟩ (by rw [e8]; exact (FrI.uC (Or.inr (Or.inr rfl))).uIs (Or.inl rfl))
  · rw [e8, rd_ne (by omega), rc_ne (by omega)]; exact e0
  · rw [e8, rd_eq]; congr 1; show m = ((sL a).drop 1).length; rw [List.length_drop]; show m = sN a - 1; omega
  · have hi' : i + 1 < sN a := by
      have : i < ((sL a).drop 1).length := hi
      rw [List.length_drop] at this
      show i + 1 < (sL a).length
      omega
    rw [e8, rd_ne (by omega), rc_in (by omega) (by omega), it_drop]
    have := ei (i + 1) hi' p hp
    rw [← show 5 * (i + 1) + p = 5 + (5 * i + p - 0) by omega]
    exact this
  · obtain ⟨f1, f2, f3, f4, f5⟩ := es ht
    refine ⟨?_, ?_, ?_, ?_, fun t ht => ?_⟩
    · rw [e8, rd_ne (by omega), rc_ne (by omega)]; exact f1
    · rw [e8, rd_ne (by omega), rc_ne (by omega)]; exact f2
    · rw [e8, rd_ne (by omega), rc_ne (by omega)]; exact f3
    · rw [e8, rd_ne (by omega), rc_ne (by omega)]; exact f4
    · rw [e8, rd_ne (by omega), rc_ne (by omega)]; exact f5 t ht
theorem s_append (hr : RepC M h a) (h1 : 100 ≤ h) (h2 : h < 121) (hn2 : sN a < 60) (x : ITM) {Q : MEM → Prop} (hQ : ∀ M', RepC M' h (a.1, a.2.1, a.2.2.1, sL a ++ [x]) → FrI (inH h) M M' → Q M') : wp_X4_push_J22 h (pt x 0) (pt x 1) (pt x 2) (pt x 3) (pt x 4) Q M := by
  obtain ⟨e0, e5, ei, es⟩ := hr
  unfold wp_X4_push_J22
  rw [e5]
  refine ⟨fun c => absurd c (nI_pos (by omega)), fun _ => ⟨fun _ => ?_, fun c => absurd (nI_lt hn2 (by decide)) c⟩⟩
  intro x6 e6
  rw [n5, nM] at e6
  subst e6
  simp (disch := omega) only [kS, kSq, kSr, rSq, rSr, k1, k2, k3, k4, k5, k6, k7, k8, k9, k10, k11, k12, k13, k14, k15, k16, k17, k40, k41, k108, r1_0, r1_1, r1_5, r1_6, r1_7, r1_8, r1_9, r1_10, r1_11, r1_12, r1_13, r2, r3, r5, r4_0, r4_1, r4_2, r8, r10, r12, r40_1, n0, n1, n2, n3, n4, nA, nC, nV, true_and, and_true, true_implies, false_implies, not_true_eq_false, not_false_eq_true, forall_const, false_or, or_false, if_true, if_false]
  intro M5 E5 M7 E7 M9 E9 M11 E11 M13 E13 M14 E14
  have hF : FrI (inH h) M M13 := by
    rw [E13, E11, E9, E7, E5]
    exact ((((FrI.uI (Or.inr (Or.inr rfl))).uIs (Or.inr (Or.inr rfl))).uIs (Or.inr (Or.inr rfl))).uIs (Or.inr (Or.inr rfl))).uIs (Or.inr (Or.inr rfl))
  have hO : ∀ b, b ≠ h + 200 → ∀ j, mI M13 b j = mI M b j := fun b hb j => by
    rw [E13, rd_ne (by omega), E11, rd_ne (by omega), E9, rd_ne (by omega), E7, rd_ne (by omega), E5, rd_ne (by omega)]
  rw [hO h (by omega), e5, nA] at E14
  refine hQ _ ⟨?_, ?_, fun i hi p hp => ?_, fun ht => ?_⟩ (by rw [E14]; exact hF.uIs (Or.inl rfl))
  · rw [E14, rd_ne (by omega), hO h (by omega)]; exact e0
  · rw [E14, rd_eq]; congr 1; show sN a + 1 = (sL a ++ [x]).length; rw [List.length_append]; rfl
  · have hi' : i < sN a + 1 := by
      have : i < (sL a ++ [x]).length := hi
      rw [List.length_append] at this
      exact this
    rw [E14, rd_ne (by omega), it_app]
    by_cases c : i < sN a
    · rw [if_pos c, E13, rd_ne (by omega), E11, rd_ne (by omega), E9, rd_ne (by omega), E7, rd_ne (by omega), E5, rd_ne (by omega)]
      exact ei i c p hp
    · have c2 : i = sN a := by omega
      rw [if_neg c, if_pos c2, c2]
      rcases (show p = 0 ∨ p = 1 ∨ p = 2 ∨ p = 3 ∨ p = 4 by omega) with rfl | rfl | rfl | rfl | rfl
      · rw [E13, rd_ne (by omega), E11, rd_ne (by omega), E9, rd_ne (by omega), E7, rd_ne (by omega), E5, Nat.mul_comm 5, rd_eq]
      · rw [E13, rd_ne (by omega), E11, rd_ne (by omega), E9, rd_ne (by omega), E7, Nat.mul_comm 5, rd_eq]
      · rw [E13, rd_ne (by omega), E11, rd_ne (by omega), E9, Nat.mul_comm 5, rd_eq]
      · rw [E13, rd_ne (by omega), E11, Nat.mul_comm 5, rd_eq]
      · rw [E13, Nat.mul_comm 5, rd_eq]
  · obtain ⟨f1, f2, f3, f4, f5⟩ := es ht
    refine ⟨?_, ?_, ?_, ?_, fun t ht => ?_⟩
    · rw [E14, rd_ne (by omega), hO h (by omega)]; exact f1
    · rw [E14, rd_ne (by omega), hO h (by omega)]; exact f2
    · rw [E14, rd_ne (by omega), hO h (by omega)]; exact f3
    · rw [E14, rd_ne (by omega), hO h (by omega)]; exact f4
    · rw [E14, rd_ne (by omega), hO (h + 100) (by omega)]; exact f5 t ht
theorem s_push (hr : RepC M h a) (ht : sH a = true) (h1 : 100 ≤ h) (h2 : h < 121) (hn : sN a ≤ 60) (hp : sP a ≤ 40) (hsp : sP a ≠ 0 → sN a ≤ sP a) (h0 : sP a = 0 → sN a < 60) (x : ITM) {Q : MEM → Prop} (hQ : ∀ M', RepC M' h (pushA a x) → FrI (inH h) M M' → Q M') : wp_X4_push h (pt x 0) (pt x 1) (pt x 2) (pt x 3) (pt x 4) M Q := by
  obtain ⟨f1, f2, f3, f4, f5⟩ := hr.2.2.2 ht
  have e5 := hr.2.1
  refine ⟨kS h1 h2, ?_⟩
  rw [f4, e5]
  by_cases c : sP a = 0
  · refine ⟨fun _ => s_append hr h1 h2 (h0 c) x (fun M' h' hF => hQ M' ?_ hF), fun q => absurd (by rw [c]; rfl) q⟩
    unfold pushA
    rw [if_neg (fun w => w.1 c)]
    exact h'
  · refine ⟨fun q => absurd ((nI_eq (b := 0) (by omega) (by omega)).mp q) c, fun _ => ⟨fun q => ?_, fun q => ?_⟩⟩
    · have q' := (nI_ltI (by omega) (by omega)).mp q
      refine s_append hr h1 h2 (by omega) x (fun M' h' hF => hQ M' ?_ hF)
      unfold pushA
      rw [if_neg (fun w => by omega)]
      exact h'
    · have q' : sP a ≤ sN a := Nat.not_lt.mp (fun w => q ((nI_ltI (by omega) (by omega)).mpr w))
      have hs := hsp c
      refine s_removeFirst hr h1 h2 (by omega) hn (fun M2 r2 F2 => ?_)
      have hl : ((sL a).drop 1).length < 60 := by
        rw [List.length_drop]
        have : (sL a).length = sN a := rfl
        omega
      refine s_append r2 h1 h2 hl x (fun M' h' hF => hQ M' ?_ (F2.trans hF))
      unfold pushA
      rw [if_pos ⟨c, q'⟩]
      exact h'
end PS4
