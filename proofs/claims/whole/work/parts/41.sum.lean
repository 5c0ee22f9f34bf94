-- PURE: the class's summaries
def mixX (a b : Int32) : Int32 :=
  let x1 := a ^^^ (b * (-1640531527))
  let x2 := x1 ^^^ (gush x1 16)
  let x3 := x2 * (-2048144789)
  let x4 := x3 ^^^ (gush x3 13)
  let x5 := x4 * (-1028477387)
  x5 ^^^ (gush x5 16)
def mixN (a b : Int32) : Nat := (mixX a b).toBitVec.toNat % 2147483648 + 1
theorem mixN_pos (a b : Int32) : 1 ≤ mixN a b ∧ mixN a b ≤ 2147483648 := by unfold mixN; omega
theorem mix_C (x : Int32) : ((x &&& 2147483647 : Int32).toInt64) + 1 = lN (x.toBitVec.toNat % 2147483648 + 1) := by
  rw [pk_and x 31 (by decide), nI_l (by omega), lN_1]
theorem mix_R (x : Int32) : (x.toInt64 &&& 2147483647) + 1 = lN (x.toBitVec.toNat % 2147483648 + 1) := by
  rw [← lN_1]
  congr 1
  refine Int64.toBitVec_inj.mp (BitVec.eq_of_toNat_eq ?_)
  have h1 : (x.toInt64 &&& 2147483647).toBitVec.toNat = x.toInt64.toBitVec.toNat &&& (2 ^ 31 - 1) := by
    rw [Int64.toBitVec_and, BitVec.toNat_and]; rfl
  rw [h1, Nat.and_two_pow_sub_one_eq_mod]
  have h2 : x.toInt64.toBitVec = x.toBitVec.signExtend 64 := rfl
  have h3 : (lN (x.toBitVec.toNat % 2147483648)).toBitVec.toNat = x.toBitVec.toNat % 2147483648 % 2 ^ 64 := rfl
  rw [h2, h3, BitVec.toNat_signExtend]
  have h4 := x.toBitVec.isLt
  split <;> simp [BitVec.toNat_setWidth] <;> omega
theorem s_mixOf {M : MEM} {p q : Int32} {Q : Int64 → Prop} (hQ : Q (lN (mixN p q))) : wp_X5_mixOf p q M Q := by
  unfold wp_X5_mixOf
  simp only [forall_eq]
  rw [mix_C]
  exact hQ
theorem q_mixOf {M : MEM} {p q : Int32} {Q : Int64 → Prop} (hQ : Q (lN (mixN p q))) : wp_X6_mixOf p q M Q := by
  unfold wp_X6_mixOf
  simp only [forall_eq]
  rw [mix_R]
  exact hQ
-- abstract changes
def beginA (k z : Nat) (s : Int32) (p : Nat) : SLT := (true, (k, z, s, p), fun _ => z, [])
def emptyA (a : SLT) : SLT := (false, a.2.1, a.2.2.1, [])
def pushA (a : SLT) (x : ITM) : SLT := (a.1, a.2.1, a.2.2.1, (if sP a ≠ 0 ∧ sP a ≤ sN a then (sL a).drop 1 else sL a) ++ [x])
def putQA (a : SLT) (t q : Nat) : SLT := (a.1, a.2.1, (fun u => if u = t then q else sQ a u), a.2.2.2)
def inH (h : Nat) : Nat → Prop := fun b => b = h ∨ b = h + 100 ∨ b = h + 200
section PSUM
variable {M : MEM} {h : Nat} {a : SLT}
theorem RepC.of {M' : MEM} (hr : RepC M h a) (e : ∀ b, inH h b → ∀ j, mI M' b j = mI M b j) : RepC M' h a := by
  have e0 := e h (Or.inl rfl)
  have e1 := e (h + 100) (Or.inr (Or.inl rfl))
  have e2 := e (h + 200) (Or.inr (Or.inr rfl))
  unfold RepC at hr ⊢
  simp only [e0, e1, e2]
  exact hr
theorem s_partAt (hr : RepC M h a) (h1 : 100 ≤ h) (h2 : h < 121) (hn : sN a ≤ 60) {i p : Nat} (hp : p < 5) (hi : i < 2147483648) {Q : Int32 → Prop} (hQ : Q (pt (it a i) p)) : wp_X4_partAt h (nI i) (nI p) M Q := by
  obtain ⟨-, h5, h7, -⟩ := hr
  unfold wp_X4_partAt
  by_cases c : i < sN a
  · have h9 := h7 i c p hp
    rw [Nat.mul_comm] at h9
    simp (disch := omega) only [kS, kSq, kSr, rSq, rSr, k1, k2, k3, k4, k5, k6, k7, k8, k9, k10, k11, k12, k13, k14, k15, k16, k17, k40, k41, k108, r1_0, r1_1, r1_5, r1_6, r1_7, r1_8, r1_9, r1_10, r1_11, r1_12, r1_13, r2, r3, r5, r4_0, r4_1, r4_2, r8, r10, r12, r40_1, h5, n0, n1, n2, n3, n4, n5, n9, n10, n60, n300, n310, nA, nM, nC, nLF, nLT, nEF, nET, nQF, nV, nS, true_and, and_true, true_implies, false_implies, not_true_eq_false, not_false_eq_true, forall_const, false_or, or_false, forall_eq, if_true, if_false, h9]
    exact hQ
  · rw [pt_no (by omega)] at hQ
    simp (disch := omega) only [kS, kSq, kSr, rSq, rSr, k1, k2, k3, k4, k5, k6, k7, k8, k9, k10, k11, k12, k13, k14, k15, k16, k17, k40, k41, k108, r1_0, r1_1, r1_5, r1_6, r1_7, r1_8, r1_9, r1_10, r1_11, r1_12, r1_13, r2, r3, r5, r4_0, r4_1, r4_2, r8, r10, r12, r40_1, h5, n0, n1, n2, n3, n4, n5, n9, n10, n60, n300, n310, nA, nM, nC, nLF, nLT, nEF, nET, nQF, nV, nS, true_and, and_true, true_implies, false_implies, not_true_eq_false, not_false_eq_true, forall_const, false_or, or_false, forall_eq, if_true, if_false]
    exact hQ
theorem s_partNeg (h1 : 100 ≤ h) (h2 : h < 121) {p : Int32} {Q : Int32 → Prop} (hQ : Q 0) : wp_X4_partAt h (-1) p M Q := by
  unfold wp_X4_partAt
  simp (disch := omega) only [kS, kSq, kSr, rSq, rSr, k1, k2, k3, k4, k5, k6, k7, k8, k9, k10, k11, k12, k13, k14, k15, k16, k17, k40, k41, k108, r1_0, r1_1, r1_5, r1_6, r1_7, r1_8, r1_9, r1_10, r1_11, r1_12, r1_13, r2, r3, r5, r4_0, r4_1, r4_2, r8, r10, r12, r40_1, true_and]
  exact ⟨fun _ => hQ, fun c => absurd (by decide) c⟩
theorem s_isFilled (hr : RepC M h a) (h1 : 100 ≤ h) (h2 : h < 121) {Q : Int32 → Prop} (hQ : Q (if sH a = true then 1 else 0)) : wp_X4_isFilled h M Q := by
  unfold wp_X4_isFilled
  have e := hr.1
  refine ⟨kS h1 h2, gB_01 (by rw [e]; split <;> simp), by rw [e]; exact hQ⟩
theorem s_count (hr : RepC M h a) (h1 : 100 ≤ h) (h2 : h < 121) {Q : Int32 → Prop} (hQ : Q (nI (sN a))) : wp_X4_count h M Q :=
  ⟨kS h1 h2, by rw [hr.2.1]; exact hQ⟩
theorem s_quotaOf (hr : RepC M h a) (h1 : 100 ≤ h) (h2 : h < 121) (ht : sH a = true) {t : Nat} (hl : t < 4) {Q : Int32 → Prop} (hQ : Q (nI (sQ a t))) : wp_X4_quotaOf h (nI t) M Q := by
  obtain ⟨-, -, -, -, h6⟩ := hr.2.2.2 ht
  unfold wp_X4_quotaOf
  simp (disch := omega) only [kS, kSq, kSr, rSq, rSr, k1, k2, k3, k4, k5, k6, k7, k8, k9, k10, k11, k12, k13, k14, k15, k16, k17, k40, k41, k108, r1_0, r1_1, r1_5, r1_6, r1_7, r1_8, r1_9, r1_10, r1_11, r1_12, r1_13, r2, r3, r5, r4_0, r4_1, r4_2, r8, r10, r12, r40_1, n0, n1, n2, n3, n4, n5, n9, n10, n60, n300, n310, nA, nM, nC, nLF, nLT, nEF, nET, nQF, nV, nS, true_and, and_true, true_implies, false_implies, not_true_eq_false, not_false_eq_true, forall_const, false_or, or_false, forall_eq, if_true, if_false, h6 t hl]
  exact hQ
theorem s_limitFor (hr : RepC M h a) (h1 : 100 ≤ h) (h2 : h < 121) (ht : sH a = true) (hn : sN a ≤ 60) (hk : sK a ≤ 3) {i : Nat} (hi : i < 2147483648) (hst : (it a i).2.2.1 < 4) {Q : Int32 → Prop} (hQ : Q (nI (if sK a = 2 then sQ a (it a i).2.2.1 else sZ a))) : wp_X4_limitFor h (nI i) M Q := by
  obtain ⟨e1, e2, e3, e4, e5⟩ := hr.2.2.2 ht
  unfold wp_X4_limitFor
  by_cases c : sK a = 2
  · rw [if_pos c] at hQ
    refine ⟨kS h1 h2, fun q => absurd (by rw [e1, c]; rfl) q, fun _ => ?_⟩
    exact s_partAt hr h1 h2 hn (p := 2) (by decide) hi (s_quotaOf hr h1 h2 ht hst hQ)
  · rw [if_neg c] at hQ
    refine ⟨kS h1 h2, fun _ => by rw [e2]; exact hQ, fun q => absurd q ?_⟩
    simp (disch := omega) only [e1, n0, n1, n2, n3, n4, n5, n9, n10, n60, n300, n310, nA, nM, nC, nLF, nLT, nEF, nET, nQF, nV, nS]
    exact not_false
theorem s_mixAt (hr : RepC M h a) (h1 : 100 ≤ h) (h2 : h < 121) (ht : sH a = true) (hn : sN a ≤ 60) (hk : sK a ≤ 3) {i : Nat} (hi : i < 2147483648) {Q : Int64 → Prop} (hQ : Q (lN (mixN (sS a) (pt (it a i) (if sK a = 3 then 1 else 0))))) : wp_X4_mixAt h (nI i) M Q := by
  obtain ⟨e1, e2, e3, e4, e5⟩ := hr.2.2.2 ht
  unfold wp_X4_mixAt
  rw [e1, e3]
  by_cases c : sK a = 3
  · rw [if_pos c] at hQ
    refine ⟨kS h1 h2, fun q => absurd (by rw [c]; rfl) q, fun _ => s_partAt hr h1 h2 hn (p := 1) (by decide) hi (s_mixOf hQ)⟩
  · rw [if_neg c] at hQ
    refine ⟨kS h1 h2, fun _ => s_partAt hr h1 h2 hn (p := 0) (by decide) hi (s_mixOf hQ), fun q => absurd q ?_⟩
    simp (disch := omega) only [n0, n1, n2, n3, n4, n5, n9, n10, n60, n300, n310, nA, nM, nC, nLF, nLT, nEF, nET, nQF, nV, nS]
    exact not_false
end PSUM
