-- PURE: the class's summaries, loops and writers
def CS (nx : Nat) (M : MEM) (h : Nat) (a : SLT) : Prop := RepC M h a ∧ WF nx a ∧ 100 ≤ h ∧ h < 121
section PS2
variable {M : MEM} {h nx : Nat} {a : SLT}
theorem CS.of {M' : MEM} (hc : CS nx M h a) (e : ∀ b, inH h b → ∀ j, mI M' b j = mI M b j) : CS nx M' h a := ⟨hc.1.of e, hc.2⟩
theorem CS.n (hc : CS nx M h a) : sN a ≤ 60 := hc.2.1.1
theorem CS.ok (hc : CS nx M h a) {i : Nat} (hi : i < sN a) : okI nx (it a i) := hc.2.1.2.2.2.1 i hi
theorem CS.key (hc : CS nx M h a) (i : Nat) : (it a i).2.1 ≤ 99 := by
  by_cases c : i < sN a
  · exact (hc.ok c).2.1
  · unfold it; rw [List.getD_eq_getElem?_getD, List.getElem?_eq_none (by exact Nat.not_lt.mp c)]; decide
theorem CS.str (hc : CS nx M h a) (i : Nat) : (it a i).2.2.1 < 4 := by
  by_cases c : i < sN a
  · exact (hc.ok c).2.2.1
  · unfold it; rw [List.getD_eq_getElem?_getD, List.getElem?_eq_none (by exact Nat.not_lt.mp c)]; decide
theorem CS.wgt (hc : CS nx M h a) (i : Nat) : (it a i).2.2.2.1 ≤ 99 := by
  by_cases c : i < sN a
  · exact (hc.ok c).2.2.2.2.1
  · unfold it; rw [List.getD_eq_getElem?_getD, List.getElem?_eq_none (by exact Nat.not_lt.mp c)]; decide
theorem c_part (hc : CS nx M h a) {i p : Nat} (hp : p < 5) (hi : i < 2147483648) {Q : Int32 → Prop} (hQ : Q (pt (it a i) p)) : wp_X4_partAt h (nI i) (nI p) M Q := s_partAt hc.1 hc.2.2.1 hc.2.2.2 hc.n hp hi hQ
theorem CS.kd (hc : CS nx M h a) : KD h = (14, 0) := kS hc.2.2.1 hc.2.2.2
theorem CS.cnt (hc : CS nx M h a) : mI M h 5 = nI (sN a) := hc.1.2.1
def firstK (a : SLT) (i : Nat) : Bool := (List.range i).all (fun j => (it a j).2.1 != (it a i).2.1)
theorem firstK_iff {i : Nat} : firstK a i = true ↔ ∀ j, j < i → (it a j).2.1 ≠ (it a i).2.1 := by
  unfold firstK; simp
theorem c_first (hc : CS nx M h a) {i : Nat} (hi : i < sN a) {Q : Int32 → Prop} (hQ : Q (if firstK a i = true then 1 else 0)) : wp_X4_isFirstOfKey h (nI i) M Q := by
  have hn := hc.n
  refine ⟨hc.kd, c_part hc (p := 1) (by decide) (by omega) ⟨i + 1, ?_⟩⟩
  have lp : ∀ f j, j ≤ i → i - j < f → (∀ j', j' < j → (it a j').2.1 ≠ (it a i).2.1) → wp_X4_isFirstOfKey_L9 h (nI i) M Q (pt (it a i) 1) f (nI j) := by
    intro f
    induction f with
    | zero => intro j _ h9; omega
    | succ f ih =>
      intro j hj hf hb
      unfold wp_X4_isFirstOfKey_L9
      by_cases c : j = i
      · subst c
        rw [if_pos (firstK_iff.mpr hb)] at hQ
        simp (disch := omega) only [n0, n1, n2, n3, n4, n5, n9, n10, n60, n300, n310, nA, nM, nC, nLF, nLT, nEF, nET, nQF, nV, nS, true_and, and_true, true_implies, false_implies, not_true_eq_false, not_false_eq_true, forall_const, false_or, or_false, forall_eq, if_true, if_false]
        exact hQ
      · simp (disch := omega) only [hc.cnt, n0, n1, n2, n3, n4, n5, n9, n10, n60, n300, n310, nA, nM, nC, nLF, nLT, nEF, nET, nQF, nV, nS, true_and, and_true, true_implies, false_implies, not_true_eq_false, not_false_eq_true, forall_const, false_or, or_false, forall_eq, if_true, if_false]
        refine c_part hc (p := 1) (by decide) (by omega) ⟨fun q => ?_, fun q => ?_⟩
        · refine ih (j + 1) (by omega) (by omega) (fun j' h' => ?_)
          by_cases e : j' = j
          · subst e; exact fun e => q (congrArg nI e)
          · exact hb j' (by omega)
        · rw [if_neg (fun w => firstK_iff.mp w j (by omega) ?_)] at hQ
          · exact hQ
          · exact (nI_eq (Nat.lt_of_le_of_lt (hc.key j) (by decide)) (Nat.lt_of_le_of_lt (hc.key i) (by decide))).mp q
  exact lp (i + 1) 0 (by omega) (by omega) (fun _ h => absurd h (by omega))
end PS2
