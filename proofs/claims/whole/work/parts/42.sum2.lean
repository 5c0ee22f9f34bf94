-- PURE: the class's summaries, loops and writers
def CS (nx : Nat) (M : MEM) (h : Nat) (a : SLT) : Prop := RepC M h a ∧ WF nx a ∧ 100 ≤ h ∧ h < 121 ∧ nx ≤ 1100000
section PS2
variable {M : MEM} {h nx : Nat} {a : SLT}
theorem CS.of {M' : MEM} (hc : CS nx M h a) (e : ∀ b, inH h b → ∀ j, mI M' b j = mI M b j) : CS nx M' h a := ⟨hc.1.of e, hc.2⟩
theorem CS.n (hc : CS nx M h a) : sN a ≤ 60 := hc.2.1.1
theorem CS.ok (hc : CS nx M h a) {i : Nat} (hi : i < sN a) : okI nx (it a i) := hc.2.1.2.2.2.1 i hi
theorem CS.key (hc : CS nx M h a) (i : Nat) : (it a i).2.1 ≤ 99 := by
  by_cases c : i < sN a
  · exact (hc.ok c).2.1
  · unfold it; rw [List.getD_eq_getElem?_getD, List.getElem?_eq_none (by exact Nat.not_lt.mp c)]; decide
theorem CS.str (hc : CS nx M h a) (i : Nat) : (it a i).2.2.1 < 4 := by
  by_cases c : i < sN a
  · exact (hc.ok c).2.2.1
  · unfold it; rw [List.getD_eq_getElem?_getD, List.getElem?_eq_none (by exact Nat.not_lt.mp c)]; decide
theorem CS.wgt (hc : CS nx M h a) (i : Nat) : (it a i).2.2.2.1 ≤ 99 := by
  by_cases c : i < sN a
  · exact (hc.ok c).2.2.2.2.1
  · unfold it; rw [List.getD_eq_getElem?_getD, List.getElem?_eq_none (by exact Nat.not_lt.mp c)]; decide
theorem c_part (hc : CS nx M h a) {i p : Nat} (hp : p < 5) (hi : i < 2147483648) {Q : Int32 → Prop} (hQ : Q (pt (it a i) p)) : wp_X4_partAt h (nI i) (nI p) M Q := s_partAt hc.1 hc.2.2.1 hc.2.2.2.1 hc.n hp hi hQ
theorem CS.kd (hc : CS nx M h a) : KD h = (14, 0) := kS hc.2.2.1 hc.2.2.2.1
theorem CS.cnt (hc : CS nx M h a) : mI M h 5 = nI (sN a) := hc.1.2.1
def firstK (a : SLT) (i : Nat) : Bool := (List.range i).all (fun j => (it a j).2.1 != (it a i).2.1)
theorem firstK_iff {i : Nat} : firstK a i = true ↔ ∀ j, j < i → (it a j).2.1 ≠ (it a i).2.1 := by
  unfold firstK; simp
theorem c_first (hc : CS nx M h a) {i : Nat} (hi : i < sN a) {Q : Int32 → Prop} (hQ : Q (if firstK a i = true then 1 else 0)) : wp_X4_isFirstOfKey h (nI i) M Q := by
  have hn := hc.n
  refine ⟨hc.kd, c_part hc (p := 1) (by decide) (by omega) ⟨i + 1, ?_⟩⟩
  have lp : ∀ f j, j ≤ i → i - j < f → (∀ j', j' < j → (it a j').2.1 ≠ (it a i).2.1) → wp_X4_isFirstOfKey_L9 h (nI i) M Q (pt (it a i) 1) f (nI j) := by
    intro f
    induction f with
    | zero => intro j _ h9; omega
    | succ f ih =>
      intro j hj hf hb
      unfold wp_X4_isFirstOfKey_L9
      by_cases c : j = i
      · subst c
        rw [if_pos (firstK_iff.mpr hb)] at hQ
        simp (disch := omega) only [n0, n1, n2, n3, n4, n5, n9, n10, n60, n300, n310, nA, nM, nC, nLF, nLT, nEF, nET, nQF, nV, nS, true_and, and_true, true_implies, false_implies, not_true_eq_false, not_false_eq_true, forall_const, false_or, or_false, forall_eq, if_true, if_false]
        exact hQ
      · simp (disch := omega) only [hc.cnt, n0, n1, n2, n3, n4, n5, n9, n10, n60, n300, n310, nA, nM, nC, nLF, nLT, nEF, nET, nQF, nV, nS, true_and, and_true, true_implies, false_implies, not_true_eq_false, not_false_eq_true, forall_const, false_or, or_false, forall_eq, if_true, if_false]
        refine c_part hc (p := 1) (by decide) (by omega) ⟨fun q => ?_, fun q => ?_⟩
        · refine ih (j + 1) (by omega) (by omega) (fun j' h' => ?_)
          by_cases e : j' = j
          · subst e; exact fun e => q (congrArg nI e)
          · exact hb j' (by omega)
        · rw [if_neg (fun w => firstK_iff.mp w j (by omega) ?_)] at hQ
          · exact hQ
          · exact (nI_eq (Nat.lt_of_le_of_lt (hc.key j) (by decide)) (Nat.lt_of_le_of_lt (hc.key i) (by decide))).mp q
  exact lp (i + 1) 0 (by omega) (by omega) (fun _ h => absurd h (by omega))
def cntF (P : Nat → Bool) (m : Nat) : Nat := ((List.range m).filter P).length
theorem cntF_0 (P : Nat → Bool) : cntF P 0 = 0 := rfl
theorem cntF_s (P : Nat → Bool) (m : Nat) : cntF P (m + 1) = cntF P m + (if P m = true then 1 else 0) := by
  unfold cntF
  rw [List.range_succ, List.filter_append, List.length_append]
  by_cases c : P m = true <;> simp [c]
theorem cntF_le (P : Nat → Bool) (m : Nat) : cntF P m ≤ m := by
  unfold cntF
  exact Nat.le_trans (List.length_filter_le ..) (by simp)
theorem CS.num (hc : CS nx M h a) (i : Nat) : (it a i).1 < 1100000 := by
  by_cases c : i < sN a
  · exact Nat.lt_of_lt_of_le (hc.ok c).1 hc.2.2.2.2
  · unfold it; rw [List.getD_eq_getElem?_getD, List.getElem?_eq_none (by exact Nat.not_lt.mp c)]; decide
theorem CS.h1 (hc : CS nx M h a) : 100 ≤ h := hc.2.2.1
theorem CS.h2 (hc : CS nx M h a) : h < 121 := hc.2.2.2.1
theorem c_diff (hc : CS nx M h a) {Q : Int32 → Prop} (hQ : Q (nI (cntF (firstK a) (sN a)))) : wp_X4_differentKeys h M Q := by
  have hn := hc.n
  refine ⟨hc.kd, sN a + 1, ?_⟩
  have lp : ∀ f i, i ≤ sN a → sN a - i < f → wp_X4_differentKeys_L4 h M Q f (nI (cntF (firstK a) i)) (nI i) := by
    intro f
    induction f with
    | zero => intro j _ h9; omega
    | succ f ih =>
      intro i hi hf
      unfold wp_X4_differentKeys_L4
      by_cases c : i = sN a
      · subst c
        simp (disch := omega) only [hc.cnt, n0, n1, n2, n3, n4, n5, n9, n10, n60, n300, n310, nA, nM, nC, nLF, nLT, nEF, nET, nQF, nV, nS, true_and, and_true, true_implies, false_implies, not_true_eq_false, not_false_eq_true, forall_const, false_or, or_false, forall_eq, if_true, if_false]
        exact hQ
      · simp (disch := omega) only [hc.cnt, n0, n1, n2, n3, n4, n5, n9, n10, n60, n300, n310, nA, nM, nC, nLF, nLT, nEF, nET, nQF, nV, nS, true_and, and_true, true_implies, false_implies, not_true_eq_false, not_false_eq_true, forall_const, false_or, or_false, forall_eq, if_true, if_false]
        refine c_first hc (by omega) ?_
        have h9 := ih (i + 1) (by omega) (by omega)
        rw [cntF_s] at h9
        by_cases q : firstK a i = true
        · rw [if_pos q] at h9 ⊢
          exact ⟨fun e => absurd e (by decide), fun _ => h9⟩
        · rw [if_neg q] at h9 ⊢
          exact ⟨fun _ => h9, fun e => absurd rfl e⟩
  exact lp (sN a + 1) 0 (by omega) (by omega)
theorem c_cntStr (hc : CS nx M h a) {t : Nat} (ht : t < 4) {Q : Int32 → Prop} (hQ : Q (nI (cntF (fun i => (it a i).2.2.1 == t) (sN a)))) : wp_X4_countOfStratum h (nI t) M Q := by
  have hn := hc.n
  refine ⟨hc.kd, sN a + 1, ?_⟩
  have lp : ∀ f i, i ≤ sN a → sN a - i < f → wp_X4_countOfStratum_L4 h (nI t) M Q f (nI (cntF (fun i => (it a i).2.2.1 == t) i)) (nI i) := by
    intro f
    induction f with
    | zero => intro j _ h9; omega
    | succ f ih =>
      intro i hi hf
      unfold wp_X4_countOfStratum_L4
      by_cases c : i = sN a
      · subst c
        simp (disch := omega) only [hc.cnt, n0, n1, n2, n3, n4, n5, n9, n10, n60, n300, n310, nA, nM, nC, nLF, nLT, nEF, nET, nQF, nV, nS, true_and, and_true, true_implies, false_implies, not_true_eq_false, not_false_eq_true, forall_const, false_or, or_false, forall_eq, if_true, if_false]
        exact hQ
      · simp (disch := omega) only [hc.cnt, n0, n1, n2, n3, n4, n5, n9, n10, n60, n300, n310, nA, nM, nC, nLF, nLT, nEF, nET, nQF, nV, nS, true_and, and_true, true_implies, false_implies, not_true_eq_false, not_false_eq_true, forall_const, false_or, or_false, forall_eq, if_true, if_false]
        have hs := hc.str i
        refine c_part hc (p := 2) (by decide) (by omega) ?_
        have h9 := ih (i + 1) (by omega) (by omega)
        rw [cntF_s] at h9
        by_cases q : (it a i).2.2.1 = t
        · rw [if_pos (by simp [q])] at h9
          exact ⟨fun e => absurd (congrArg nI q) e, fun _ => h9⟩
        · rw [if_neg (by simp [q])] at h9
          exact ⟨fun _ => h9, fun e => absurd ((nI_eq (by omega) (by omega)).mp e) q⟩
  exact lp (sN a + 1) 0 (by omega) (by omega)
def hasN (a : SLT) (v : Nat) : Bool := (List.range (sN a)).any (fun i => (it a i).1 == v)
theorem hasN_iff {v : Nat} : hasN a v = true ↔ ∃ i, i < sN a ∧ (it a i).1 = v := by
  unfold hasN; simp
theorem c_hasNum (hc : CS nx M h a) {v : Nat} (hv : v < 2147483648) {Q : Int32 → Prop} (hQ : Q (if hasN a v = true then 1 else 0)) : wp_X4_hasNumber h (nI v) M Q := by
  have hn := hc.n
  refine ⟨hc.kd, sN a + 1, ?_⟩
  have lp : ∀ f i, i ≤ sN a → sN a - i < f → (∀ j, j < i → (it a j).1 ≠ v) → wp_X4_hasNumber_L2 h (nI v) M Q f (nI i) := by
    intro f
    induction f with
    | zero => intro j _ h9; omega
    | succ f ih =>
      intro i hi hf hb
      unfold wp_X4_hasNumber_L2
      by_cases c : i = sN a
      · subst c
        rw [if_neg (fun w => by obtain ⟨j, h1, h2⟩ := hasN_iff.mp w; exact hb j h1 h2)] at hQ
        simp (disch := omega) only [hc.cnt, n0, n1, n2, n3, n4, n5, n9, n10, n60, n300, n310, nA, nM, nC, nLF, nLT, nEF, nET, nQF, nV, nS, true_and, and_true, true_implies, false_implies, not_true_eq_false, not_false_eq_true, forall_const, false_or, or_false, forall_eq, if_true, if_false]
        exact hQ
      · simp (disch := omega) only [hc.cnt, n0, n1, n2, n3, n4, n5, n9, n10, n60, n300, n310, nA, nM, nC, nLF, nLT, nEF, nET, nQF, nV, nS, true_and, and_true, true_implies, false_implies, not_true_eq_false, not_false_eq_true, forall_const, false_or, or_false, forall_eq, if_true, if_false]
        have hs := hc.num i
        refine c_part hc (p := 0) (by decide) (by omega) ⟨fun q => ih (i + 1) (by omega) (by omega) (fun j hj => ?_), fun q => ?_⟩
        · by_cases e : j = i
          · subst e; exact fun e => q (congrArg nI e)
          · exact hb j (by omega)
        · have q' := (nI_eq (by omega) (by omega)).mp q
          rw [if_pos (hasN_iff.mpr ⟨i, by omega, q'⟩)] at hQ
          exact hQ
  exact lp (sN a + 1) 0 (by omega) (by omega) (fun _ h => absurd h (by omega))
theorem c_missing {g : Nat} {b : SLT} (hc : CS nx M h a) (hg : CS nx M g b) {Q : Int32 → Prop} (hQ : Q (nI (cntF (fun i => !hasN a (it b i).1) (sN b)))) : wp_X4_missingOf h g M Q := by
  have hn := hg.n
  refine ⟨hc.kd, sN b + 1, ?_⟩
  have lp : ∀ f i, i ≤ sN b → sN b - i < f → wp_X4_missingOf_L4 h g M Q f (nI (cntF (fun i => !hasN a (it b i).1) i)) (nI i) := by
    intro f
    induction f with
    | zero => intro j _ h9; omega
    | succ f ih =>
      intro i hi hf
      unfold wp_X4_missingOf_L4
      refine ⟨hg.kd, ?_⟩
      by_cases c : i = sN b
      · subst c
        simp (disch := omega) only [hg.cnt, n0, n1, n2, n3, n4, n5, n9, n10, n60, n300, n310, nA, nM, nC, nLF, nLT, nEF, nET, nQF, nV, nS, true_and, and_true, true_implies, false_implies, not_true_eq_false, not_false_eq_true, forall_const, false_or, or_false, forall_eq, if_true, if_false]
        exact hQ
      · simp (disch := omega) only [hg.cnt, n0, n1, n2, n3, n4, n5, n9, n10, n60, n300, n310, nA, nM, nC, nLF, nLT, nEF, nET, nQF, nV, nS, true_and, and_true, true_implies, false_implies, not_true_eq_false, not_false_eq_true, forall_const, false_or, or_false, forall_eq, if_true, if_false]
        have hs := hg.num i
        refine c_part hg (p := 0) (by decide) (by omega) (c_hasNum hc (by omega) ?_)
        have h9 := ih (i + 1) (by omega) (by omega)
        rw [cntF_s] at h9
        by_cases q : hasN a (it b i).1 = true
        · rw [if_pos q]
          rw [if_neg (by simp [q])] at h9
          exact ⟨fun _ => h9, fun e => absurd e (by decide)⟩
        · rw [if_neg q]
          rw [if_pos (by simp [q])] at h9
          exact ⟨fun e => absurd rfl e, fun _ => h9⟩
  exact lp (sN b + 1) 0 (by omega) (by omega)
end PS2
