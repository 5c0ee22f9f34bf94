-- PURE: the class's allocation
def amt (a : SLT) (w : Bool) (t : Nat) : Nat → Nat
  | 0 => 0
  | m + 1 => amt a w t m + (if (it a m).2.2.1 = t then (if w = true then (it a m).2.2.2.1 else 1) else 0)
def setQ (a : SLT) (q : Nat → Nat) : SLT := (a.1, a.2.1, q, a.2.2.2)
def bst (r : Nat → Int32) : Nat :=
  let b1 := if r 0 < r 1 then 1 else 0
  let b2 := if r b1 < r 2 then 2 else b1
  if r b2 < r 3 then 3 else b2
theorem bst_lt (r : Nat → Int32) : bst r < 4 := by
  unfold bst
  simp only
  repeat' split
  all_goals decide
def alc : Nat → (Nat → Nat) → (Nat → Int32) → (Nat → Nat)
  | 0, q, _ => q
  | k + 1, q, r => alc k (fun u => if u = bst r then q u + 1 else q u) (fun u => if u = bst r then -1 else r u)
def all4 (a : SLT) (w : Bool) : Nat := amt a w 0 (sN a) + amt a w 1 (sN a) + amt a w 2 (sN a) + amt a w 3 (sN a)
def quo (a : SLT) (w : Bool) (T t : Nat) : Nat := T * amt a w t (sN a) / all4 a w
def rem4 (a : SLT) (w : Bool) (T t : Nat) : Nat := T * amt a w t (sN a) % all4 a w
def lft (a : SLT) (w : Bool) (T : Nat) : Nat := T - (quo a w T 0 + quo a w T 1 + quo a w T 2 + quo a w T 3)
def allocA (a : SLT) (w : Bool) (T : Nat) : SLT := setQ a (alc (lft a w T) (quo a w T) (fun t => nI (rem4 a w T t)))
section PA
variable {M : MEM} {h nx : Nat} {a : SLT}
theorem amt_le (hc : ∀ i, (it a i).2.2.2.1 ≤ 99) (w : Bool) (t m : Nat) : amt a w t m ≤ 99 * m := by
  induction m with
  | zero => exact Nat.zero_le _
  | succ m ih =>
    show amt a w t m + _ ≤ _
    have := hc m
    split
    · split <;> omega
    · omega
theorem amt_sum (w : Bool) (hs : ∀ i, (it a i).2.2.1 < 4) (m : Nat) : amt a w 0 (m + 1) + amt a w 1 (m + 1) + amt a w 2 (m + 1) + amt a w 3 (m + 1) = amt a w 0 m + amt a w 1 m + amt a w 2 m + amt a w 3 m + (if w = true then (it a m).2.2.2.1 else 1) := by
  have h := hs m
  simp only [amt]
  rcases (show (it a m).2.2.1 = 0 ∨ (it a m).2.2.1 = 1 ∨ (it a m).2.2.1 = 2 ∨ (it a m).2.2.1 = 3 by omega) with e | e | e | e <;> rw [e] <;> simp <;> omega
theorem c_amounts (hc : CS nx M h a) {p : Int32} {Q : Int32 → MEM → Prop}
    (hQ : ∀ M', (∀ t, t < 4 → mI M' 14 t = nI (amt a (decide (p ≠ 0)) t (sN a))) → FrI (fun b => b = 14) M M' → Q (nI (all4 a (decide (p ≠ 0)))) M') : wp_X5_findAmounts 1 h p M Q := by
  have hn := hc.n
  have h1 := hc.h1
  have h2 := hc.h2
  generalize hw : decide (p ≠ 0) = w at hQ
  have hb := amt_le (a := a) (fun i => hc.wgt i) w
  refine ⟨rfl, 5, ?_⟩
  have sum : Nat → Nat := fun t => 0
  let sm : Nat → Nat := fun t => match t with | 0 => 0 | 1 => amt a w 0 (sN a) | 2 => amt a w 0 (sN a) + amt a w 1 (sN a) | 3 => amt a w 0 (sN a) + amt a w 1 (sN a) + amt a w 2 (sN a) | _ => all4 a w
  have hsm : ∀ t, t < 4 → sm t + amt a w t (sN a) = sm (t + 1) := by
    intro t ht
    rcases (show t = 0 ∨ t = 1 ∨ t = 2 ∨ t = 3 by omega) with rfl | rfl | rfl | rfl
    · exact Nat.zero_add _
    · rfl
    · rfl
    · rfl
  have lp : ∀ f t M1, t ≤ 4 → 4 - t < f → FrI (fun b => b = 14) M M1 → (∀ u, u < t → mI M1 14 u = nI (amt a w u (sN a))) → wp_X5_findAmounts_L5 1 h p Q f (nI (sm t)) (nI t) M1 := by
    intro f
    induction f with
    | zero => intro t M1 _ h9; omega
    | succ f ih =>
      intro t M1 ht hf hF hA
      unfold wp_X5_findAmounts_L5
      by_cases c : t = 4
      · subst c
        simp (disch := omega) only [n4, nEF, nET, true_and, and_true, true_implies, false_implies, not_true_eq_false, not_false_eq_true, forall_const, false_or, or_false, if_true, if_false]
        exact hQ M1 hA hF
      · simp (disch := omega) only [r1_12, k14, n4, nEF, nET, nV, nC, true_and, and_true, true_implies, false_implies, not_true_eq_false, not_false_eq_true, forall_const, false_or, or_false, if_true, if_false]
        intro M6 e6
        refine ⟨sN a + 1, ?_⟩
        have lp2 : ∀ g i M2, i ≤ sN a → sN a - i < g → FrI (fun b => b = 14) M M2 → (∀ u, u < t → mI M2 14 u = nI (amt a w u (sN a))) → mI M2 14 t = nI (amt a w t i) → wp_X5_findAmounts_L22 1 h p (wp_X5_findAmounts_L5 1 h p Q f) (nI (sm t)) (nI t) g (nI i) M2 := by
          intro g
          induction g with
          | zero => intro i M2 _ h9; omega
          | succ g ih2 =>
            intro i M2 hi hg hF2 hA2 ht2
            have hc2 : CS nx M2 h a := hc.of (fun b hb j => hF2.1 b (by unfold inH at hb; omega) j)
            have bi := hb t i
            have bw := hc.wgt i
            unfold wp_X5_findAmounts_L22
            refine ⟨hc.kd, s_count hc2.1 h1 h2 ?_⟩
            by_cases d : i = sN a
            · subst d
              simp (disch := omega) only [r1_12, nEF, nET, nV, nC, ht2, nA, n1, true_and, and_true, true_implies, false_implies, not_true_eq_false, not_false_eq_true, forall_const, false_or, or_false, forall_eq, if_true, if_false]
              rw [hsm t (by omega)]
              refine ih (t + 1) M2 (by omega) (by omega) hF2 (fun u hu => ?_)
              by_cases e : u = t
              · subst e; exact ht2
              · exact hA2 u (by omega)
            · simp (disch := omega) only [r1_12, nEF, nET, nV, nC, ht2, nA, n1, true_and, and_true, true_implies, false_implies, not_true_eq_false, not_false_eq_true, forall_const, false_or, or_false, if_true, if_false]
              have hst := hc.str i
              refine c_part hc2 (p := 2) (by decide) (by omega) ⟨fun q x5 e5 => ?_, fun q => ⟨fun q2 M20 e20 x5 e5 => ?_, fun q2 => c_part hc2 (p := 3) (by decide) (by omega) (fun M25 e25 x5 e5 => ?_)⟩⟩
              · subst e5
                refine ih2 (i + 1) M2 (by omega) (by omega) hF2 hA2 ?_
                rw [ht2]
                show _ = nI (amt a w t i + _)
                rw [if_neg (fun w => q (congrArg nI w))]; rfl
              · subst e5
                have hq : (it a i).2.2.1 = t := (nI_eq (by omega) (by omega)).mp q
                have hw0 : w = false := by rw [← hw, q2]; rfl
                refine ih2 (i + 1) M20 (by omega) (by omega) (by rw [e20]; exact hF2.uIs rfl) (fun u hu => by rw [e20, rd_ne (by omega)]; exact hA2 u hu) ?_
                rw [e20, rd_eq]
                show _ = nI (amt a w t i + _)
                rw [if_pos hq, if_neg (by rw [hw0]; decide)]
              · subst e5
                have hq : (it a i).2.2.1 = t := (nI_eq (by omega) (by omega)).mp q
                have hw1 : w = true := by rw [← hw]; exact decide_eq_true q2
                refine ih2 (i + 1) M25 (by omega) (by omega) (by rw [e25]; exact hF2.uIs rfl) (fun u hu => by rw [e25, rd_ne (by omega)]; exact hA2 u hu) ?_
                rw [e25, rd_eq]
                show _ + nI (it a i).2.2.2.1 = nI (amt a w t i + _)
                rw [if_pos hq, if_pos hw1, nA]
        refine lp2 _ 0 M6 (Nat.zero_le _) (by omega) (by rw [e6]; exact hF.uIs rfl) (fun u hu => by rw [e6, rd_ne (by omega)]; exact hA u hu) (by rw [e6, rd_eq]; rfl)
  exact lp 5 0 M (by omega) (by omega) (FrI.refl M) (fun u hu => absurd hu (Nat.not_lt_zero _))
theorem nle32 {x y : Int32} : ¬ x ≤ y ↔ y < x := by
  rw [Int32.le_iff_toInt_le, Int32.lt_iff_toInt_lt]; omega
theorem c_takeR {r : Nat → Int32} (hr : ∀ t, t < 4 → mI M 15 t = r t) {Q : Int32 → MEM → Prop}
    (hQ : Q (nI (bst r)) (uI M 15 (bst r) (-1))) : wp_X5_takeGreatestRemainder 1 M Q := by
  refine ⟨rfl, 4, ?_⟩
  have fin : ∀ b, b < 4 → b = bst r → wp_X5_takeGreatestRemainder_L4 1 M Q 1 (nI b) (nI 4) := by
    intro b hb e
    unfold wp_X5_takeGreatestRemainder_L4
    simp (disch := omega) only [r1_13, k15, n4, nEF, nET, nV, nC, true_and, and_true, true_implies, false_implies, not_true_eq_false, not_false_eq_true, forall_const, false_or, or_false, forall_eq, if_true, if_false]
    rw [e]; exact hQ
  have st : ∀ b t f, b < 4 → t < 4 → wp_X5_takeGreatestRemainder_L4 1 M Q f (nI (if r b < r t then t else b)) (nI (t + 1)) → wp_X5_takeGreatestRemainder_L4 1 M Q (f + 1) (nI b) (nI t) := by
    intro b t f hb ht h
    unfold wp_X5_takeGreatestRemainder_L4
    simp (disch := omega) only [r1_13, k15, n4, nEF, nET, nV, nC, n1, nA, true_and, and_true, true_implies, false_implies, not_true_eq_false, not_false_eq_true, forall_const, false_or, or_false, forall_eq, if_true, if_false, hr t ht, hr b hb]
    refine ⟨fun q => ?_, fun q => ?_⟩
    · rw [if_neg (fun w => nle32.mpr w q)] at h; exact h
    · rw [if_pos (nle32.mp q)] at h; exact h
  refine st 0 1 _ (by decide) (by decide) (st _ 2 _ (by split <;> decide) (by decide) (st _ 3 _ (by repeat' split
                                                                                                    all_goals decide) (by decide) (fin _ ?_ ?_)))
  · have := bst_lt r
    unfold bst at this
    exact this
  · rfl
end PA
