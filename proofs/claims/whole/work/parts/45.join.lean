-- PURE: two lists joined
def mrg : List ITM → List ITM → List ITM
  | [], t => t
  | x :: g, [] => x :: g
  | x :: g, y :: t => if x.1 < y.1 then x :: mrg g (y :: t) else if x.1 = y.1 then mrg g (y :: t) else y :: mrg (x :: g) t
termination_by g t => g.length + t.length
theorem mrg_nil (g : List ITM) : mrg g [] = g := by cases g <;> simp [mrg]
theorem mrg_lt {x y : ITM} {g t : List ITM} (h : x.1 < y.1) : mrg (x :: g) (y :: t) = x :: mrg g (y :: t) := by rw [mrg, if_pos h]
theorem mrg_eq {x y : ITM} {g t : List ITM} (h : x.1 = y.1) : mrg (x :: g) (y :: t) = mrg g (y :: t) := by rw [mrg, if_neg (by omega), if_pos h]
theorem mrg_gt {x y : ITM} {g t : List ITM} (h : y.1 < x.1) : mrg (x :: g) (y :: t) = y :: mrg (x :: g) t := by rw [mrg, if_neg (by omega), if_neg (by omega)]
theorem drop_it {a : SLT} {i : Nat} (h : i < sN a) : (sL a).drop i = it a i :: (sL a).drop (i + 1) := by
  rw [List.drop_eq_getElem_cons h]
  congr 1
  unfold it
  rw [List.getD_eq_getElem?_getD, List.getElem?_eq_getElem h]; rfl
theorem drop_all {a : SLT} {i : Nat} (h : sN a ≤ i) : (sL a).drop i = [] := List.drop_eq_nil_of_le h
def joinA (g t : SLT) : SLT := (mrg (sL g) (sL t)).foldl pushA (t.1, t.2.1, t.2.2.1, [])
/-- a draft that items may still be pushed to -/
def okD (D : SLT) (more : Nat) : Prop := sH D = true ∧ sN D ≤ 60 ∧ sP D ≤ 40 ∧ (sP D ≠ 0 → sN D ≤ sP D) ∧ (sP D = 0 → sN D + more ≤ 60)
theorem okD.push {D : SLT} {m : Nat} (h : okD D (m + 1)) (x : ITM) : okD (pushA D x) m := by
  obtain ⟨h1, h2, h3, h4, h5⟩ := h
  have hn := pushA_n (a := D) x
  have hp : sP (pushA D x) = sP D := rfl
  refine ⟨h1, ?_, h3, ?_, ?_⟩
  · rw [hn]; split
    · omega
    · by_cases c : sP D = 0
      · have := h5 c; omega
      · have := h4 c; omega
  · intro q
    rw [hp] at q ⊢
    have := h4 q
    rw [hn]; split <;> omega
  · intro q
    rw [hp] at q
    have := h5 q
    rw [hn, if_neg (fun w => w.1 q)]; omega
section PS5
variable {M : MEM} {nx : Nat} {a b : SLT} {o g t : Nat}
theorem c_pushFrom {D : SLT} {m : Nat} (hD : RepC M o D) (ho1 : 100 ≤ o) (ho2 : o < 121) (hok : okD D (m + 1)) (hg : CS nx M g a) {i : Nat} (hi : i < 2147483648) {Q : MEM → Prop} (hQ : ∀ M', RepC M' o (pushA D (it a i)) → FrI (inH o) M M' → Q M') : wp_X4_pushFrom o g (nI i) M Q := by
  obtain ⟨h1, h2, h3, h4, h5⟩ := hok
  refine ⟨kS ho1 ho2, hg.kd, c_part hg (p := 0) (by decide) hi (c_part hg (p := 1) (by decide) hi (c_part hg (p := 2) (by decide) hi (c_part hg (p := 3) (by decide) hi (c_part hg (p := 4) (by decide) hi ?_))))⟩
  exact s_push hD h1 ho1 ho2 h2 h3 h4 (fun q => by have := h5 q; omega) _ hQ
theorem not_inH {o g : Nat} (h1 : 100 ≤ o) (h2 : o < 121) (g1 : 100 ≤ g) (g2 : g < 121) (hne : g ≠ o) : ∀ b, inH g b → ¬ inH o b := by
  intro b hb hc
  unfold inH at hb hc
  omega
theorem CS.fr {M' : MEM} (hc : CS nx M g a) (h1 : 100 ≤ o) (h2 : o < 121) (hne : g ≠ o) (hF : FrI (inH o) M M') : CS nx M' g a := hc.of (fun b hb j => hF.1 b (not_inH h1 h2 hc.h1 hc.h2 hne b hb) j)
theorem c_join88 (hg1 : g ≠ o) (ho1 : 100 ≤ o) (ho2 : o < 121) {F : SLT} {Q : MEM → Prop} {M0 : MEM} (hQ : ∀ M', RepC M' o F → FrI (inH o) M0 M' → Q M') : ∀ f i M1 D, i ≤ sN a → sN a - i < f → CS nx M1 g a → RepC M1 o D → FrI (inH o) M0 M1 → okD D (sN a - i) → ((sL a).drop i).foldl pushA D = F → wp_X4_join_L88 o g Q f (nI i) M1 := by
  intro f
  induction f with
  | zero => intro i M1 D _ h9; omega
  | succ f ih =>
    intro i M1 D hi hf hg hD hF hok hE
    have hn := hg.n
    unfold wp_X4_join_L88
    refine ⟨hg.kd, ?_⟩
    by_cases c : i = sN a
    · subst c
      rw [drop_all (Nat.le_refl _)] at hE
      simp (disch := omega) only [hg.cnt, n0, n1, n2, n3, n4, n5, n9, n10, n60, n300, n310, nA, nM, nC, nLF, nLT, nEF, nET, nQF, nV, nS, true_and, and_true, true_implies, false_implies, not_true_eq_false, not_false_eq_true, forall_const, false_or, or_false, forall_eq, if_true, if_false]
      subst hE
      exact hQ M1 hD hF
    · simp (disch := omega) only [hg.cnt, n0, n1, n2, n3, n4, n5, n9, n10, n60, n300, n310, nA, nM, nC, nLF, nLT, nEF, nET, nQF, nV, nS, true_and, and_true, true_implies, false_implies, not_true_eq_false, not_false_eq_true, forall_const, false_or, or_false, forall_eq, if_true, if_false]
      rw [show sN a - i = (sN a - (i + 1)) + 1 by omega] at hok
      refine c_pushFrom hD ho1 ho2 hok hg (by omega) (fun M2 hD2 hF2 => ?_)
      rw [drop_it (by omega)] at hE
      exact ih (i + 1) M2 _ (by omega) (by omega) (hg.fr ho1 ho2 hg1 hF2) hD2 (hF.trans hF2) (hok.push _) hE
theorem mrg_len_le (x y : List ITM) : (mrg x y).length ≤ x.length + y.length := by
  fun_induction mrg x y <;> simp_all <;> omega
theorem c_join33 (hg1 : g ≠ o) (ht1 : t ≠ o) (ho1 : 100 ≤ o) (ho2 : o < 121) {F : SLT} {K : Int32 → Int32 → MEM → Prop} {M0 : MEM} {j : Nat} (hj : j < sN b)
    (hK : ∀ i D M', i ≤ sN a → CS nx M' g a → CS nx M' t b → RepC M' o D → FrI (inH o) M0 M' → okD D (mrg ((sL a).drop i) ((sL b).drop (j + 1))).length → (mrg ((sL a).drop i) ((sL b).drop (j + 1))).foldl pushA D = F → K (nI i) (nI (j + 1)) M') :
    ∀ f i M1 D, i ≤ sN a → sN a - i < f → CS nx M1 g a → CS nx M1 t b → RepC M1 o D → FrI (inH o) M0 M1 → okD D (mrg ((sL a).drop i) ((sL b).drop j)).length → (mrg ((sL a).drop i) ((sL b).drop j)).foldl pushA D = F → wp_X4_join_L33 o g t K (nI j) (nI (it b j).1) f (nI i) M1 := by
  intro f
  induction f with
  | zero => intro i M1 D _ h9; omega
  | succ f ih =>
    intro i M1 D hi hf hg ht hD hF hok hE
    have hn := hg.n
    have hn2 := ht.n
    have hb := ht.num j
    unfold wp_X4_join_L33
    refine ⟨hg.kd, ?_⟩
    rw [drop_it hj] at hok hE
    have fin : ∀ i, i ≤ sN a → okD D (it b j :: mrg ((sL a).drop i) ((sL b).drop (j + 1))).length → (it b j :: mrg ((sL a).drop i) ((sL b).drop (j + 1))).foldl pushA D = F → wp_X4_pushFrom o t (nI j) M1 (fun M_20 => ∀ x4_21 : Int32, x4_21 = nI j + 1 → (K (nI i) x4_21 M_20)) := by
      intro i hi hok hE
      refine c_pushFrom hD ho1 ho2 hok ht (by omega) (fun M2 hD2 hF2 x4 e4 => ?_)
      rw [e4, n1, nA]
      exact hK i _ M2 hi (hg.fr ho1 ho2 hg1 hF2) (ht.fr ho1 ho2 ht1 hF2) hD2 (hF.trans hF2) (hok.push _) hE
    by_cases c : i = sN a
    · subst c
      simp (disch := omega) only [hg.cnt, nEF, nET, true_and, and_true, true_implies, false_implies, not_true_eq_false, not_false_eq_true, forall_const, false_or, or_false, if_true, if_false]
      rw [drop_all (Nat.le_refl _), mrg] at hok hE
      exact fin _ (Nat.le_refl _) (by rw [drop_all (Nat.le_refl _), mrg]; exact hok) (by rw [drop_all (Nat.le_refl _), mrg]; exact hE)
    · simp (disch := omega) only [hg.cnt, nEF, nET, true_and, and_true, true_implies, false_implies, not_true_eq_false, not_false_eq_true, forall_const, false_or, or_false, if_true, if_false]
      have ha := hg.num i
      refine c_part hg (p := 0) (by decide) (by omega) ?_
      have hd := drop_it (a := a) (i := i) (by omega)
      refine ⟨fun q => ?_, fun q => c_part hg (p := 0) (by decide) (by omega) ⟨fun q2 => ?_, fun q2 => ?_⟩⟩
      · have q' : (it b j).1 < (it a i).1 := (nI_ltI (by omega) (by omega)).mp q
        rw [hd, mrg_gt q', ← hd] at hok hE
        exact fin i hi hok hE
      · have q' : ¬ (it b j).1 < (it a i).1 := fun w => q ((nI_ltI (by omega) (by omega)).mpr w)
        have q2' : (it b j).1 ≤ (it a i).1 := (nI_leI (by omega) (by omega)).mp q2
        rw [hd, mrg_eq (by omega), ← drop_it hj] at hok hE
        intro x3 e3
        rw [e3, n1, nA]
        exact ih (i + 1) M1 D (by omega) (by omega) hg ht hD hF hok hE
      · have q2' : ¬ (it b j).1 ≤ (it a i).1 := fun w => q2 ((nI_leI (by omega) (by omega)).mpr w)
        rw [hd, mrg_lt (by omega), ← drop_it hj] at hok hE
        refine c_pushFrom hD ho1 ho2 hok hg (by omega) (fun M2 hD2 hF2 x3 e3 => ?_)
        rw [e3, n1, nA]
        exact ih (i + 1) M2 _ (by omega) (by omega) (hg.fr ho1 ho2 hg1 hF2) (ht.fr ho1 ho2 ht1 hF2) hD2 (hF.trans hF2) (hok.push _) hE
theorem c_join (hg1 : g ≠ o) (ht1 : t ≠ o) (ho1 : 100 ≤ o) (ho2 : o < 121) (hg : CS nx M g a) (ht : CS nx M t b) (hb : sH b = true) (h60 : sP b = 0 → (mrg (sL a) (sL b)).length ≤ 60) {Q : MEM → Prop} (hQ : ∀ M', RepC M' o (joinA a b) → FrI (inH o) M M' → Q M') : wp_X4_join o g t M Q := by
  refine ⟨kS ho1 ho2, c_take ho1 ho2 ht ht1 (fun M2 hF2 e0 es M3 e3 => ⟨sN b + 1, ?_⟩)⟩
  have hF3 : FrI (inH o) M M3 := by rw [e3]; exact (hF2.mono (fun b hb => hb.elim Or.inl (fun q => Or.inr (Or.inl q)))).uIs (Or.inl rfl)
  have lp : ∀ f i j M1 D, i ≤ sN a → j ≤ sN b → sN b - j < f → CS nx M1 g a → CS nx M1 t b → RepC M1 o D → FrI (inH o) M M1 → okD D (mrg ((sL a).drop i) ((sL b).drop j)).length → (mrg ((sL a).drop i) ((sL b).drop j)).foldl pushA D = joinA a b → wp_X4_join_L15 o g t Q f (nI i) (nI j) M1 := by
    intro f
    induction f with
    | zero => intro i j M1 D _ _ h9; omega
    | succ f ih =>
      intro i j M1 D hi hj hf hg ht hD hF hok hE
      have hn := ht.n
      unfold wp_X4_join_L15
      refine ⟨ht.kd, ?_⟩
      by_cases c : j = sN b
      · subst c
        simp (disch := omega) only [ht.cnt, nEF, nET, true_and, and_true, true_implies, false_implies, not_true_eq_false, not_false_eq_true, forall_const, false_or, or_false, if_true, if_false]
        rw [drop_all (a := b) (Nat.le_refl _), mrg_nil] at hok hE
        refine ⟨sN a - i + 1, c_join88 hg1 ho1 ho2 hQ _ i M1 D hi (by omega) hg hD hF ?_ hE⟩
        rw [List.length_drop] at hok
        exact hok
      · simp (disch := omega) only [ht.cnt, nEF, nET, true_and, and_true, true_implies, false_implies, not_true_eq_false, not_false_eq_true, forall_const, false_or, or_false, if_true, if_false]
        refine c_part ht (p := 0) (by decide) (by omega) ⟨sN a - i + 1, ?_⟩
        exact c_join33 hg1 ht1 ho1 ho2 (by omega) (fun i D M' hi hg ht hD hF hok hE => ih i (j + 1) M' D hi (by omega) (by omega) hg ht hD hF hok hE) _ i M1 D hi (by omega) hg ht hD hF hok hE
  obtain ⟨w1, w2, w3, w4, w5, w6⟩ := ht.2.1.2.2.1 hb
  refine lp _ 0 0 M3 (b.1, b.2.1, b.2.2.1, []) (Nat.zero_le _) (Nat.zero_le _) (by omega) (hg.fr ho1 ho2 hg1 hF3) (ht.fr ho1 ho2 ht1 hF3) ⟨?_, ?_, fun i hi => absurd hi (Nat.not_lt_zero _), fun _ => ?_⟩ hF3 ⟨hb, Nat.zero_le _, w4, fun _ => Nat.zero_le _, fun q => ?_⟩ ?_
  · rw [e3, rd_ne (by omega), e0]; exact ht.1.1
  · rw [e3, rd_eq]; rfl
  · obtain ⟨f1, f2, f3, f4, f5⟩ := es hb
    refine ⟨?_, ?_, ?_, ?_, fun t ht => ?_⟩
    · rw [e3, rd_ne (by omega)]; exact f1
    · rw [e3, rd_ne (by omega)]; exact f2
    · rw [e3, rd_ne (by omega)]; exact f3
    · rw [e3, rd_ne (by omega)]; exact f4
    · rw [e3, rd_ne (by omega)]; exact f5 t ht
  · have := h60 q
    show 0 + _ ≤ 60
    simpa using this
  · simp [joinA]
end PS5
