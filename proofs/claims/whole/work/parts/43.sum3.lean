-- PURE: the class's summaries change
section PS3
variable {M : MEM} {h nx : Nat} {a : SLT}
theorem it_app {L : List ITM} {x : ITM} {q : Bool} {u : Nat × Nat × Int32 × Nat} {v : Nat → Nat} (i : Nat) : it (q, u, v, L ++ [x]) i = if i < L.length then L.getD i (0, 0, 0, 0, 0) else if i = L.length then x else (0, 0, 0, 0, 0) := by
  unfold it
  simp only [List.getD_eq_getElem?_getD]
  by_cases c : i < L.length
  · rw [if_pos c, List.getElem?_append_left c]
  · rw [if_neg c, List.getElem?_append_right (by omega)]
    by_cases d : i = L.length
    · rw [if_pos d]; subst d; simp
    · rw [if_neg d, List.getElem?_eq_none (by simp; omega)]; rfl
theorem it_drop {L : List ITM} {q : Bool} {u : Nat × Nat × Int32 × Nat} {v : Nat → Nat} (i : Nat) : it (q, u, v, L.drop 1) i = L.getD (i + 1) (0, 0, 0, 0, 0) := by
  show (L.drop 1).getD i _ = _
  simp only [List.getD_eq_getElem?_getD, List.getElem?_drop]
  rw [Nat.add_comm]
theorem c_like {g : Nat} {b : SLT} (hc : CS nx M h a) (hg : CS nx M g b) (ha : sH a = true) (hb : sH b = true) {Q : Int32 → Prop} (hQ : Q (if sK a = sK b ∧ sZ a = sZ b ∧ sS a = sS b then 1 else 0)) : wp_X4_isLike h g M Q := by
  obtain ⟨e1, e2, e3, -, -⟩ := hc.1.2.2.2 ha
  obtain ⟨f1, f2, f3, -, -⟩ := hg.1.2.2.2 hb
  obtain ⟨w1, -, w2, -⟩ := hc.2.1.2.2.1 ha
  obtain ⟨v1, -, v2, -⟩ := hg.2.1.2.2.1 hb
  refine ⟨hc.kd, hg.kd, ?_⟩
  rw [e1, e2, e3, f1, f2, f3]
  have q1 : nI (sK a) = nI (sK b) ↔ sK a = sK b := nI_eq (by omega) (by omega)
  have q2 : nI (sZ a) = nI (sZ b) ↔ sZ a = sZ b := nI_eq (by omega) (by omega)
  rw [q1, q2]
  refine ⟨fun c => by rw [if_neg (fun w => c w.1)] at hQ; exact hQ, fun c1 => ⟨fun c => by rw [if_neg (fun w => c w.2.1)] at hQ; exact hQ, fun c2 => ⟨fun c => by rw [if_neg (fun w => c w.2.2)] at hQ; exact hQ, fun c3 => by rw [if_pos ⟨c1, c2, c3⟩] at hQ; exact hQ⟩⟩⟩
theorem c_room (hc : CS nx M h a) (ha : sH a = true) {m : Nat} (hm : m ≤ 60) {Q : Int32 → Prop} (hQ : Q (if sP a = 0 ∧ 60 < sN a + m then 0 else 1)) : wp_X4_hasRoomFor h (nI m) M Q := by
  obtain ⟨-, -, -, e4, -⟩ := hc.1.2.2.2 ha
  obtain ⟨-, -, -, w4, -⟩ := hc.2.1.2.2.1 ha
  have hn := hc.n
  refine ⟨hc.kd, ?_⟩
  rw [e4, hc.cnt]
  by_cases c : sP a = 0
  · by_cases d : 60 < sN a + m
    · rw [if_pos ⟨c, d⟩] at hQ
      simp (disch := omega) only [n0, n1, n2, n3, n4, n5, n9, n10, n60, n300, n310, nA, nM, nC, nLF, nLT, nEF, nET, nQF, nV, nS, true_and, and_true, true_implies, false_implies, not_true_eq_false, not_false_eq_true, forall_const, false_or, or_false, forall_eq, if_true, if_false]
      exact ⟨fun w => absurd (congrArg nI c) w, fun _ => hQ⟩
    · rw [if_neg (fun w => d w.2)] at hQ
      simp (disch := omega) only [n0, n1, n2, n3, n4, n5, n9, n10, n60, n300, n310, nA, nM, nC, nLF, nLT, nEF, nET, nQF, nV, nS, true_and, and_true, true_implies, false_implies, not_true_eq_false, not_false_eq_true, forall_const, false_or, or_false, forall_eq, if_true, if_false]
      rw [c]
      exact ⟨fun w => absurd rfl w, fun _ => hQ⟩
  · rw [if_neg (fun w => c w.1)] at hQ
    simp (disch := omega) only [n0, n1, n2, n3, n4, n5, n9, n10, n60, n300, n310, nA, nM, nC, nLF, nLT, nEF, nET, nQF, nV, nS, true_and, and_true, true_implies, false_implies, not_true_eq_false, not_false_eq_true, forall_const, false_or, or_false, forall_eq, if_true, if_false]
    exact hQ
theorem c_last (hc : CS nx M h a) {Q : Int32 → Prop} (h0 : sN a = 0 → Q (-1)) (h1 : sN a ≠ 0 → Q (nI (it a (sN a - 1)).1)) : wp_X4_lastNumber h M Q := by
  have hn := hc.n
  refine ⟨hc.kd, ?_⟩
  rw [hc.cnt]
  refine ⟨fun c => ?_, fun c => ?_⟩
  · have c' : sN a ≠ 0 := fun e => c (by rw [e]; rfl)
    rw [n1, pk_sub (by omega)]
    exact c_part hc (p := 0) (by decide) (by omega) (h1 c')
  · exact h0 ((nI_eq (b := 0) (by omega) (by omega)).mp c)
theorem c_putQ (hc : CS nx M h a) (ha : sH a = true) {t q : Nat} (ht : t < 4) (hq : q ≤ 12) {Q : MEM → Prop} (hQ : ∀ M', CS nx M' h (putQA a t q) → FrI (inH h) M M' → Q M') : wp_X4_putQuota h (nI t) (nI q) M Q := by
  have h1 := hc.h1
  have h2 := hc.h2
  unfold wp_X4_putQuota
  simp (disch := omega) only [kS, kSq, kSr, rSq, rSr, k1, k2, k3, k4, k5, k6, k7, k8, k9, k10, k11, k12, k13, k14, k15, k16, k17, k40, k41, k108, r1_0, r1_1, r1_5, r1_6, r1_7, r1_8, r1_9, r1_10, r1_11, r1_12, r1_13, r2, r3, r5, r4_0, r4_1, r4_2, r8, r10, r12, r40_1, n0, n1, n2, n3, n4, n5, n9, n10, n60, n300, n310, nA, nM, nC, nLF, nLT, nEF, nET, nQF, nV, nS, true_and, and_true, true_implies, false_implies, not_true_eq_false, not_false_eq_true, forall_const, false_or, or_false, forall_eq, if_true, if_false]
  refine hQ _ ⟨⟨?_, ?_, ?_, fun _ => ?_⟩, ?_, h1, h2, hc.2.2.2.2⟩ (FrI.uI (Or.inr (Or.inl rfl)))
  · rw [rd_ne (by omega)]; exact hc.1.1
  · rw [rd_ne (by omega)]; exact hc.1.2.1
  · intro i hi p hp; rw [rd_ne (by omega)]; exact hc.1.2.2.1 i hi p hp
  · obtain ⟨e1, e2, e3, e4, e5⟩ := hc.1.2.2.2 ha
    refine ⟨by rw [rd_ne (by omega)]; exact e1, by rw [rd_ne (by omega)]; exact e2, by rw [rd_ne (by omega)]; exact e3, by rw [rd_ne (by omega)]; exact e4, fun u hu => ?_⟩
    show _ = nI (if u = t then q else sQ a u)
    by_cases c : u = t
    · subst c; rw [rd_eq, if_pos rfl]
    · rw [rd_ne (by omega), if_neg c]; exact e5 u hu
  · refine ⟨hc.2.1.1, hc.2.1.2.1, fun _ => ?_, hc.2.1.2.2.2⟩
    obtain ⟨w1, w2, w3, w4, w5, w6⟩ := hc.2.1.2.2.1 ha
    refine ⟨w1, w2, w3, w4, fun u hu => ?_, w6⟩
    show (if u = t then q else sQ a u) ≤ 12
    split
    · exact hq
    · exact w5 u hu
theorem c_empty (hc : CS nx M h a) {Q : MEM → Prop} (hQ : ∀ M', CS nx M' h (emptyA a) → FrI (inH h) M M' → Q M') : wp_X4_empty h M Q := by
  have h1 := hc.h1
  have h2 := hc.h2
  unfold wp_X4_empty
  simp (disch := omega) only [kS, kSq, kSr, rSq, rSr, k1, k2, k3, k4, k5, k6, k7, k8, k9, k10, k11, k12, k13, k14, k15, k16, k17, k40, k41, k108, r1_0, r1_1, r1_5, r1_6, r1_7, r1_8, r1_9, r1_10, r1_11, r1_12, r1_13, r2, r3, r5, r4_0, r4_1, r4_2, r8, r10, r12, r40_1, true_and, and_true, true_implies, false_implies, not_true_eq_false, not_false_eq_true, forall_const, false_or, or_false, forall_eq, if_true, if_false]
  refine hQ _ ⟨⟨?_, ?_, fun i hi => absurd hi (Nat.not_lt_zero _), fun h => by cases h⟩, ⟨Nat.zero_le _, fun _ => rfl, (fun h => by cases h), fun i hi => absurd hi (Nat.not_lt_zero _), fun i j _ hj => absurd hj (Nat.not_lt_zero _)⟩, h1, h2, hc.2.2.2.2⟩ ((FrI.uI (Or.inl rfl)).uIs (Or.inl rfl))
  · rw [rd_ne (by omega), rd_eq]; rfl
  · rw [rd_eq]; rfl
theorem c_begin {h nx : Nat} (h1 : 100 ≤ h) (h2 : h < 121) (hx : nx ≤ 1100000) {k z p : Nat} {s : Int32} (hk : k ≤ 3) (hz1 : 1 ≤ z) (hz : z ≤ 12) (hp : p ≤ 40) {Q : MEM → Prop} (hQ : ∀ M', CS nx M' h (beginA k z s p) → FrI (inH h) M M' → Q M') : wp_X4_begin h (nI k) (nI z) s (nI p) M Q := by
  unfold wp_X4_begin
  simp (disch := omega) only [kS, kSq, kSr, rSq, rSr, k1, k2, k3, k4, k5, k6, k7, k8, k9, k10, k11, k12, k13, k14, k15, k16, k17, k40, k41, k108, r1_0, r1_1, r1_5, r1_6, r1_7, r1_8, r1_9, r1_10, r1_11, r1_12, r1_13, r2, r3, r5, r4_0, r4_1, r4_2, r8, r10, r12, r40_1, true_and, and_true, true_implies, false_implies, not_true_eq_false, not_false_eq_true, forall_const, false_or, or_false, forall_eq, if_true, if_false]
  have lp : ∀ f t M1, t ≤ 4 → 4 - t < f → FrI (inH h) M M1 → mI M1 h 0 = 1 → mI M1 h 1 = nI k → mI M1 h 2 = nI z → mI M1 h 3 = s → mI M1 h 4 = nI p → mI M1 h 5 = 0 → (∀ u, u < t → mI M1 (h + 100) u = nI z) → wp_X4_begin_L34 h (nI z) Q f (nI t) M1 := by
    intro f
    induction f with
    | zero => intro t M1 _ h9; omega
    | succ f ih =>
      intro t M1 ht hf hF e0 e1 e2 e3 e4 e5 eq
      unfold wp_X4_begin_L34
      by_cases c : t = 4
      · subst c
        simp (disch := omega) only [n0, n1, n2, n3, n4, n5, n9, n10, n60, n300, n310, nA, nM, nC, nLF, nLT, nEF, nET, nQF, nV, nS, true_and, and_true, true_implies, false_implies, not_true_eq_false, not_false_eq_true, forall_const, false_or, or_false, forall_eq, if_true, if_false]
        refine hQ M1 ⟨⟨e0, e5, fun i hi => absurd hi (Nat.not_lt_zero _), fun _ => ⟨e1, e2, e3, e4, eq⟩⟩, ⟨Nat.zero_le _, fun _ => rfl, fun _ => ⟨hk, hz1, hz, hp, fun _ _ => hz, fun _ => Nat.zero_le _⟩, fun i hi => absurd hi (Nat.not_lt_zero _), fun i j _ hj => absurd hj (Nat.not_lt_zero _)⟩, h1, h2, hx⟩ hF
      · simp (disch := omega) only [kS, kSq, kSr, rSq, rSr, k1, k2, k3, k4, k5, k6, k7, k8, k9, k10, k11, k12, k13, k14, k15, k16, k17, k40, k41, k108, r1_0, r1_1, r1_5, r1_6, r1_7, r1_8, r1_9, r1_10, r1_11, r1_12, r1_13, r2, r3, r5, r4_0, r4_1, r4_2, r8, r10, r12, r40_1, n0, n1, n2, n3, n4, n5, n9, n10, n60, n300, n310, nA, nM, nC, nLF, nLT, nEF, nET, nQF, nV, nS, true_and, and_true, true_implies, false_implies, not_true_eq_false, not_false_eq_true, forall_const, false_or, or_false, forall_eq, if_true, if_false]
        refine ih (t + 1) _ (by omega) (by omega) (hF.uIs (Or.inr (Or.inl rfl))) ?_ ?_ ?_ ?_ ?_ ?_ (fun u hu => ?_)
        · rw [rd_ne (by omega)]; exact e0
        · rw [rd_ne (by omega)]; exact e1
        · rw [rd_ne (by omega)]; exact e2
        · rw [rd_ne (by omega)]; exact e3
        · rw [rd_ne (by omega)]; exact e4
        · rw [rd_ne (by omega)]; exact e5
        · by_cases d : u = t
          · subst d; rw [rd_eq]
          · rw [rd_ne (by omega)]; exact eq u (by omega)
  refine ⟨5, lp 5 0 _ (by omega) (by omega) ((((((FrI.uI (Or.inl rfl)).uIs (Or.inl rfl)).uIs (Or.inl rfl)).uIs (Or.inl rfl)).uIs (Or.inl rfl)).uIs (Or.inl rfl)) ?_ ?_ ?_ ?_ ?_ ?_ (fun u hu => absurd hu (Nat.not_lt_zero _))⟩ <;> simp (disch := omega) only [rd_eq, rd_ne, rc_in, rc_ne]
/-- a copy of a summary, field by field -/
theorem c_take {g : Nat} {b : SLT} (h1 : 100 ≤ h) (h2 : h < 121) (hg : CS nx M g b) (hgh : g ≠ h) {Q : MEM → Prop} (hQ : ∀ M', FrI (fun b => b = h ∨ b = h + 100) M M' → mI M' h 0 = mI M g 0 → (sH b = true → mI M' h 1 = nI (sK b) ∧ mI M' h 2 = nI (sZ b) ∧ mI M' h 3 = sS b ∧ mI M' h 4 = nI (sP b) ∧ ∀ t, t < 4 → mI M' (h + 100) t = nI (sQ b t)) → Q M') : wp_X4_takeSettings h g M Q := by
  have g1 := hg.h1
  have g2 := hg.h2
  have hb := gB_01 (x := mI M g 0) (by rw [hg.1.1]; split <;> simp)
  refine ⟨kS h1 h2, hg.kd, hb, fun M2 e2 M4 e4 M5 e5 M6 e6 M7 e7 => ?_⟩
  have v4 : mI M2 g 1 = mI M g 1 := by rw [e2, rd_ne (by omega)]
  rw [v4] at e4
  have v5 : mI M4 g 2 = mI M g 2 := by rw [e4, rd_ne (by omega), e2, rd_ne (by omega)]
  rw [v5] at e5
  have v6 : mI M5 g 3 = mI M g 3 := by rw [e5, rd_ne (by omega), e4, rd_ne (by omega), e2, rd_ne (by omega)]
  rw [v6] at e6
  have v7 : mI M6 g 4 = mI M g 4 := by rw [e6, rd_ne (by omega), e5, rd_ne (by omega), e4, rd_ne (by omega), e2, rd_ne (by omega)]
  rw [v7] at e7
  simp (disch := omega) only [kS, kSq, kSr, rSq, rSr, k1, k2, k3, k4, k5, k6, k7, k8, k9, k10, k11, k12, k13, k14, k15, k16, k17, k40, k41, k108, r1_0, r1_1, r1_5, r1_6, r1_7, r1_8, r1_9, r1_10, r1_11, r1_12, r1_13, r2, r3, r5, r4_0, r4_1, r4_2, r8, r10, r12, r40_1, n0, n1, n2, n3, n4, n5, n9, n10, n60, n300, n310, nA, nM, nC, nLF, nLT, nEF, nET, nQF, nV, nS, true_and, and_true, true_implies, false_implies, not_true_eq_false, not_false_eq_true, forall_const, false_or, or_false, forall_eq, if_true, if_false, Nat.le_refl, Nat.zero_add]
  have hF7 : FrI (fun b => b = h ∨ b = h + 100) M M7 := by
    rw [e7, e6, e5, e4, e2]
    exact ((((FrI.uI (Or.inl rfl)).uIs (Or.inl rfl)).uIs (Or.inl rfl)).uIs (Or.inl rfl)).uIs (Or.inl rfl)
  refine hQ _ (hF7.trans (FrI.uC (Or.inr rfl))) ?_ (fun ht => ?_)
  · rw [rc_ne (by omega), e7, rd_ne (by omega), e6, rd_ne (by omega), e5, rd_ne (by omega), e4, rd_ne (by omega), e2, rd_eq]
  · obtain ⟨f1, f2, f3, f4, f5⟩ := hg.1.2.2.2 ht
    refine ⟨?_, ?_, ?_, ?_, fun t ht => ?_⟩
    · rw [rc_ne (by omega), e7, rd_ne (by omega), e6, rd_ne (by omega), e5, rd_ne (by omega), e4, rd_eq]; exact f1
    · rw [rc_ne (by omega), e7, rd_ne (by omega), e6, rd_ne (by omega), e5, rd_eq]; exact f2
    · rw [rc_ne (by omega), e7, rd_ne (by omega), e6, rd_eq]; exact f3
    · rw [rc_ne (by omega), e7, rd_eq]; exact f4
    · rw [rc_in (by omega) (by omega), hF7.1 (g + 100) (by omega), Nat.sub_zero, Nat.zero_add]; exact f5 t ht
theorem uI_id (M : MEM) (a k : Nat) : uI M a k (mI M a k) = M := by
  refine Prod.ext (funext fun b => funext fun j => ?_) rfl
  show (if b = a ∧ j = k then mI M a k else mI M b j) = mI M b j
  split
  · rename_i q; rw [q.1, q.2]
  · rfl
theorem uC_id (M : MEM) (a n : Nat) : uC M a a 0 0 n = M := by
  refine Prod.ext (funext fun b => funext fun j => ?_) rfl
  show (if b = a ∧ 0 ≤ j ∧ j < 0 + n then mI M a (0 + (j - 0)) else mI M b j) = mI M b j
  split
  · rename_i q; rw [q.1]; congr 1; omega
  · rfl
theorem c_becomeSelf (hg : CS nx M h a) {Q : MEM → Prop} (hQ : Q M) : wp_X4_become h h M Q := by
  have g1 := hg.h1
  have g2 := hg.h2
  have hb := gB_01 (x := mI M h 0) (by rw [hg.1.1]; split <;> simp)
  unfold wp_X4_become wp_X4_takeSettings
  simp (disch := omega) only [kS, kSq, kSr, rSq, rSr, k1, k2, k3, k4, k5, k6, k7, k8, k9, k10, k11, k12, k13, k14, k15, k16, k17, k40, k41, k108, r1_0, r1_1, r1_5, r1_6, r1_7, r1_8, r1_9, r1_10, r1_11, r1_12, r1_13, r2, r3, r5, r4_0, r4_1, r4_2, r8, r10, r12, r40_1, n0, n1, n2, n3, n4, n5, n9, n10, n60, n300, n310, nA, nM, nC, nLF, nLT, nEF, nET, nQF, nV, nS, hb, true_and, and_true, true_implies, false_implies, not_true_eq_false, not_false_eq_true, forall_const, false_or, or_false, forall_eq, if_true, if_false, Nat.le_refl, Nat.zero_add, uI_id, uC_id]
  exact hQ
theorem c_become {g : Nat} {b : SLT} (h1 : 100 ≤ h) (h2 : h < 121) (hg : CS nx M g b) {Q : MEM → Prop} (hQ : ∀ M', CS nx M' h b → FrI (inH h) M M' → Q M') : wp_X4_become h g M Q := by
  have g1 := hg.h1
  have g2 := hg.h2
  by_cases e : g = h
  · subst e
    exact c_becomeSelf hg (hQ M hg (FrI.refl M))
  · unfold wp_X4_become
    refine ⟨kS h1 h2, c_take h1 h2 hg e (fun M2 hF e0 es => ⟨hg.kd, fun M4 e4 => ?_⟩)⟩
    have hn := hg.n
    have v4 : mI M2 g 5 = nI (sN b) := by rw [hF.1 g (by omega)]; exact hg.cnt
    rw [v4] at e4
    simp (disch := omega) only [kS, kSq, kSr, rSq, rSr, k1, k2, k3, k4, k5, k6, k7, k8, k9, k10, k11, k12, k13, k14, k15, k16, k17, k40, k41, k108, r1_0, r1_1, r1_5, r1_6, r1_7, r1_8, r1_9, r1_10, r1_11, r1_12, r1_13, r2, r3, r5, r4_0, r4_1, r4_2, r8, r10, r12, r40_1, n0, n1, n2, n3, n4, n5, n9, n10, n60, n300, n310, nA, nM, nC, nLF, nLT, nEF, nET, nQF, nV, nS, true_and, and_true, true_implies, false_implies, not_true_eq_false, not_false_eq_true, forall_const, false_or, or_false, forall_eq, if_true, if_false, Nat.le_refl, Nat.zero_add]
    refine hQ _ ⟨⟨?_, ?_, fun i hi p hp => ?_, fun ht => ?_⟩, hg.2.1, h1, h2, hg.2.2.2.2⟩ (((hF.mono (fun b hb => hb.elim Or.inl (fun q => Or.inr (Or.inl q)))).trans (by rw [e4]; exact FrI.uI (Or.inl rfl))).trans (FrI.uC (Or.inr (Or.inr rfl))))
    · rw [rc_ne (by omega), e4, rd_ne (by omega), e0]; exact hg.1.1
    · rw [rc_ne (by omega), e4, rd_eq]
    · rw [rc_in (by omega) (by omega), e4, rd_ne (by omega), hF.1 (g + 200) (by omega), Nat.sub_zero, Nat.zero_add]; exact hg.1.2.2.1 i hi p hp
    · obtain ⟨f1, f2, f3, f4, f5⟩ := es ht
      refine ⟨?_, ?_, ?_, ?_, fun t ht => ?_⟩
      · rw [rc_ne (by omega), e4, rd_ne (by omega)]; exact f1
      · rw [rc_ne (by omega), e4, rd_ne (by omega)]; exact f2
      · rw [rc_ne (by omega), e4, rd_ne (by omega)]; exact f3
      · rw [rc_ne (by omega), e4, rd_ne (by omega)]; exact f4
      · rw [rc_ne (by omega), e4, rd_ne (by omega)]; exact f5 t ht
end PS3
