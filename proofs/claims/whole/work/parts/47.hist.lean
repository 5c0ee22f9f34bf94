-- PURE: the changes that can be taken back
def remG (G : GST) (s : Nat) : GST := (G.1, G.2.1, ((s, G.1) :: G.2.2.1).take 10, G.2.2.2)
def setG (G : GST) (s : Nat) (a : SLT) (nx : Nat) : GST := ((fun i => if i = s then a else G.1.1 i, nx), G.2)
def inHis (b : Nat) : Prop := b = 4 ∨ b = 6 ∨ b = 7 ∨ (111 ≤ b ∧ b < 121) ∨ (211 ≤ b ∧ b < 221) ∨ (311 ≤ b ∧ b < 321)
theorem rix_0 {tp : Nat} (h : tp < 10) : rix ((tp + 1) % 10) 0 = tp := by unfold rix; omega
theorem rix_s {tp j : Nat} (h : tp < 10) (hj : j < 9) : rix ((tp + 1) % 10) (j + 1) = rix tp j ∧ rix tp j ≠ tp := by unfold rix; omega
theorem n_rem10 {n : Nat} (h : n < 100) : (nI n + 1) - (nI n + 1) / 10 * 10 = nI ((n + 1) % 10) := by
  rw [n1, nA, n10]; exact pk_rem (by omega) (by decide) (by decide)
theorem take_get {α : Type} (x : α) (l : List α) (n j : Nat) (h : j + 1 < ((x :: l).take n).length) (h2 : j < l.length) : ((x :: l).take n)[j + 1] = l[j] := by rw [List.getElem_take, List.getElem_cons_succ]
section PH
variable {M : MEM} {G : GST} {B : Nat}
theorem s_topIndex {tp : Nat} (ht : tp < 10) (h : mI M 4 4 = nI tp) {Q : Int32 → Prop} (hQ : Q (nI tp)) : wp_X0_topIndex 4 M Q := by
  unfold wp_X0_topIndex
  rw [h]
  simp (disch := omega) only [kS, kSq, kSr, rSq, rSr, k1, k2, k3, k4, k5, k6, k7, k8, k9, k10, k11, k12, k13, k14, k15, k16, k17, k40, k41, k108, r1_0, r1_1, r1_5, r1_6, r1_7, r1_8, r1_9, r1_10, r1_11, r1_12, r1_13, r2, r3, r5, r4_0, r4_1, r4_2, r8, r10, r12, r40_1, n0, n1, n2, n3, n4, n5, n9, n10, n60, n300, n310, nA, nM, nC, nLF, nLT, nEF, nET, nQF, nV, nS, true_and, and_true, true_implies, false_implies, not_true_eq_false, not_false_eq_true, forall_const, false_or, or_false, forall_eq, if_true, if_false]
  exact hQ
theorem c_remember (hS : SIMC M G) (hW : WFG B G) (hB : B ≤ 1100000) {s : Nat} (hs : s < 4) {Q : MEM → Prop} (hQ : ∀ M', SIMC M' (remG G s) → FrI inHis M M' → Q M') : wp_X0_remember 4 (nI s) (100 + s) (mI M 1 4) M Q := by
  have hc := hS.cs hW hB hs
  obtain ⟨h1, h2, h3, h4, ⟨h5, tp, ht, h6, h7⟩, h8, h9⟩ := hS
  have hl := hW.2.2.2.2.1
  unfold wp_X0_remember
  refine ⟨rfl, s_topIndex ht h6 ⟨rfl, nV ht (by decide), ?_⟩⟩
  simp (disch := omega) only [kS, kSq, kSr, rSq, rSr, k1, k2, k3, k4, k5, k6, k7, k8, k9, k10, k11, k12, k13, k14, k15, k16, k17, k40, k41, k108, r1_0, r1_1, r1_5, r1_6, r1_7, r1_8, r1_9, r1_10, r1_11, r1_12, r1_13, r2, r3, r5, r4_0, r4_1, r4_2, r8, r10, r12, r40_1, nC, nV, true_and, and_true, true_implies, false_implies, not_true_eq_false, not_false_eq_true, forall_const, false_or, or_false, if_true, if_false]
  refine c_become (by omega) (by omega) hc (fun M6 c6 F6 M10 e10 M13 e13 M14 e14 v15 e15 M16 e16 => ?_)
  have hO : ∀ b, b ≠ 4 → b ≠ 6 → b ≠ 7 → ∀ j, mI M16 b j = mI M6 b j := fun b p4 p6 p7 j => by
    rw [e16, rd_ne (by omega), e14, rd_ne (by omega), e13, rd_ne (by omega), e10, rd_ne (by omega)]
  have hO2 : ∀ b, b ≠ 4 → b ≠ 6 → b ≠ 7 → ¬ inH (111 + tp) b → ∀ j, mI M16 b j = mI M b j := fun b p4 p6 p7 p j => (hO b p4 p6 p7 j).trans (F6.1 b p j)
  have hrep : ∀ {h a}, 100 ≤ h → h < 121 → h ≠ 111 + tp → RepC M h a → RepC M16 h a := fun h1 h2 h3 hr => hr.of (fun b hb j => hO2 b (by unfold inH at hb; omega) (by unfold inH at hb; omega) (by unfold inH at hb; omega) (not_inH (by omega) (by omega) h1 h2 h3 b hb) j)
  rw [n_rem10 (by omega)] at e14
  have k3 : mI M14 4 3 = nI (gHis G).length := by
    rw [e14, rd_ne (by omega), e13, rd_ne (by omega), e10, rd_ne (by omega), F6.1 4 (by unfold inH; omega)]; exact h5
  have e16' : mI M16 4 3 = nI (gHis (remG G s)).length := by
    rw [e16, rd_eq, e15, k3]
    show _ = nI (((s, G.1) :: gHis G).take 10).length
    rw [List.length_take, List.length_cons, n1, nA, n10]
    by_cases q : 10 < (gHis G).length + 1
    · rw [if_pos ((nI_ltI (by omega) (by omega)).mpr q), Nat.min_eq_left (by omega)]
    · rw [if_neg (fun w => q ((nI_ltI (by omega) (by omega)).mp w)), Nat.min_eq_right (by omega)]
  refine hQ M16 ⟨fun i hi => hrep (by omega) (by omega) (by omega) (h1 i hi), by rw [hO2 1 (by decide) (by decide) (by decide) (by unfold inH; omega)]; exact h2, by rw [hO2 1 (by decide) (by decide) (by decide) (by unfold inH; omega)]; exact h3, fun F hF => ⟨fun i hi => hrep (by omega) (by omega) (by omega) ((h4 F hF).1 i hi), by rw [hO2 1 (by decide) (by decide) (by decide) (by unfold inH; omega)]; exact (h4 F hF).2⟩, ⟨e16', (tp + 1) % 10, Nat.mod_lt _ (by decide), ?_, fun j hj => ?_⟩, ?_, ?_⟩ ⟨fun b hb j => ?_, ?_⟩
  · rw [e16, rd_ne (by omega), e14, rd_eq]
  · have hlen : (gHis (remG G s)).length ≤ 10 := by
      show (((s, G.1) :: gHis G).take 10).length ≤ 10
      rw [List.length_take]; exact Nat.min_le_left _ _
    have hlen2 : (gHis (remG G s)).length ≤ (gHis G).length + 1 := by
      show (((s, G.1) :: gHis G).take 10).length ≤ _
      rw [List.length_take, List.length_cons]; exact Nat.min_le_right _ _
    cases j with
    | zero =>
      have hg : (gHis (remG G s))[0] = (s, G.1) := rfl
      rw [rix_0 ht, hg]
      refine ⟨?_, c6.1.of (fun b hb j => hO b (by unfold inH at hb; omega) (by unfold inH at hb; omega) (by unfold inH at hb; omega) j), ?_⟩
      · rw [e16, rd_ne (by omega), e14, rd_ne (by omega), e13, rd_ne (by omega), e10, rd_eq]
      · rw [e16, rd_ne (by omega), e14, rd_ne (by omega), e13, rd_eq]; exact h2
    | succ j =>
      have hj9 : j < 9 := by omega
      have hjl : j < (gHis G).length := by omega
      have hg : (gHis (remG G s))[j + 1] = (gHis G)[j] := take_get _ _ _ _ hj hjl
      obtain ⟨r1, r2⟩ := rix_s ht hj9
      obtain ⟨a, b, c⟩ := h7 j hjl
      have hx : rix tp j < 10 := Nat.mod_lt _ (by decide)
      rw [r1, hg]
      refine ⟨?_, hrep (by omega) (by omega) (by omega) b, ?_⟩
      · rw [e16, rd_ne (by omega), e14, rd_ne (by omega), e13, rd_ne (by omega), e10, rd_ne (by omega), F6.1 6 (by unfold inH; omega)]; exact a
      · rw [e16, rd_ne (by omega), e14, rd_ne (by omega), e13, rd_ne (by omega), e10, rd_ne (by omega), F6.1 7 (by unfold inH; omega)]; exact c
  · exact ⟨by rw [hO2 8 (by decide) (by decide) (by decide) (by unfold inH; omega)]; exact h8.1, fun k hk => by rw [hO2 9 (by decide) (by decide) (by decide) (by unfold inH; omega)]; exact h8.2 k hk⟩
  · exact ⟨by rw [hO2 10 (by decide) (by decide) (by decide) (by unfold inH; omega)]; exact h9.1, fun k hk => by rw [hO2 11 (by decide) (by decide) (by decide) (by unfold inH; omega)]; exact h9.2 k hk⟩
  · exact hO2 b (fun e => hb (Or.inl e)) (fun e => hb (Or.inr (Or.inl e))) (fun e => hb (Or.inr (Or.inr (Or.inl e)))) (fun q => hb (by unfold inH at q; unfold inHis; omega)) j
  · rw [e16, e14, e13, e10]; exact F6.2
/-- a slot is changed, and the next number -/
theorem SIMC.set {M' : MEM} (hS : SIMC M G) {s : Nat} (hs : s < 4) {a : SLT} {nx : Nat} (hr : RepC M' (100 + s) a) (e : ∀ b, b ≠ 1 → ¬ inH (100 + s) b → liveC b → ∀ j, mI M' b j = mI M b j) (e2 : mI M' 1 2 = mI M 1 2) (e3 : mI M' 1 3 = mI M 1 3) (e4 : mI M' 1 4 = nI nx) : SIMC M' (setG G s a nx) := by
  obtain ⟨h1, h2, h3, h4, ⟨h5, tp, ht, h6, h7⟩, h8, h9⟩ := hS
  have hrep : ∀ {h b}, 100 ≤ h → h < 121 → h ≠ 108 → h ≠ 100 + s → RepC M h b → RepC M' h b := fun h1 h2 h8 h3 hr => hr.of (fun b hb j => e b (by unfold inH at hb; omega) (not_inH (by omega) (by omega) h1 h2 h3 b hb) (by unfold inH at hb; unfold liveC; omega) j)
  have ho : ∀ b, b = 4 ∨ (6 ≤ b ∧ b ≤ 11) → b < 100 → ∀ j, mI M' b j = mI M b j := fun b p q j => e b (by omega) (by unfold inH; omega) (by unfold liveC; omega) j
  refine ⟨fun i hi => ?_, e4, by rw [e2]; exact h3, fun F hF => ⟨fun i hi => hrep (by omega) (by omega) (by omega) (by omega) ((h4 F hF).1 i hi), by rw [e3]; exact (h4 F hF).2⟩, ⟨by rw [ho 4 (by decide) (by decide)]; exact h5, tp, ht, by rw [ho 4 (by decide) (by decide)]; exact h6, fun j hj => ?_⟩, ?_, ?_⟩
  · show RepC M' (100 + i) (if i = s then a else G.1.1 i)
    by_cases c : i = s
    · subst c; rw [if_pos rfl]; exact hr
    · rw [if_neg c]; exact hrep (by omega) (by omega) (by omega) (by omega) (h1 i hi)
  · obtain ⟨a, b, c⟩ := h7 j hj
    have hx : rix tp j < 10 := Nat.mod_lt _ (by decide)
    exact ⟨by rw [ho 6 (by decide) (by decide)]; exact a, hrep (by omega) (by omega) (by omega) (by omega) b, by rw [ho 7 (by decide) (by decide)]; exact c⟩
  · exact ⟨by rw [ho 8 (by decide) (by decide)]; exact h8.1, fun k hk => by rw [ho 9 (by decide) (by decide)]; exact h8.2 k hk⟩
  · exact ⟨by rw [ho 10 (by decide) (by decide)]; exact h9.1, fun k hk => by rw [ho 11 (by decide) (by decide)]; exact h9.2 k hk⟩
/-- the same, the next number as it was -/
theorem SIMC.set1 {M' : MEM} (hS : SIMC M G) {s : Nat} (hs : s < 4) {a : SLT} (hr : RepC M' (100 + s) a) (hF : FrI (inH (100 + s)) M M') : SIMC M' (setG G s a G.1.2) :=
  hS.set hs hr (fun b _ hb _ j => hF.1 b hb j) (hF.1 1 (by unfold inH; omega) 2) (hF.1 1 (by unfold inH; omega) 3) (by rw [hF.1 1 (by unfold inH; omega) 4]; exact hS.2.1)
end PH
theorem chain_take {c : FULL} {l : List (Nat × FULL)} (n : Nat) (h : chain c l) : chain c (l.take n) := by
  induction l generalizing c n with
  | nil => rw [List.take_nil]; exact h
  | cons x r ih =>
    cases n with
    | zero => exact trivial
    | succ n => exact ⟨h.1, h.2.1, ih n h.2.2⟩
theorem okF.mono {B B' : Nat} {F : FULL} (h : okF B F) (hB : B ≤ B') : okF B' F := ⟨Nat.le_trans h.1 hB, h.2⟩
theorem WF.mono {n n' : Nat} {a : SLT} (h : WF n a) (hn : n ≤ n') : WF n' a :=
  ⟨h.1, h.2.1, h.2.2.1, fun i hi => ⟨Nat.lt_of_lt_of_le (h.2.2.2.1 i hi).1 hn, (h.2.2.2.1 i hi).2⟩, h.2.2.2.2⟩
theorem WFG.mono {B B' : Nat} {G : GST} (h : WFG B G) (hB : B ≤ B') : WFG B' G :=
  ⟨h.1.mono hB, fun F hF => (h.2.1 F hF).mono hB, fun q hq => (h.2.2.1 q hq).mono hB, h.2.2.2⟩
/-- a change: the state before it is remembered, a slot and the next number are new -/
def chgG (G : GST) (s : Nat) (a : SLT) (nx : Nat) : GST := setG (remG G s) s a nx
theorem WFG.chg {B B' : Nat} {G : GST} (h : WFG B G) (hB : B ≤ B') {s : Nat} (hs : s < 4) {a : SLT} {nx : Nat} (ha : WF nx a) (hn : (gCur G).2 ≤ nx) (hx : nx ≤ B') : WFG B' (chgG G s a nx) := by
  refine ⟨⟨hx, fun i hi => ?_⟩, fun F hF => (h.2.1 F hF).mono hB, fun q hq => ?_, ?_, ?_, h.2.2.2.2.2⟩
  · show WF nx (if i = s then a else G.1.1 i)
    split
    · exact ha
    · exact (h.1.2 i hi).mono hn
  · have hq2 := List.mem_of_mem_take (show q ∈ ((s, G.1) :: G.2.2.1).take 10 from hq)
    rcases List.mem_cons.mp hq2 with rfl | hq2
    · exact h.1.mono hB
    · exact (h.2.2.1 q hq2).mono hB
  · show chain (fun i => if i = s then a else G.1.1 i, nx) (((s, G.1) :: G.2.2.1).take 10)
    refine chain_take 10 ⟨hs, fun i hi => ?_, h.2.2.2.1⟩
    show _ = if i = s then a else _
    rw [if_neg hi]
  · show (((s, G.1) :: G.2.2.1).take 10).length ≤ 10
    rw [List.length_take]; exact Nat.min_le_left _ _
