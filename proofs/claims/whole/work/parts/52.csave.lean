-- PURE: the class's save, restore
def filN (F : FULL) : Nat := cntF (fun i => sH (F.1 i)) 4
def saveG (G : GST) : GST := (G.1, some G.1, G.2.2)
def resG (G : GST) (F : FULL) : GST := (F, G.2.1, [], G.2.2.2)
section PV
variable {M : MEM} {G : GST} {B : Nat}
theorem c_filN (hr : ∀ i, i < 4 → RepC M (100 + i) ((gCur G).1 i)) {Q : Int32 → Prop} (hQ : Q (nI (filN (gCur G)))) : wp_X5_filledSlots 1 M Q := by
  refine ⟨rfl, 5, ?_⟩
  have lp : ∀ f i, i ≤ 4 → 4 - i < f → wp_X5_filledSlots_L4 1 M Q f (nI (cntF (fun i => sH ((gCur G).1 i)) i)) (nI i) := by
    intro f
    induction f with
    | zero => intro i _ h9; omega
    | succ f ih =>
      intro i hi hf
      unfold wp_X5_filledSlots_L4
      by_cases c : i = 4
      · subst c
        simp (disch := omega) only [n0, n1, n2, n3, n4, n5, n9, n10, n60, n300, n310, nA, nM, nC, nLF, nLT, nEF, nET, nQF, nV, nS, true_and, and_true, true_implies, false_implies, not_true_eq_false, not_false_eq_true, forall_const, false_or, or_false, if_true, if_false]
        exact hQ
      · simp (disch := omega) only [kS, kSq, kSr, rSq, rSr, k1, k2, k3, k4, k5, k6, k7, k8, k9, k10, k11, k12, k13, k14, k15, k16, k17, k40, k41, k108, r1_0, r1_1, r1_5, r1_6, r1_7, r1_8, r1_9, r1_10, r1_11, r1_12, r1_13, r2, r3, r5, r4_0, r4_1, r4_2, r8, r10, r12, r40_1, n0, n1, n4, nEF, nET, nV, nC, nA, true_and, and_true, true_implies, false_implies, not_true_eq_false, not_false_eq_true, forall_const, false_or, or_false, forall_eq, if_true, if_false]
        refine s_isFilled (hr i (by omega)) (by omega) (by omega) ?_
        have h9 := ih (i + 1) (by omega) (by omega)
        rw [cntF_s] at h9
        by_cases q : sH ((gCur G).1 i) = true
        · rw [if_pos q] at h9 ⊢
          exact ⟨fun e => absurd e (by decide), fun _ => h9⟩
        · rw [if_neg q] at h9 ⊢
          exact ⟨fun _ => h9, fun e => absurd rfl e⟩
  exact lp 5 0 (by omega) (by omega)
theorem c_save (hS : SIMC M G) (hW : WFG B G) (hB : B ≤ 1100000) {Q : Int32 → MEM → Prop} (hQ : ∀ M', SIMC M' (saveG G) → EqR M M' → Q (nI (filN (gCur G))) M') : wp_X5_save 1 M Q := by
  refine ⟨rfl, 5, ?_⟩
  have lp : ∀ f k M1, k ≤ 4 → 4 - k < f → (∀ b, (b < 104 ∨ 108 ≤ b) → (b < 204 ∨ 208 ≤ b) → (b < 304 ∨ 308 ≤ b) → ∀ j, mI M1 b j = mI M b j) → (∀ i, i < k → RepC M1 (104 + i) ((gCur G).1 i)) → wp_X5_save_L2 1 Q f (nI k) M1 := by
    intro f
    induction f with
    | zero => intro k M1 _ h9; omega
    | succ f ih =>
      intro k M1 hk hf hF hR
      have hrep : ∀ {h a}, 100 ≤ h → h < 121 → (h < 104 ∨ 108 ≤ h) → RepC M h a → RepC M1 h a := fun q1 q2 q3 hr => hr.of (fun b hb j => hF b (by unfold inH at hb; omega) (by unfold inH at hb; omega) (by unfold inH at hb; omega) j)
      unfold wp_X5_save_L2
      by_cases c : k = 4
      · subst c
        simp (disch := omega) only [n4, nEF, nET, true_and, and_true, true_implies, false_implies, not_true_eq_false, not_false_eq_true, forall_const, false_or, or_false, if_true, if_false]
        intro M3 e3 M4 e4
        have hO : ∀ b, b ≠ 1 → ∀ j, mI M4 b j = mI M1 b j := fun b hb j => by rw [e4, rd_ne (by omega), e3, rd_ne (by omega)]
        have hrep4 : ∀ {h a}, 100 ≤ h → RepC M1 h a → RepC M4 h a := fun q1 hr => hr.of (fun b hb j => hO b (by unfold inH at hb; omega) j)
        obtain ⟨h1, h2, h3, h4, ⟨h5, tp, ht, h6, h7⟩, h8, h9⟩ := hS
        have hr4 : ∀ i, i < 4 → RepC M4 (100 + i) ((gCur G).1 i) := fun i hi => hrep4 (by omega) (hrep (by omega) (by omega) (by omega) (h1 i hi))
        have oo : ∀ b, 4 ≤ b → b < 60 → ∀ j, mI M4 b j = mI M b j := fun b p q j => (hO b (by omega) j).trans (hF b (by omega) (by omega) (by omega) j)
        refine c_filN hr4 (hQ M4 ⟨hr4, ?_, ?_, fun F hF' => ?_, ⟨by rw [oo 4 (by decide) (by decide)]; exact h5, tp, ht, by rw [oo 4 (by decide) (by decide)]; exact h6, fun j hj => ?_⟩, ?_, ?_⟩ (fun b p q j => oo b (by omega) q j))
        · rw [e4, rd_ne (by omega), e3, rd_ne (by omega), hF 1 (by omega) (by omega) (by omega)]; exact h2
        · rw [e4, rd_eq]; rfl
        · have hF'' : gCur G = F := Option.some.inj hF'
          subst hF''
          refine ⟨fun i hi => hrep4 (by omega) (hR i hi), ?_⟩
          rw [e4, rd_ne (by omega), e3, rd_eq, hF 1 (by omega) (by omega) (by omega)]; exact h2
        · obtain ⟨a, b, c⟩ := h7 j hj
          have hx : rix tp j < 10 := Nat.mod_lt _ (by decide)
          exact ⟨by rw [oo 6 (by decide) (by decide)]; exact a, hrep4 (by omega) (hrep (by omega) (by omega) (by omega) b), by rw [oo 7 (by decide) (by decide)]; exact c⟩
        · exact ⟨by rw [oo 8 (by decide) (by decide)]; exact h8.1, fun k hk => by rw [oo 9 (by decide) (by decide)]; exact h8.2 k hk⟩
        · exact ⟨by rw [oo 10 (by decide) (by decide)]; exact h9.1, fun k hk => by rw [oo 11 (by decide) (by decide)]; exact h9.2 k hk⟩
      · simp (disch := omega) only [r1_0, r1_1, r2, r3, k2, k3, n4, nEF, nET, nV, nC, true_and, and_true, true_implies, false_implies, not_true_eq_false, not_false_eq_true, forall_const, false_or, or_false, if_true, if_false]
        have hc := hS.cs hW hB (s := k) (by omega)
        have hc1 : CS (gCur G).2 M1 (100 + k) ((gCur G).1 k) := ⟨hrep (by omega) (by omega) (by omega) hc.1, hc.2⟩
        refine ⟨kS (by omega) (by omega), c_become (by omega) (by omega) hc1 (fun M2 c2 F2 x1 e1 => ?_)⟩
        rw [e1, n1, nA]
        refine ih (k + 1) M2 (by omega) (by omega) (fun b p q r j => (F2.1 b (by unfold inH; omega) j).trans (hF b p q r j)) (fun i hi => ?_)
        by_cases d : i = k
        · subst d; exact c2.1
        · exact (hR i (by omega)).of (fun b hb j => F2.1 b (not_inH (by omega) (by omega) (by omega) (by omega) (by omega) b hb) j)
  exact lp 5 0 M (by omega) (by omega) (fun _ _ _ _ _ => rfl) (fun i hi => absurd hi (Nat.not_lt_zero _))
theorem c_restore (hS : SIMC M G) (hW : WFG B G) (hB : B ≤ 1100000) {Q : Int32 → MEM → Prop} {X : String → MEM → Prop} (x1 : gSav G = none → X "java/lang/IllegalStateException" M)
    (hQ : ∀ F, gSav G = some F → ∀ M', SIMC M' (resG G F) → EqR M M' → Q (nI (filN F)) M') : wp_X5_restore 1 M Q X := by
  refine ⟨rfl, ?_⟩
  rw [hS.2.2.1]
  cases hs : gSav G with
  | none => exact ⟨fun w => absurd rfl w, fun _ => x1 hs⟩
  | some F =>
    refine ⟨fun _ => ⟨5, ?_⟩, fun w => absurd (show (1 : Int32) = 0 from w) (by decide)⟩
    obtain ⟨hF4, hF3⟩ := hS.2.2.2.1 F hs
    have hok := hW.2.1 F hs
    have lp : ∀ f k M1, k ≤ 4 → 4 - k < f → (∀ b, (b < 100 ∨ 104 ≤ b) → (b < 200 ∨ 204 ≤ b) → (b < 300 ∨ 304 ≤ b) → ∀ j, mI M1 b j = mI M b j) → (∀ i, i < k → RepC M1 (100 + i) (F.1 i)) → wp_X5_restore_L20 1 Q f (nI k) M1 := by
      intro f
      induction f with
      | zero => intro k M1 _ h9; omega
      | succ f ih =>
        intro k M1 hk hf hF hR
        have hrep : ∀ {h a}, 100 ≤ h → h < 121 → (h < 100 ∨ 104 ≤ h) → RepC M h a → RepC M1 h a := fun q1 q2 q3 hr => hr.of (fun b hb j => hF b (by unfold inH at hb; omega) (by unfold inH at hb; omega) (by unfold inH at hb; omega) j)
        unfold wp_X5_restore_L20
        by_cases c : k = 4
        · subst c
          simp (disch := omega) only [n4, nEF, nET, true_and, and_true, true_implies, false_implies, not_true_eq_false, not_false_eq_true, forall_const, false_or, or_false, if_true, if_false]
          intro M3 e3
          refine ⟨rfl, rfl, fun M4 e4 => ?_⟩
          rw [r1_5] at e4
          have hO : ∀ b, b ≠ 1 → b ≠ 4 → ∀ j, mI M4 b j = mI M1 b j := fun b hb h4 j => by rw [e4, rd_ne (by omega), e3, rd_ne (by omega)]
          have hrep4 : ∀ {h a}, 100 ≤ h → RepC M1 h a → RepC M4 h a := fun q1 hr => hr.of (fun b hb j => hO b (by unfold inH at hb; omega) (by unfold inH at hb; omega) j)
          obtain ⟨h1, h2, h3, h4, ⟨h5, tp, ht, h6, h7⟩, h8, h9⟩ := hS
          have hr4 : ∀ i, i < 4 → RepC M4 (100 + i) (F.1 i) := fun i hi => hrep4 (by omega) (hR i hi)
          have oo : ∀ b, 5 ≤ b → b < 60 → ∀ j, mI M4 b j = mI M b j := fun b p q j => (hO b (by omega) (by omega) j).trans (hF b (by omega) (by omega) (by omega) j)
          refine c_filN (G := resG G F) hr4 (hQ F hs M4 ⟨hr4, ?_, ?_, fun F' hF' => ⟨fun i hi => hrep4 (by omega) (hrep (by omega) (by omega) (by omega) ((h4 F' hF').1 i hi)), ?_⟩, ⟨by rw [e4, rd_eq]; rfl, tp, ht, ?_, fun j hj => absurd hj (Nat.not_lt_zero _)⟩, ?_, ?_⟩ (fun b p q j => oo b (by omega) q j))
          · rw [e4, rd_ne (by omega), e3, rd_eq, hF 1 (by omega) (by omega) (by omega)]; exact hF3
          · rw [e4, rd_ne (by omega), e3, rd_ne (by omega), hF 1 (by omega) (by omega) (by omega)]; exact h3
          · rw [e4, rd_ne (by omega), e3, rd_ne (by omega), hF 1 (by omega) (by omega) (by omega)]; exact (h4 F' hF').2
          · rw [e4, rd_ne (by omega), e3, rd_ne (by omega), hF 4 (by omega) (by omega) (by omega)]; exact h6
          · exact ⟨by rw [oo 8 (by decide) (by decide)]; exact h8.1, fun k hk => by rw [oo 9 (by decide) (by decide)]; exact h8.2 k hk⟩
          · exact ⟨by rw [oo 10 (by decide) (by decide)]; exact h9.1, fun k hk => by rw [oo 11 (by decide) (by decide)]; exact h9.2 k hk⟩
        · simp (disch := omega) only [r1_0, r1_1, r2, r3, k2, k3, n4, nEF, nET, nV, nC, true_and, and_true, true_implies, false_implies, not_true_eq_false, not_false_eq_true, forall_const, false_or, or_false, if_true, if_false]
          have hc1 : CS F.2 M1 (104 + k) (F.1 k) := ⟨hrep (by omega) (by omega) (by omega) (hF4 k (by omega)), hok.2 k (by omega), by omega, by omega, Nat.le_trans hok.1 hB⟩
          refine ⟨kS (by omega) (by omega), c_become (by omega) (by omega) hc1 (fun M2 c2 F2 x1 e1 => ?_)⟩
          rw [e1, n1, nA]
          refine ih (k + 1) M2 (by omega) (by omega) (fun b p q r j => (F2.1 b (by unfold inH; omega) j).trans (hF b p q r j)) (fun i hi => ?_)
          by_cases d : i = k
          · subst d; exact c2.1
          · exact (hR i (by omega)).of (fun b hb j => F2.1 b (not_inH (by omega) (by omega) (by omega) (by omega) (by omega) b hb) j)
    exact lp 5 0 M (by omega) (by omega) (fun _ _ _ _ _ => rfl) (fun i hi => absurd hi (Nat.not_lt_zero _))
end PV
