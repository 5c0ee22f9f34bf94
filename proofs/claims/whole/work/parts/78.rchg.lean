-- PURE: the reference's changes: what is remembered, define, drop, setQuota, quota, copy
/-- only what is remembered -/
def FrH (M M' : MEM) : Prop := (∀ b j, b ≠ 54 → (b ≠ 40 ∨ j ≠ 27) → mI M' b j = mI M b j) ∧ M'.2 = M.2
/-- only one slot of the state, and the next number -/
def FrL (s : Nat) (M M' : MEM) : Prop := (∀ b j, (b ≠ 41 ∨ ((j < 310 * s ∨ 310 * s + 310 ≤ j) ∧ j ≠ 1240)) → mI M' b j = mI M b j) ∧ M'.2 = M.2
theorem FrL.refl (s : Nat) (M : MEM) : FrL s M M := ⟨fun _ _ _ => rfl, rfl⟩
theorem FrL.trans {s : Nat} {M M1 M2 : MEM} (h1 : FrL s M M1) (h2 : FrL s M1 M2) : FrL s M M2 := ⟨fun b j h => (h2.1 b j h).trans (h1.1 b j h), h2.2.trans h1.2⟩
theorem FrL.uI {s : Nat} {M : MEM} {j : Nat} {v : Int32} (h1 : (310 * s ≤ j ∧ j < 310 * s + 310) ∨ j = 1240) : FrL s M (uI M 41 j v) := ⟨fun b k h => rd_ne (by omega), rfl⟩
theorem RepR.of41 {M : MEM} {s : Nat} {a : SLT} (h0 : mI M 41 (310 * s + 0) = if sH a = true then 1 else 0) (h1 : sH a = true → mI M 41 (310 * s + 1) = nI (sK a) ∧ mI M 41 (310 * s + 2) = nI (sZ a) ∧ mI M 41 (310 * s + 3) = sS a ∧ mI M 41 (310 * s + 4) = nI (sP a) ∧ (∀ t, t < 4 → mI M 41 (310 * s + (5 + t)) = nI (sQ a t)) ∧ mI M 41 (310 * s + 9) = nI (sN a) ∧ ∀ i, i < sN a → ∀ p, p < 5 → mI M 41 (310 * s + (10 + 5 * i + p)) = pt (it a i) p) : RepR (fun k => mI M 41 (310 * s + k)) a := ⟨h0, h1⟩
section PR6
variable {M M' M1 M5 M7 : MEM} {G : GST} {B s t nx nx2 : Nat} {a b : SLT} {p p1 p2 p3 p4 p5 : Int32}
theorem q_remember (hR : SIMR M G) (hW : WFG B G) (s : Nat) {Q : MEM → Prop} (hQ : ∀ M', SIMR M' (remG G s) → FrH M M' → Q M') : wp_X6_remembers 40 M Q := by
  obtain ⟨h1, h2, h3, ⟨h4, h5⟩, h6, h7⟩ := hR
  have hl := hW.2.2.2.2.1
  have hok : ∀ {q}, q ∈ gHis G → ∀ i, i < 4 → sN (q.2.1 i) ≤ 60 := fun hq i hi => ((hW.2.2.1 _ hq).2 i hi).1
  have hcur : ∀ i, i < 4 → sN ((gCur G).1 i) ≤ 60 := fun i hi => (hW.1.2 i hi).1
  -- the copy of the state behind the others
  have copy : ∀ (M0 : MEM) (c : Nat), c ≤ 9 → mI M0 40 27 = nI c → (∀ j, mI M0 41 j = mI M 41 j) → (∀ M', (∀ b j, (b ≠ 54 ∨ j < 1241 * c ∨ 1241 * c + 1241 ≤ j) → (b ≠ 40 ∨ j ≠ 27) → mI M' b j = mI M0 b j) → (∀ k, k < 1241 → mI M' 54 (1241 * c + k) = mI M 41 k) → mI M' 40 27 = nI (c + 1) → M'.2 = M0.2 → Q M') → wp_X6_remembers_J50 40 Q M0 := by
    intro M0 c hc h27 h41 hfin
    refine ⟨1242, ?_⟩
    have lp : ∀ f k M3, k ≤ 1241 → 1241 - k < f → (∀ b j, (b ≠ 54 ∨ j < 1241 * c ∨ 1241 * c + k ≤ j) → mI M3 b j = mI M0 b j) → (∀ i, i < k → mI M3 54 (1241 * c + i) = mI M 41 i) → M3.2 = M0.2 → wp_X6_remembers_L52 40 Q f (nI k) M3 := by
      intro f
      induction f with
      | zero => intro k M3 _ h9; omega
      | succ f ih =>
        intro k M3 hk hf hO hV hE
        have c27 : mI M3 40 27 = nI c := by rw [hO 40 27 (by omega)]; exact h27
        unfold wp_X6_remembers_L52
        refine ⟨fun q M4 e4 => ?_, fun q => ?_⟩
        · have hk1 : 1241 ≤ k := (nI_leI (a := 1241) (by decide) (by omega)).mp q
          have ek : k = 1241 := by omega
          subst ek
          rw [c27, nI_1] at e4
          exact hfin M4 (fun b j p1 p2 => by rw [e4, rd_ne (by omega)]; exact hO b j (by omega)) (fun i hi => by rw [e4, rd_ne (by omega)]; exact hV i hi) (by rw [e4, rd_eq]) (by rw [e4]; exact hE)
        · have hk1 : k < 1241 := Nat.not_le.mp (fun z => q ((nI_leI (a := 1241) (by decide) (by omega)).mpr z))
          rw [c27, show (1241 : Int32) = nI 1241 from rfl, nM, nA, nC (by omega), nC (by omega)]
          refine ⟨rfl, nV (by omega) (by decide), rfl, nV (by omega) (by decide), fun M9 e9 x e => ?_⟩
          rw [show RF 40 25 = 54 from rfl, show RF 40 1 = 41 from rfl, hO 41 k (by omega), h41] at e9
          rw [e, nI_1]
          refine ih (k + 1) M9 (by omega) (by omega) (fun b j h => by rw [e9, rd_ne (by omega)]; exact hO b j (by omega)) (fun i hi => ?_) (by rw [e9]; exact hE)
          by_cases z : i = k
          · subst z; rw [e9, rd_eq]
          · rw [e9, rd_ne (by omega)]; exact hV i (by omega)
    exact lp 1242 0 M0 (by decide) (by decide) (fun _ _ _ => rfl) (fun i hi => absurd hi (Nat.not_lt_zero _)) rfl
  -- how it ends
  have fin : ∀ (M' : MEM) (c : Nat), c ≤ 9 → (c = (gHis G).length ∨ (c = 9 ∧ (gHis G).length = 10)) → (∀ b j, b ≠ 54 → (b ≠ 40 ∨ j ≠ 27) → mI M' b j = mI M b j) → (∀ k, k < 1241 → mI M' 54 (1241 * c + k) = mI M 41 k) → mI M' 40 27 = nI (c + 1) → (∀ j, j < c → j < (gHis G).length → ∀ k, k < 1241 → mI M' 54 (1241 * (c - 1 - j) + k) = mI M 54 (1241 * ((gHis G).length - 1 - j) + k)) → M'.2 = M.2 → Q M' := by
    intro M' c hc hcl hO hV h27 hold hE
    have hlen : (gHis (remG G s)).length = c + 1 := by
      show (((s, G.1) :: gHis G).take 10).length = c + 1
      rw [List.length_take, List.length_cons]; omega
    refine hQ M' ⟨?_, ?_, fun F hF => ?_, ⟨by rw [hlen]; exact h27, fun j hj => ?_⟩, ?_, ?_⟩ ⟨hO, hE⟩
    · exact RepF.ext h1 (fun k hk => hO 41 k (by decide) (Or.inl (by decide))) hcur
    · rw [hO 40 28 (by decide) (by decide)]; exact h2
    · have := h3 F hF
      rw [show mI M' 55 = mI M 55 from funext fun j => hO 55 j (by decide) (Or.inl (by decide))]; exact this
    · rw [hlen] at hj ⊢
      cases j with
      | zero =>
        have hg : (gHis (remG G s))[0]'(by rw [hlen]; omega) = (s, G.1) := rfl
        rw [hg]
        refine RepF.ext h1 (fun k hk => ?_) hcur
        show mI M' 54 (1241 * (c + 1 - 1 - 0) + k) = mI M 41 k
        rw [show c + 1 - 1 - 0 = c by omega]; exact hV k hk
      | succ j =>
        have hjl : j < (gHis G).length := by omega
        have hg : (gHis (remG G s))[j + 1]'(by rw [hlen]; omega) = (gHis G)[j] := take_get _ _ _ _ _ hjl
        rw [hg]
        refine RepF.ext (h5 j hjl) (fun k hk => ?_) (hok (List.getElem_mem hjl))
        show mI M' 54 (1241 * (c + 1 - 1 - (j + 1)) + k) = _
        rw [show c + 1 - 1 - (j + 1) = c - 1 - j by omega]; exact hold j (by omega) hjl k hk
    · exact ⟨by rw [hO 40 21 (by decide) (by decide)]; exact h6.1, fun k hk => by rw [hO 51 k (by decide) (Or.inl (by decide))]; exact h6.2 k hk⟩
    · exact ⟨by rw [hO 40 24 (by decide) (by decide)]; exact h7.1, fun k hk => by rw [hO 53 k (by decide) (Or.inl (by decide))]; exact h7.2 k hk⟩
  have q10 : nI (gHis G).length = 10 ↔ (gHis G).length = 10 := nI_eq (b := 10) (by omega) (by decide)
  refine ⟨rfl, ?_⟩
  rw [h4, q10]
  refine ⟨fun c => ?_, fun c => ⟨11170, ?_⟩⟩
  · refine copy M (gHis G).length (by omega) h4 (fun _ => rfl) (fun M' hO hV h27 hE => fin M' (gHis G).length (by omega) (Or.inl rfl) (fun b j p1 p2 => hO b j (Or.inl p1) p2) hV h27 (fun j hj _ k hk => hO 54 _ (Or.inr (Or.inl ?_)) (Or.inl (by decide))) hE)
    have : 1241 * ((gHis G).length - 1 - j + 1) ≤ 1241 * (gHis G).length := Nat.mul_le_mul_left _ (by omega)
    omega
  · have lp : ∀ f k M3, k ≤ 11169 → 11169 - k < f → (∀ b j, (b ≠ 54 ∨ k ≤ j) → mI M3 b j = mI M b j) → (∀ i, i < k → mI M3 54 i = mI M 54 (i + 1241)) → M3.2 = M.2 → wp_X6_remembers_L11 40 Q f (nI k) M3 := by
      intro f
      induction f with
      | zero => intro k M3 _ h9; omega
      | succ f ih =>
        intro k M3 hk hf hO hV hE
        unfold wp_X6_remembers_L11
        refine ⟨fun q M4 e4 => ?_, fun q => ?_⟩
        · have hk1 : 11169 ≤ k := (nI_leI (a := 11169) (by decide) (by omega)).mp q
          have ek : k = 11169 := by omega
          subst ek
          have e4' : M4 = uI M3 40 27 (nI 9) := by
            rw [e4, hO 40 27 (by omega), h4, c]; rfl
          refine copy M4 9 (by decide) (by rw [e4', rd_eq]) (fun j => by rw [e4', rd_ne (by omega)]; exact hO 41 j (by omega)) (fun M' hO2 hV2 h27 hE2 => fin M' 9 (by decide) (Or.inr ⟨rfl, c⟩) (fun b j p1 p2 => by rw [hO2 b j (Or.inl p1) p2, e4', rd_ne (by omega)]; exact hO b j (Or.inl p1)) hV2 h27 (fun j hj hjl k hk => ?_) (by rw [hE2, e4']; exact hE))
          rw [hO2 54 _ (Or.inr (Or.inl (by omega))) (Or.inl (by decide)), e4', rd_ne (by omega), hV _ (by omega), c]
          congr 1; omega
        · have hk1 : k < 11169 := Nat.not_le.mp (fun z => q ((nI_leI (a := 11169) (by decide) (by omega)).mpr z))
          rw [show (1241 : Int32) = nI 1241 from rfl, nA, nC (by omega), nC (by omega)]
          refine ⟨rfl, nV (by omega) (by decide), nV (by omega) (by decide), fun M9 e9 x e => ?_⟩
          rw [show RF 40 25 = 54 from rfl, hO 54 (k + 1241) (Or.inr (by omega))] at e9
          rw [e, nI_1]
          refine ih (k + 1) M9 (by omega) (by omega) (fun b j h => by rw [e9, rd_ne (by omega)]; exact hO b j (by omega)) (fun i hi => ?_) (by rw [e9]; exact hE)
          by_cases z : i = k
          · subst z; rw [e9, rd_eq]
          · rw [e9, rd_ne (by omega)]; exact hV i (by omega)
    exact lp 11170 0 M (by decide) (by decide) (fun _ _ _ => rfl) (fun i hi => absurd hi (Nat.not_lt_zero _)) rfl
/-- a slot is changed, and the next number -/
theorem SIMR.set (hR : SIMR M G) (hW : okF B (gCur G)) (hs : s < 4) (hF : FrL s M M') (hr : RepR (fun k => mI M' 41 (310 * s + k)) a) (hn : mI M' 41 1240 = nI nx) : SIMR M' (setG G s a nx) := by
  obtain ⟨h1, h2, h3, ⟨h4, h5⟩, h6, h7⟩ := hR
  have ho : ∀ b j, b ≠ 41 → mI M' b j = mI M b j := fun b j h => hF.1 b j (Or.inl h)
  refine ⟨⟨fun i hi => ?_, hn⟩, by rw [ho 40 28 (by decide)]; exact h2, fun F hF2 => ?_, ⟨by rw [ho 40 27 (by decide)]; exact h4, fun j hj => ?_⟩, ⟨by rw [ho 40 21 (by decide)]; exact h6.1, fun k hk => by rw [ho 51 k (by decide)]; exact h6.2 k hk⟩, by rw [ho 40 24 (by decide)]; exact h7.1, fun k hk => by rw [ho 53 k (by decide)]; exact h7.2 k hk⟩
  · show RepR _ (if i = s then a else G.1.1 i)
    by_cases c : i = s
    · subst c; rw [if_pos rfl]; exact hr
    · rw [if_neg c]
      exact RepR.ext (h1.1 i hi) (fun k hk => hF.1 41 _ (by omega)) (hW.2 i hi).1
  · rw [show mI M' 55 = mI M 55 from funext fun j => ho 55 j (by decide)]; exact h3 F hF2
  · rw [show mI M' 54 = mI M 54 from funext fun j => ho 54 j (by decide)]; exact h5 j hj
theorem FrH.R (h : FrH M M') : FrR M M' := ⟨fun b p j => h.1 b j (by omega) (by omega), by show M'.2.1 60 0 = M.2.1 60 0; rw [h.2], by rw [h.2]⟩
theorem FrL.R (h : FrL s M M') : FrR M M' := ⟨fun b p j => h.1 b j (by omega), by show M'.2.1 60 0 = M.2.1 60 0; rw [h.2], by rw [h.2]⟩
theorem FrH.rs (h : FrH M M') (hr : RS M s a nx) : RS M' s a nx := hr.of (fun j => h.1 41 j (by decide) (Or.inl (by decide)))
/-- a change's end -/
theorem end_chg (hW : WFG B G) (hs : s < 4) (e5 : M5 = uI M 40 0 0) (S7 : SIMR M7 (remG G s)) (F7 : FrH M5 M7) (hF : FrL s M7 M') (hr : RepR (fun k => mI M' 41 (310 * s + k)) a) (hn : mI M' 41 1240 = nI nx) : ENDR M (chgG G s a nx) 0 M' :=
  ⟨FrR.trans (by rw [e5]; exact FrR.uI (by decide) (by decide)) (F7.R.trans hF.R), S7.set (B := B) hW.1 hs hF hr hn, by rw [hF.1 40 0 (by omega), F7.1 40 0 (by decide) (by decide), e5, rd_eq]; rfl⟩
theorem q_next (hR : SIMR M G) : mI M 41 1240 = nI (gCur G).2 := hR.1.2
theorem q_keptBy (hr : RS M s a nx) {Q : Int32 → Prop} (hQ : Q (nI (sN a))) : wp_X6_keptBy 40 (nI s) M Q := by
  refine ⟨rfl, q_there hr (fun ha => e1 (q_many hr ha hQ)) (fun ha => e0 ?_)⟩
  have : sN a = 0 := by
    have := hr.2.1.2.1 ha
    show (sL a).length = 0
    rw [this]; rfl
  rw [this] at hQ; exact hQ
theorem q_begins {k z q : Nat} {sd : Int32} (hs : s < 4) {Q : MEM → Prop} (hQ : ∀ M', FrL s M M' → mI M' 41 1240 = mI M 41 1240 → RepR (fun j => mI M' 41 (310 * s + j)) (beginA k z sd q) → Q M') : wp_X6_begins 40 (nI s) (nI k) (nI z) sd (nI q) M Q := by
  refine ⟨rfl, q_sets (k := 0) hs (by decide) (q_sets (k := 1) hs (by decide) (q_sets (k := 2) hs (by decide) (q_sets (k := 3) hs (by decide) (q_sets (k := 4) hs (by decide) ⟨5, ?_⟩))))⟩
  have lp : ∀ f t M1, t ≤ 4 → 4 - t < f → FrL s M M1 → mI M1 41 1240 = mI M 41 1240 → mI M1 41 (310 * s + 0) = 1 → mI M1 41 (310 * s + 1) = nI k → mI M1 41 (310 * s + 2) = nI z → mI M1 41 (310 * s + 3) = sd → mI M1 41 (310 * s + 4) = nI q → (∀ u, u < t → mI M1 41 (310 * s + (5 + u)) = nI z) → wp_X6_begins_L40 40 (nI s) (nI z) Q f (nI t) M1 := by
    intro f
    induction f with
    | zero => intro t M1 _ h9; omega
    | succ f ih =>
      intro t M1 ht hf hF hN a0 a1 a2 a3 a4 a5
      unfold wp_X6_begins_L40
      rw [n4, nI_leI (by omega) (by omega)]
      refine ⟨fun c => q_sets (k := 9) hs (by decide) ?_, fun c => ?_⟩
      · refine hQ _ (hF.trans (FrL.uI (Or.inl ⟨by omega, by omega⟩))) (by rw [rd_ne (by omega)]; exact hN) (RepR.of41 (by rw [rd_ne (by omega)]; exact a0) (fun _ => ⟨by rw [rd_ne (by omega)]; exact a1, by rw [rd_ne (by omega)]; exact a2, by rw [rd_ne (by omega)]; exact a3, by rw [rd_ne (by omega)]; exact a4, fun u hu => ?_, by rw [rd_eq]; rfl, fun i hi => absurd hi (Nat.not_lt_zero _)⟩))
        rw [rd_ne (by omega)]; exact a5 u (by omega)
      · rw [n5, nA]
        refine q_sets hs (by omega) (fun x e => ?_)
        rw [e, n1, nA]
        refine ih (t + 1) _ (by omega) (by omega) (hF.trans (FrL.uI (Or.inl ⟨by omega, by omega⟩))) (by rw [rd_ne (by omega)]; exact hN) (by rw [rd_ne (by omega)]; exact a0) (by rw [rd_ne (by omega)]; exact a1) (by rw [rd_ne (by omega)]; exact a2) (by rw [rd_ne (by omega)]; exact a3) (by rw [rd_ne (by omega)]; exact a4) (fun u hu => ?_)
        by_cases c2 : u = t
        · subst c2; rw [rd_eq]
        · rw [rd_ne (by omega)]; exact a5 u (by omega)
  refine lp 5 0 _ (by decide) (by decide) ?_ ?_ ?_ ?_ ?_ ?_ ?_ (fun u hu => absurd hu (Nat.not_lt_zero _))
  · exact ((((FrL.uI (Or.inl ⟨by omega, by omega⟩)).trans (FrL.uI (Or.inl ⟨by omega, by omega⟩))).trans (FrL.uI (Or.inl ⟨by omega, by omega⟩))).trans (FrL.uI (Or.inl ⟨by omega, by omega⟩))).trans (FrL.uI (Or.inl ⟨by omega, by omega⟩))
  · rw [rd_ne (by omega), rd_ne (by omega), rd_ne (by omega), rd_ne (by omega), rd_ne (by omega)]
  · rw [rd_ne (by omega), rd_ne (by omega), rd_ne (by omega), rd_ne (by omega), rd_eq]
  · rw [rd_ne (by omega), rd_ne (by omega), rd_ne (by omega), rd_eq]
  · rw [rd_ne (by omega), rd_ne (by omega), rd_eq]
  · rw [rd_ne (by omega), rd_eq]
  · rw [rd_eq]
theorem q_define_1 (hR : SIMR M G) {Q : Int32 → MEM → Prop} (h1 : ¬ rng p1 0 3) (hQ : ∀ M', ENDR M G 1 M' → Q 0 M') : wp_X6_define 40 p1 p2 p3 p4 p5 M Q := ⟨rfl, q_slotF h1 (i0 (q_fails (k := 1) hR hQ))⟩
theorem q_define_2 (hR : SIMR M G) {Q : Int32 → MEM → Prop} (h1 : rng p1 0 3) (h2 : ¬ setOk p2 p3 p5) (hQ : ∀ M', ENDR M G 2 M' → Q 0 M') : wp_X6_define 40 p1 p2 p3 p4 p5 M Q := by
  obtain ⟨s, hs, rfl⟩ := slot_rng h1
  exact ⟨rfl, q_slotT hs (i1 (q_settings (fun w => absurd w h2) (fun _ => i0 (q_fails (k := 2) hR hQ))))⟩
theorem setOkN {k z q : Nat} (h1 : k ≤ 3) (h2 : 1 ≤ z) (h3 : z ≤ 12) (h4 : q ≤ 40) : setOk (nI k) (nI z) (nI q) := ⟨(rng_of (by omega)).mpr ⟨by omega, by omega⟩, (rng_of (by omega)).mpr ⟨by omega, by omega⟩, (rng_of (by omega)).mpr ⟨by omega, by omega⟩⟩
theorem q_define_0 (hR : SIMR M G) (hW : WFG B G) (hr : RS M s a nx) {Q : Int32 → MEM → Prop} {k z q : Nat} (h1 : k ≤ 3) (h2 : 1 ≤ z) (h3 : z ≤ 12) (h4 : q ≤ 40) (hQ : ∀ M', ENDR M (chgG G s (beginA k z p4 q) (gCur G).2) 0 M' → Q (nI (sN a)) M') : wp_X6_define 40 (nI s) (nI k) (nI z) p4 (nI q) M Q := by
  refine ⟨rfl, q_slotT hr.s4 (i1 (q_settings (fun _ => i1 (fun M5 e5 => q_remember ((z_end (k := 0) hR e5).2.1) hW s (fun M7 S7 F7 => q_keptBy (F7.rs (z_rs hr e5)) (q_begins hr.s4 (fun M11 F11 N11 R11 => hQ M11 (end_chg hW hr.s4 e5 S7 F7 F11 R11 (by rw [N11]; exact S7.1.2))))))) (fun w => absurd (setOkN h1 h2 h3 h4) w)))⟩
theorem q_drop_1 (hR : SIMR M G) {Q : Int32 → MEM → Prop} (h1 : ¬ rng p1 0 3) (hQ : ∀ M', ENDR M G 1 M' → Q 0 M') : wp_X6_drop 40 p1 M Q := ⟨rfl, q_slotF h1 (i0 (q_fails (k := 1) hR hQ))⟩
theorem q_drop_0 (hR : SIMR M G) (hW : WFG B G) (hr : RS M s a nx) {Q : Int32 → MEM → Prop} (hQ : ∀ M', ENDR M (chgG G s (emptyA a) (gCur G).2) 0 M' → Q (nI (sN a)) M') : wp_X6_drop 40 (nI s) M Q := by
  have hs := hr.s4
  refine ⟨rfl, q_slotT hr.s4 (i1 (fun M5 e5 => q_remember ((z_end (k := 0) hR e5).2.1) hW s (fun M7 S7 F7 => q_keptBy (F7.rs (z_rs hr e5)) (q_sets (k := 0) hr.s4 (by decide) (hQ _ (end_chg hW hr.s4 e5 S7 F7 (FrL.uI (Or.inl ⟨by omega, by omega⟩)) (RepR.of41 ?_ (fun w => absurd (show false = true from w) (by decide))) ?_))))))⟩
  · rw [rd_eq]; rfl
  · rw [rd_ne (by omega)]; exact S7.1.2
theorem q_setQuota_1 (hR : SIMR M G) {Q : Int32 → MEM → Prop} (h1 : ¬ (rng p1 0 3 ∧ rng p2 0 3)) (hQ : ∀ M', ENDR M G 1 M' → Q 0 M') : wp_X6_setQuota 40 p1 p2 p3 M Q :=
  ⟨rfl, q_isSlot (fun r => e1 (q_strF (fun w => h1 ⟨r, w⟩) (i0 (q_fails (k := 1) hR hQ)))) (fun _ => e0 (q_fails (k := 1) hR hQ))⟩
theorem q_setQuota_2 (hR : SIMR M G) {Q : Int32 → MEM → Prop} (h1 : rng p1 0 3 ∧ rng p2 0 3) (h2 : ¬ rng p3 0 12) (hQ : ∀ M', ENDR M G 2 M' → Q 0 M') : wp_X6_setQuota 40 p1 p2 p3 M Q := by
  obtain ⟨s, hs, rfl⟩ := slot_rng h1.1
  exact ⟨rfl, q_slotT hs (e1 (q_strT h1.2 (i1 (q_btF (by decide) (by decide) h2 (i0 (q_fails (k := 2) hR hQ))))))⟩
theorem q_setQuota_3 (hR : SIMR M G) (hr : RS M s a nx) {Q : Int32 → MEM → Prop} (h1 : rng p2 0 3) (h2 : rng p3 0 12) (ha : sH a = false) (hQ : ∀ M', ENDR M G 3 M' → Q 0 M') : wp_X6_setQuota 40 (nI s) p2 p3 M Q :=
  ⟨rfl, q_slotT hr.s4 (e1 (q_strT h1 (i1 (q_btT (by decide) (by decide) h2 (i1 (q_thF hr ha (i0 (q_fails (k := 3) hR hQ))))))))⟩
/-- a quota is set in the reference's slot -/
theorem RepR.putQ {v : Nat} (h : RepR (fun k => mI M 41 (310 * s + k)) a) (ht : t < 4) : RepR (fun k => mI (uI M 41 (310 * s + (5 + t)) (nI v)) 41 (310 * s + k)) (putQA a t v) := by
  obtain ⟨h0, h1⟩ := h
  refine RepR.of41 (by rw [rd_ne (by omega)]; exact h0) (fun ha => ?_)
  obtain ⟨a1, a2, a3, a4, a5, a6, a7⟩ := h1 ha
  refine ⟨by rw [rd_ne (by omega)]; exact a1, by rw [rd_ne (by omega)]; exact a2, by rw [rd_ne (by omega)]; exact a3, by rw [rd_ne (by omega)]; exact a4, fun u hu => ?_, by rw [rd_ne (by omega)]; exact a6, fun i hi p hp => by rw [rd_ne (by omega)]; exact a7 i hi p hp⟩
  show mI (uI M 41 (310 * s + (5 + t)) (nI v)) 41 (310 * s + (5 + u)) = nI (if u = t then v else sQ a u)
  by_cases c : u = t
  · subst c; rw [rd_eq, if_pos rfl]
  · rw [rd_ne (by omega), if_neg c]; exact a5 u hu
theorem q_setQuota_0 (hR : SIMR M G) (hW : WFG B G) (hr : RS M s a nx) {Q : Int32 → MEM → Prop} {t q : Nat} (ht : t < 4) (hq : q ≤ 12) (ha : sH a = true) (hQ : ∀ M', ENDR M (chgG G s (putQA a t q) (gCur G).2) 0 M' → Q (nI (sQ a t)) M') : wp_X6_setQuota 40 (nI s) (nI t) (nI q) M Q := by
  have hs := hr.s4
  refine ⟨rfl, q_slotT hr.s4 (e1 (q_strT (rng_slot ht) (i1 (q_btN 12 (by decide) (by decide) hq (by omega) (i1 (q_thT hr ha (i1 (fun M11 e11 => q_remember ((z_end (k := 0) hR e11).2.1) hW s (fun M13 S13 F13 => q_quo (F13.rs (z_rs hr e11)) ha ht ?_)))))))))⟩
  rw [n5, nA]
  refine q_sets hs (by omega) (hQ _ (end_chg hW hs e11 S13 F13 (FrL.uI (Or.inl ⟨by omega, by omega⟩)) (RepR.putQ (F13.rs (z_rs hr e11)).1 ht) ?_))
  rw [rd_ne (by omega)]; exact S13.1.2
theorem q_quota_1 (hR : SIMR M G) {Q : Int32 → MEM → Prop} (h1 : ¬ (rng p1 0 3 ∧ rng p2 0 3)) (hQ : ∀ M', ENDR M G 1 M' → Q 0 M') : wp_X6_quota 40 p1 p2 M Q :=
  ⟨rfl, q_isSlot (fun r => e1 (q_strF (fun w => h1 ⟨r, w⟩) (i0 (q_fails (k := 1) hR hQ)))) (fun _ => e0 (q_fails (k := 1) hR hQ))⟩
theorem q_quota_2 (hR : SIMR M G) (hr : RS M s a nx) {Q : Int32 → MEM → Prop} (h1 : rng p2 0 3) (ha : sH a = false) (hQ : ∀ M', ENDR M G 2 M' → Q 0 M') : wp_X6_quota 40 (nI s) p2 M Q :=
  ⟨rfl, q_slotT hr.s4 (e1 (q_strT h1 (i1 (q_thF hr ha (i0 (q_fails (k := 2) hR hQ))))))⟩
theorem q_quota_0 (hR : SIMR M G) (hr : RS M s a nx) {Q : Int32 → MEM → Prop} {t : Nat} (ht : t < 4) (ha : sH a = true) (hQ : ∀ M', ENDR M G 0 M' → Q (nI (sQ a t)) M') : wp_X6_quota 40 (nI s) (nI t) M Q :=
  ⟨rfl, q_slotT hr.s4 (e1 (q_strT (rng_slot ht) (i1 (q_thT hr ha (i1 (fun M9 e9 => q_quo (z_rs hr e9) ha ht (hQ M9 (z_end (k := 0) hR e9))))))))⟩
theorem q_copy_1 (hR : SIMR M G) {Q : Int32 → MEM → Prop} (h1 : ¬ (rng p1 0 3 ∧ rng p2 0 3)) (hQ : ∀ M', ENDR M G 1 M' → Q 0 M') : wp_X6_copy 40 p1 p2 M Q :=
  ⟨rfl, q_isSlot (fun r => e1 (q_slotF (fun w => h1 ⟨r, w⟩) (i0 (q_fails (k := 1) hR hQ)))) (fun _ => e0 (q_fails (k := 1) hR hQ))⟩
theorem q_copy_2 (hR : SIMR M G) (hr : RS M s a nx) {Q : Int32 → MEM → Prop} (h1 : rng p2 0 3) (ha : sH a = false) (hQ : ∀ M', ENDR M G 2 M' → Q 0 M') : wp_X6_copy 40 (nI s) p2 M Q := by
  obtain ⟨t, ht, rfl⟩ := slot_rng h1
  exact ⟨rfl, q_slotT hr.s4 (e1 (q_slotT ht (i1 (q_thF hr ha (i0 (q_fails (k := 2) hR hQ))))))⟩
theorem q_copy_0 (hR : SIMR M G) (hW : WFG B G) (hr : RS M s a nx) {Q : Int32 → MEM → Prop} {t : Nat} (ht : t < 4) (ha : sH a = true) (hQ : ∀ M', ENDR M (chgG G t a (gCur G).2) 0 M' → Q (nI (sN a)) M') : wp_X6_copy 40 (nI s) (nI t) M Q := by
  have hs := hr.s4
  have hn := hr.n
  refine ⟨rfl, q_slotT hs (e1 (q_slotT ht (i1 (q_thT hr ha (i1 (fun M9 e9 => q_remember ((z_end (k := 0) hR e9).2.1) hW t (fun M11 S11 F11 => ⟨311, ?_⟩)))))))⟩
  have r11 := F11.rs (z_rs hr e9)
  have lp : ∀ f k M1, k ≤ 310 → 310 - k < f → FrL t M11 M1 → mI M1 41 1240 = mI M11 41 1240 → (∀ i, i < k → mI M1 41 (310 * t + i) = mI M11 41 (310 * s + i)) → (∀ i, k ≤ i → i < 310 → mI M1 41 (310 * t + i) = mI M11 41 (310 * t + i)) → wp_X6_copy_L45 40 (nI s) (nI t) Q f (nI k) M1 := by
    intro f
    induction f with
    | zero => intro k M1 _ h9; omega
    | succ f ih =>
      intro k M1 hk hf hF hN hV hV2
      unfold wp_X6_copy_L45
      rw [n310, nI_leI (by omega) (by omega)]
      refine ⟨fun c => ?_, fun c => ?_⟩
      · have ek : k = 310 := by omega
        subst ek
        have hrep : RepR (fun i => mI M1 41 (310 * t + i)) a := RepR.ext r11.1 (fun i hi => hV i hi) hn
        have hfin := hQ M1 (end_chg hW ht e9 S11 F11 hF hrep (by rw [hN]; exact S11.1.2))
        exact q_many (a := a) (nx := nx) ⟨hrep, hr.2.1, ht, hr.2.2.2⟩ ha hfin
      · refine q_of hs (by omega) (q_sets ht (by omega) (fun x e => ?_))
        rw [e, n1, nA]
        have hsrc : mI M1 41 (310 * s + k) = mI M11 41 (310 * s + k) := by
          by_cases c2 : s = t
          · subst c2; exact hV2 k (Nat.le_refl _) (by omega)
          · exact hF.1 41 _ (by omega)
        rw [hsrc]
        refine ih (k + 1) _ (by omega) (by omega) (hF.trans (FrL.uI (Or.inl ⟨by omega, by omega⟩))) (by rw [rd_ne (by omega)]; exact hN) (fun i hi => ?_) (fun i h1 h2 => by rw [rd_ne (by omega)]; exact hV2 i (by omega) h2)
        by_cases c2 : i = k
        · subst c2; rw [rd_eq]
        · rw [rd_ne (by omega)]; exact hV i (by omega)
  exact lp 311 0 M11 (by decide) (by decide) (FrL.refl _ _) rfl (fun i hi => absurd hi (Nat.not_lt_zero _)) (fun _ _ _ => rfl)
end PR6
