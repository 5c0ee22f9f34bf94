-- PURE: the reference: its arrays, its state
def RepF (f : Nat → Int32) (F : FULL) : Prop := (∀ i, i < 4 → RepR (fun k => f (310 * i + k)) (F.1 i)) ∧ f 1240 = nI F.2
def SIMR (M : MEM) (G : GST) : Prop :=
  RepF (mI M 41) (gCur G) ∧ (mI M 40 28 = if (gSav G).isSome = true then 1 else 0) ∧ (∀ F, gSav G = some F → RepF (mI M 55) F) ∧
  (mI M 40 27 = nI (gHis G).length ∧ ∀ j (hj : j < (gHis G).length), RepF (fun k => mI M 54 (1241 * ((gHis G).length - 1 - j) + k)) ((gHis G)[j]).2) ∧
  (mI M 40 21 = nI (gInp G).length ∧ ∀ k (hk : k < (gInp G).length), mI M 51 k = nI (gInp G)[k]) ∧
  (mI M 40 24 = nI (gOut G).length ∧ ∀ k (hk : k < (gOut G).length), mI M 53 k = nI (gOut G)[k])
def keepR (b j : Nat) : Prop := b = 41 ∨ (b = 40 ∧ (j = 21 ∨ j = 24 ∨ j = 27 ∨ j = 28)) ∨ b = 51 ∨ b = 53 ∨ b = 54 ∨ b = 55
theorem RepR.ext {f g : Nat → Int32} {a : SLT} (h : RepR f a) (e : ∀ k, k < 310 → g k = f k) (hn : sN a ≤ 60) : RepR g a := by
  obtain ⟨h0, h1⟩ := h
  refine ⟨by rw [e 0 (by decide)]; exact h0, fun ha => ?_⟩
  obtain ⟨a1, a2, a3, a4, a5, a6, a7⟩ := h1 ha
  exact ⟨by rw [e _ (by decide)]; exact a1, by rw [e _ (by decide)]; exact a2, by rw [e _ (by decide)]; exact a3, by rw [e _ (by decide)]; exact a4, fun t ht => by rw [e _ (by omega)]; exact a5 t ht, by rw [e _ (by decide)]; exact a6, fun i hi p hp => by rw [e _ (by omega)]; exact a7 i hi p hp⟩
theorem RepF.ext {f g : Nat → Int32} {F : FULL} (h : RepF f F) (e : ∀ k, k < 1241 → g k = f k) (hn : ∀ i, i < 4 → sN (F.1 i) ≤ 60) : RepF g F :=
  ⟨fun i hi => RepR.ext (h.1 i hi) (fun k hk => e _ (by omega)) (hn i hi), by rw [e _ (by decide)]; exact h.2⟩
theorem SIMR.of {M M' : MEM} {G : GST} (h : SIMR M G) (e : ∀ b j, keepR b j → mI M' b j = mI M b j) : SIMR M' G := by
  obtain ⟨h1, h2, h3, ⟨h4, h5⟩, ⟨h6, h7⟩, h8, h9⟩ := h
  have e41 : mI M' 41 = mI M 41 := funext fun j => e _ j (Or.inl rfl)
  have e55 : mI M' 55 = mI M 55 := funext fun j => e _ j (by unfold keepR; omega)
  have e54 : mI M' 54 = mI M 54 := funext fun j => e _ j (by unfold keepR; omega)
  have e51 : mI M' 51 = mI M 51 := funext fun j => e _ j (by unfold keepR; omega)
  have e53 : mI M' 53 = mI M 53 := funext fun j => e _ j (by unfold keepR; omega)
  refine ⟨by rw [e41]; exact h1, by rw [e 40 28 (by unfold keepR; omega)]; exact h2, fun F hF => by rw [e55]; exact h3 F hF, ⟨by rw [e 40 27 (by unfold keepR; omega)]; exact h4, fun j hj => by rw [e54]; exact h5 j hj⟩, ⟨by rw [e 40 21 (by unfold keepR; omega)]; exact h6, fun k hk => by rw [e51]; exact h7 k hk⟩, by rw [e 40 24 (by unfold keepR; omega)]; exact h8, fun k hk => by rw [e53]; exact h9 k hk⟩
theorem SIMR.eq {M M' : MEM} {G : GST} (h : SIMR M G) (e : EqR M M') : SIMR M' G := h.of (fun b j k => e b (by unfold keepR at k; omega) (by unfold keepR at k; omega) j)
/-- all but the reference's own objects is as it was, as far as it is looked at -/
def FrR (M M' : MEM) : Prop := (∀ b, (b < 40 ∨ 60 ≤ b) → ∀ j, mI M' b j = mI M b j) ∧ mL M' 60 0 = mL M 60 0 ∧ M'.2.2 = M.2.2
theorem FrR.refl (M : MEM) : FrR M M := ⟨fun _ _ _ => rfl, rfl, rfl⟩
theorem FrR.trans {M M1 M2 : MEM} (h1 : FrR M M1) (h2 : FrR M1 M2) : FrR M M2 := ⟨fun b p j => (h2.1 b p j).trans (h1.1 b p j), h2.2.1.trans h1.2.1, h2.2.2.trans h1.2.2⟩
theorem FrR.uI {M : MEM} {b k : Nat} {v : Int32} (h1 : 40 ≤ b) (h2 : b < 60) : FrR M (uI M b k v) := ⟨fun c p j => rd_ne (by omega), rfl, rfl⟩
theorem FrR.uIs {M M1 : MEM} {b k : Nat} {v : Int32} (h : FrR M M1) (h1 : 40 ≤ b) (h2 : b < 60) : FrR M (Jvm.Pilot.CSampleBenchLaw_law_r6121_bd6fca.uI M1 b k v) := h.trans (FrR.uI h1 h2)
theorem FrR.fr {S : Nat → Prop} {M M' : MEM} (h : FrI S M M') (hs : ∀ b, S b → 40 ≤ b ∧ b < 60) : FrR M M' := ⟨fun b p j => h.1 b (fun q => by have := hs b q; omega) j, by show M'.2.1 60 0 = M.2.1 60 0; rw [h.2], by rw [h.2]⟩
theorem FrR.simc {M M' : MEM} {G : GST} (h : FrR M M') (hS : SIMC M G) : SIMC M' G := hS.of (fun b hb j => h.1 b (by unfold liveC at hb; omega) j)
/-- a call's end: what was thrown, and what stands -/
def ENDR (M : MEM) (G : GST) (k : Nat) (M' : MEM) : Prop := FrR M M' ∧ SIMR M' G ∧ mI M' 40 0 = nI k
theorem ENDR.pre {M M1 M' : MEM} {G : GST} {k : Nat} (h1 : FrR M M1) (h : ENDR M1 G k M') : ENDR M G k M' := ⟨h1.trans h.1, h.2⟩
/-- a slot of the reference -/
def RS (M : MEM) (s : Nat) (a : SLT) (nx : Nat) : Prop := RepR (fun k => mI M 41 (310 * s + k)) a ∧ WF nx a ∧ s < 4 ∧ nx ≤ 1100000
theorem RS.of {M M' : MEM} {s nx : Nat} {a : SLT} (h : RS M s a nx) (e : ∀ j, mI M' 41 j = mI M 41 j) : RS M' s a nx := by
  have e41 : mI M' 41 = mI M 41 := funext e
  unfold RS at h ⊢; rw [e41]; exact h
section PR1
variable {M : MEM} {G : GST} {B s nx : Nat} {a : SLT}
theorem SIMR.rs (h : SIMR M G) (hW : WFG B G) (hB : B ≤ 1100000) (hs : s < 4) : RS M s ((gCur G).1 s) (gCur G).2 :=
  ⟨h.1.1 s hs, hW.1.2 s hs, hs, Nat.le_trans hW.1.1 hB⟩
theorem q_fails {k : Nat} (hR : SIMR M G) {Q : Int32 → MEM → Prop} (hQ : ∀ M', ENDR M G k M' → Q 0 M') : wp_X6_fails 40 (nI k) M Q :=
  ⟨rfl, fun M1 e => hQ M1 ⟨by rw [e]; exact FrR.uI (by decide) (by decide), by rw [e]; exact hR.of (fun b j h => rd_ne (by unfold keepR at h; omega)), by rw [e, rd_eq]⟩⟩
theorem q_thrown {Q : Int32 → Prop} (hQ : Q (mI M 40 0)) : wp_X6_thrown 40 M Q := ⟨rfl, hQ⟩
theorem ix310 (s k : Nat) : (310 * nI s : Int32) + nI k = nI (310 * s + k) := by rw [n310, nM, nA]
theorem q_of {k : Nat} (hs : s < 4) (hk : k < 310) {Q : Int32 → Prop} (hQ : Q (mI M 41 (310 * s + k))) : wp_X6_of 40 (nI s) (nI k) M Q := by
  refine ⟨rfl, rfl, ?_⟩
  rw [ix310]
  exact ⟨nV (by omega) (by decide), by rw [nC (by omega)]; exact hQ⟩
theorem q_sets {k : Nat} {v : Int32} (hs : s < 4) (hk : k < 310) {Q : MEM → Prop} (hQ : Q (uI M 41 (310 * s + k) v)) : wp_X6_sets 40 (nI s) (nI k) v M Q := by
  refine ⟨rfl, rfl, ?_⟩
  rw [ix310]
  exact ⟨nV (by omega) (by decide), fun M3 e => by rw [nC (by omega)] at e; rw [e]; exact hQ⟩
theorem ixItm (s i p : Nat) : (((310 * nI s : Int32) + 10) + (5 * nI i)) + nI p = nI (310 * s + (10 + 5 * i + p)) := by
  rw [n310, n10, n5, nM, nM, nA, nA, nA]; congr 1; omega
theorem q_cell {i p : Nat} (hs : s < 4) (hi : i < 60) (hp : p < 5) {Q : Int32 → Prop} (hQ : Q (mI M 41 (310 * s + (10 + 5 * i + p)))) : wp_X6_item 40 (nI s) (nI i) (nI p) M Q := by
  refine ⟨rfl, rfl, ?_⟩
  rw [ixItm]
  exact ⟨nV (by omega) (by decide), by rw [nC (by omega)]; exact hQ⟩
theorem q_setItem {i : Nat} {v0 v1 v2 v3 v4 : Int32} (hs : s < 4) (hi : i < 60) {Q : MEM → Prop}
    (hQ : ∀ M', (∀ b j, (b ≠ 41 ∨ j < 310 * s + (10 + 5 * i) ∨ 310 * s + (10 + 5 * i) + 5 ≤ j) → mI M' b j = mI M b j) → mI M' 41 (310 * s + (10 + 5 * i)) = v0 → mI M' 41 (310 * s + (10 + 5 * i) + 1) = v1 → mI M' 41 (310 * s + (10 + 5 * i) + 2) = v2 → mI M' 41 (310 * s + (10 + 5 * i) + 3) = v3 → mI M' 41 (310 * s + (10 + 5 * i) + 4) = v4 → M'.2 = M.2 → Q M') : wp_X6_setsItem 40 (nI s) (nI i) v0 v1 v2 v3 v4 M Q := by
  refine ⟨rfl, fun x8 e8 => ?_⟩
  have e8' : x8 = nI (310 * s + (10 + 5 * i)) := by
    rw [e8, n310, n10, n5, nM, nM, nA, nA]; congr 1; omega
  subst e8'
  rw [n1, n2, n3, n4, nA, nA, nA, nA, nC (by omega), nC (by omega), nC (by omega), nC (by omega), nC (by omega)]
  refine ⟨rfl, nV (by omega) (by decide), fun M4 e4 => ⟨nV (by omega) (by decide), fun M6 e6 => ⟨nV (by omega) (by decide), fun M8 e8 => ⟨nV (by omega) (by decide), fun M10 e10 => ⟨nV (by omega) (by decide), fun M12 e12 => ?_⟩⟩⟩⟩⟩
  rw [show RF 40 1 = 41 from rfl] at e4 e6 e8 e10 e12
  refine hQ M12 (fun b j h => by rw [e12, rd_ne (by omega), e10, rd_ne (by omega), e8, rd_ne (by omega), e6, rd_ne (by omega), e4, rd_ne (by omega)]) ?_ ?_ ?_ ?_ ?_ (by rw [e12, e10, e8, e6, e4]; rfl)
  · rw [e12, rd_ne (by omega), e10, rd_ne (by omega), e8, rd_ne (by omega), e6, rd_ne (by omega), e4, rd_eq]
  · rw [e12, rd_ne (by omega), e10, rd_ne (by omega), e8, rd_ne (by omega), e6, rd_eq]
  · rw [e12, rd_ne (by omega), e10, rd_ne (by omega), e8, rd_eq]
  · rw [e12, rd_ne (by omega), e10, rd_eq]
  · rw [e12, rd_eq]
theorem q_there (hr : RS M s a nx) {Q : Int32 → Prop} (h1 : sH a = true → Q 1) (h0 : sH a = false → Q 0) : wp_X6_isThere 40 (nI s) M Q := by
  obtain ⟨⟨h, -⟩, -, hs, -⟩ := hr
  refine ⟨rfl, rfl, ?_⟩
  rw [n310, nM]
  refine ⟨nV (by omega) (by decide), ?_⟩
  rw [nC (by omega)]
  have h' : mI M 41 (310 * s) = if sH a = true then 1 else 0 := h
  rw [show RF 40 1 = 41 from rfl, h']
  cases hh : sH a with
  | true => exact ⟨fun w => absurd rfl w, fun _ => h1 hh⟩
  | false => exact ⟨fun _ => h0 hh, fun w => absurd w (by decide)⟩
theorem RS.n (hr : RS M s a nx) : sN a ≤ 60 := hr.2.1.1
theorem RS.s4 (hr : RS M s a nx) : s < 4 := hr.2.2.1
theorem RS.ok (hr : RS M s a nx) {i : Nat} (hi : i < sN a) : okI nx (it a i) := hr.2.1.2.2.2.1 i hi
theorem it_no {i : Nat} (h : sN a ≤ i) : it a i = (0, 0, 0, 0, 0) := by
  unfold it; rw [List.getD_eq_getElem?_getD, List.getElem?_eq_none h]; rfl
theorem RS.key (hr : RS M s a nx) (i : Nat) : kyA a i ≤ 99 := by
  by_cases c : i < sN a
  · exact (hr.ok c).2.1
  · show (it a i).2.1 ≤ 99; rw [it_no (by omega)]; decide
theorem RS.str (hr : RS M s a nx) (i : Nat) : stA a i < 4 := by
  by_cases c : i < sN a
  · exact (hr.ok c).2.2.1
  · show (it a i).2.2.1 < 4; rw [it_no (by omega)]; decide
theorem RS.wgt (hr : RS M s a nx) (i : Nat) : wtA a i ≤ 99 := by
  by_cases c : i < sN a
  · exact (hr.ok c).2.2.2.2.1
  · show (it a i).2.2.2.1 ≤ 99; rw [it_no (by omega)]; decide
theorem RS.num (hr : RS M s a nx) (i : Nat) : nmA a i < 1100000 := by
  by_cases c : i < sN a
  · exact Nat.lt_of_lt_of_le (hr.ok c).1 hr.2.2.2
  · show (it a i).1 < 1100000; rw [it_no (by omega)]; decide
theorem q_kind (hr : RS M s a nx) (ha : sH a = true) {Q : Int32 → Prop} (hQ : Q (nI (sK a))) : wp_X6_of 40 (nI s) 1 M Q :=
  q_of (k := 1) hr.s4 (by decide) (by have := (hr.1.2 ha).1; simp only at this; rw [this]; exact hQ)
theorem q_size (hr : RS M s a nx) (ha : sH a = true) {Q : Int32 → Prop} (hQ : Q (nI (sZ a))) : wp_X6_of 40 (nI s) 2 M Q :=
  q_of (k := 2) hr.s4 (by decide) (by have := (hr.1.2 ha).2.1; simp only at this; rw [this]; exact hQ)
theorem q_seed (hr : RS M s a nx) (ha : sH a = true) {Q : Int32 → Prop} (hQ : Q (sS a)) : wp_X6_of 40 (nI s) 3 M Q :=
  q_of (k := 3) hr.s4 (by decide) (by have := (hr.1.2 ha).2.2.1; simp only at this; rw [this]; exact hQ)
theorem q_reach (hr : RS M s a nx) (ha : sH a = true) {Q : Int32 → Prop} (hQ : Q (nI (sP a))) : wp_X6_of 40 (nI s) 4 M Q :=
  q_of (k := 4) hr.s4 (by decide) (by have := (hr.1.2 ha).2.2.2.1; simp only at this; rw [this]; exact hQ)
theorem q_quo (hr : RS M s a nx) (ha : sH a = true) {t : Nat} (ht : t < 4) {Q : Int32 → Prop} (hQ : Q (nI (sQ a t))) : wp_X6_of 40 (nI s) (5 + nI t) M Q := by
  rw [n5, nA]
  exact q_of hr.s4 (by omega) (by have := (hr.1.2 ha).2.2.2.2.1 t ht; simp only at this; rw [this]; exact hQ)
theorem q_many (hr : RS M s a nx) (ha : sH a = true) {Q : Int32 → Prop} (hQ : Q (nI (sN a))) : wp_X6_many 40 (nI s) M Q :=
  ⟨rfl, q_of (k := 9) hr.s4 (by decide) (by have := (hr.1.2 ha).2.2.2.2.2.1; simp only at this; rw [this]; exact hQ)⟩
theorem q_item (hr : RS M s a nx) (ha : sH a = true) {i p : Nat} (hi : i < sN a) (hp : p < 5) {Q : Int32 → Prop} (hQ : Q (pt (it a i) p)) : wp_X6_item 40 (nI s) (nI i) (nI p) M Q := by
  have hn := hr.n
  refine q_cell hr.s4 (by omega) hp ?_
  have := (hr.1.2 ha).2.2.2.2.2.2 i hi p hp
  simp only at this
  rw [this]; exact hQ
theorem q_mixAt (hr : RS M s a nx) (ha : sH a = true) {i : Nat} (hi : i < sN a) {Q : Int64 → Prop} (hQ : Q (lN (mx a i))) : wp_X6_mixAt 40 (nI s) (nI i) M Q := by
  obtain ⟨v1, -⟩ := hr.2.1.2.2.1 ha
  unfold mx at hQ
  refine ⟨rfl, q_seed hr ha (q_kind hr ha ?_)⟩
  rw [n3, nI_eq (by omega) (by decide)]
  refine ⟨fun c => q_item hr ha (p := 0) hi (by decide) (q_mixOf ?_), fun c => q_item hr ha (p := 1) hi (by decide) (q_mixOf ?_)⟩
  · rw [if_neg c] at hQ; exact hQ
  · rw [if_pos c] at hQ; exact hQ
theorem q_cand (hr : RS M s a nx) (ha : sH a = true) {i : Nat} (hi : i < sN a) {Q : Int32 → Prop} (hQ : Q (if candA a i = true then 1 else 0)) : wp_X6_isCandidate 40 (nI s) (nI i) M Q := by
  obtain ⟨v1, -⟩ := hr.2.1.2.2.1 ha
  have hn := hr.n
  unfold candA at hQ
  refine ⟨rfl, q_kind hr ha ?_⟩
  rw [n3, nI_eq (by omega) (by decide)]
  refine ⟨fun c => ⟨i + 1, ?_⟩, fun c => ?_⟩
  · rw [if_pos c] at hQ
    have lp : ∀ f j, j ≤ i → i - j < f → (∀ j', j' < j → kyA a j' ≠ kyA a i) → wp_X6_isCandidate_L14 40 (nI s) (nI i) M Q f (nI j) := by
      intro f
      induction f with
      | zero => intro j _ h9; omega
      | succ f ih =>
        intro j hj hf hb
        unfold wp_X6_isCandidate_L14
        rw [nI_leI (by omega) (by omega)]
        refine ⟨fun q => ?_, fun q => q_item hr ha (p := 1) (by omega) (by decide) (q_item hr ha (p := 1) hi (by decide) ?_)⟩
        · rw [if_pos (firstK_iff.mpr (fun j' h' => hb j' (by omega)))] at hQ; exact hQ
        · have k1 := hr.key j
          have k2 := hr.key i
          show (¬ nI (kyA a j) = nI (kyA a i) → _) ∧ (nI (kyA a j) = nI (kyA a i) → _)
          rw [nI_eq (by omega) (by omega)]
          refine ⟨fun z x e => ?_, fun z => ?_⟩
          · rw [e, n1, nA]
            refine ih (j + 1) (by omega) (by omega) (fun j' h' => ?_)
            by_cases e2 : j' = j
            · subst e2; exact z
            · exact hb j' (by omega)
          · rw [if_neg (fun w => firstK_iff.mp w j (by omega) z)] at hQ; exact hQ
    exact lp _ 0 (Nat.zero_le _) (by omega) (fun j' h' => absurd h' (Nat.not_lt_zero _))
  · rw [if_neg c] at hQ; exact hQ
theorem q_ahead (hr : RS M s a nx) (ha : sH a = true) {i j : Nat} (hi : i < sN a) (hj : j < i) {Q : Int32 → Prop} (hQ : Q (if befA a i j = true then 1 else 0)) : wp_X6_isAhead 40 (nI s) (nI i) (nI j) M Q := by
  obtain ⟨v1, -⟩ := hr.2.1.2.2.1 ha
  have hn := hr.n
  have mi := mx_pos a i
  have mj := mx_pos a j
  have wi := hr.wgt i
  have wj := hr.wgt j
  have h65 : ∀ (x y : Nat) (r : Int64) (sg : Int32), x < 2 ^ 62 → y < 2 ^ 62 → r * sg.toInt64 = lN y → (befA a i j = true ↔ x < y) → wp_X6_isAhead_J65 (nI i) (nI j) Q (lN x) r sg := fun x y r sg hx hy e hb x7 e7 => by
    rw [e7, e, pk_lEQ (by omega) (by omega), pk_lLE (by omega) (by omega), nI_leI (by omega) (by omega)]
    refine ⟨fun z => ⟨fun _ => ?_, fun w => absurd (by omega : j ≤ i) w⟩, fun z => ⟨fun w => ?_, fun w => ?_⟩⟩
    · rw [if_neg (fun w => by have := hb.mp w; omega)] at hQ; exact hQ
    · rw [if_neg (fun w2 => by have := hb.mp w2; omega)] at hQ; exact hQ
    · rw [if_pos (hb.mpr (by omega))] at hQ; exact hQ
  unfold befA at h65
  refine ⟨rfl, q_kind hr ha ?_⟩
  rw [n1, nI_eq (by omega) (by decide)]
  refine ⟨fun c => q_mixAt hr ha hi ⟨fun _ x5 e5 => q_mixAt hr ha (by omega) ⟨fun _ => ?_, fun w => absurd rfl w⟩, fun w => absurd rfl w⟩, fun c => q_mixAt hr ha hi ⟨fun w => absurd w (by decide), fun _ => q_item hr ha (p := 3) (by omega) (by decide) (fun x5 e5 => q_mixAt hr ha (by omega) ⟨fun w => absurd w (by decide), fun _ => q_item hr ha (p := 3) hi (by decide) ?_⟩)⟩⟩
  · have e5' : x5 = lN (mx a i) := by rw [e5]; exact (lN_w (x := mx a i) (w := 1) (by decide)).trans (by rw [Nat.mul_one])
    rw [e5']
    refine h65 (mx a i) (mx a j) _ _ (by omega) (by omega) ((lN_w (x := mx a j) (w := 1) (by decide)).trans (by rw [Nat.mul_one])) ?_
    rw [if_neg c]; simp
  · have b1 : mx a i * wtA a j ≤ 2147483648 * 99 := Nat.mul_le_mul mi.2 wj
    have b2 : mx a j * wtA a i ≤ 2147483648 * 99 := Nat.mul_le_mul mj.2 wi
    have e5' : x5 = lN (mx a i * wtA a j) := by rw [e5]; exact lN_w (x := mx a i) (w := wtA a j) (by omega)
    rw [e5']
    refine h65 (mx a i * wtA a j) (mx a j * wtA a i) _ _ (by omega) (by omega) (lN_w (x := mx a j) (w := wtA a i) (by omega)) ?_
    rw [if_pos c]; simp
end PR1
