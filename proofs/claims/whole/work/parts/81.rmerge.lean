-- PURE: the reference: merge, allocate
section PR9
variable {M M' M1 M5 M7 : MEM} {G : GST} {B s t nx nx2 : Nat} {a b : SLT} {p p1 p2 p3 p4 p5 : Int32}
theorem joinA_eq (hb : sP b ≠ 0 → True) : joinA a b = (b.1, b.2.1, b.2.2.1, (mrg (sL a) (sL b)).drop (if sP b = 0 then 0 else (mrg (sL a) (sL b)).length - sP b)) := by
  obtain ⟨f1, f2, f3⟩ := fold_set (mrg (sL a) (sL b)) (b.1, b.2.1, b.2.2.1, [])
  have f4 := fold_list (mrg (sL a) (sL b)) (b.1, b.2.1, b.2.2.1, []) (fun _ => Nat.zero_le _)
  have e4 : sL (joinA a b) = (mrg (sL a) (sL b)).drop (if sP b = 0 then 0 else (mrg (sL a) (sL b)).length - sP b) := by
    unfold joinA
    rw [f4]
    show (if sP b = 0 then [] ++ mrg (sL a) (sL b) else ([] ++ mrg (sL a) (sL b)).drop (([] ++ mrg (sL a) (sL b)).length - sP b)) = _
    rw [List.nil_append]
    split <;> rfl
  refine Prod.ext f1 (Prod.ext f2 (Prod.ext f3 e4))
theorem q_merge_1 (hR : SIMR M G) {Q : Int32 → MEM → Prop} (h1 : ¬ (rng p1 0 3 ∧ rng p2 0 3)) (hQ : ∀ M', ENDR M G 1 M' → Q 0 M') : wp_X6_merge 40 p1 p2 M Q :=
  ⟨rfl, q_isSlot (fun r => e1 (q_slotF (fun w => h1 ⟨r, w⟩) (i0 (q_fails (k := 1) hR hQ)))) (fun _ => e0 (q_fails (k := 1) hR hQ))⟩
theorem q_merge_2 (hR : SIMR M G) (hr : RS M s a nx) (hr2 : RS M t b nx2) {Q : Int32 → MEM → Prop} (h : ¬ (sH a = true ∧ sH b = true)) (hQ : ∀ M', ENDR M G 2 M' → Q 0 M') : wp_X6_merge 40 (nI s) (nI t) M Q :=
  ⟨rfl, q_slotT hr.s4 (e1 (q_slotT hr2.s4 (i1 (q_there hr (fun ha => e1 (q_thF hr2 (by cases hb : sH b with | false => rfl | true => exact absurd ⟨ha, hb⟩ h) (i0 (q_fails (k := 2) hR hQ)))) (fun _ => e0 (q_fails (k := 2) hR hQ))))))⟩
theorem q_fields (hr : RS M s a nx) (hr2 : RS M t b nx2) (ha : sH a = true) (hb : sH b = true) {Q : Int32 → MEM → Prop} (h1 : likeA b a → wp_X6_merge_L44 40 (nI s) (nI t) M Q 1 4) (h0 : ¬ likeA b a → wp_X6_fails 40 3 M (fun r_45 M_46 => Q r_45 M_46)) : wp_X6_merge_L44 40 (nI s) (nI t) M Q 4 1 := by
  obtain ⟨v1, v2, v3, -⟩ := hr.2.1.2.2.1 ha
  obtain ⟨w1, w2, w3, -⟩ := hr2.2.1.2.2.1 hb
  refine ⟨fun w => absurd w (by decide), fun _ => q_kind hr ha (q_kind hr2 hb ?_)⟩
  rw [nI_eq (by omega) (by omega)]
  refine ⟨fun c1 x e => ?_, fun c => h0 (fun w => c w.1.symm)⟩
  rw [e, show (1 + 1 : Int32) = 2 from rfl]
  refine ⟨fun w => absurd w (by decide), fun _ => q_size hr ha (q_size hr2 hb ?_)⟩
  rw [nI_eq (by omega) (by omega)]
  refine ⟨fun c2 x e => ?_, fun c => h0 (fun w => c w.2.1.symm)⟩
  rw [e, show (2 + 1 : Int32) = 3 from rfl]
  refine ⟨fun w => absurd w (by decide), fun _ => q_seed hr ha (q_seed hr2 hb ⟨fun c3 x e => ?_, fun c => h0 (fun w => c w.2.2.symm)⟩)⟩
  rw [e, show (3 + 1 : Int32) = 4 from rfl]
  exact h1 ⟨c1.symm, c2.symm, c3.symm⟩
theorem mrg_60 (hr : RS M s a nx) (hr2 : RS M t b nx2) : (mrg (sL a) (sL b)).length ≤ 120 := by
  have := mrg_len_le (sL a) (sL b)
  have h1 : (sL a).length ≤ 60 := hr.n
  have h2 : (sL b).length ≤ 60 := hr2.n
  omega
theorem q_merge_3 (hR : SIMR M G) (hr : RS M s a nx) (hr2 : RS M t b nx2) {Q : Int32 → MEM → Prop} (ha : sH a = true) (hb : sH b = true) (h : ¬ (likeA b a ∧ (sP b = 0 → (mrg (sL a) (sL b)).length ≤ 60))) (hQ : ∀ M', ENDR M G 3 M' → Q 0 M') : wp_X6_merge 40 (nI s) (nI t) M Q := by
  obtain ⟨w1, w2, w3, w4, -⟩ := hr2.2.1.2.2.1 hb
  have h120 := mrg_60 hr hr2
  refine ⟨rfl, q_slotT hr.s4 (e1 (q_slotT hr2.s4 (i1 (q_thT hr ha (e1 (q_thT hr2 hb (i1 ⟨4, q_fields hr hr2 ha hb (fun hl => ⟨fun _ => q_merges hr hr2 ha hb (fun M15 P15 F15 => q_reach (F15.rs hr2) hb ?_), fun w => absurd (by decide) w⟩) (fun _ => q_fails (k := 3) hR hQ)⟩)))))))⟩
  have hc : sP b = 0 ∧ 60 < (mrg (sL a) (sL b)).length := by
    refine Decidable.byContradiction (fun w => h ⟨hl, fun e => ?_⟩)
    omega
  have q0 : nI (sP b) = 0 ↔ sP b = 0 := nI_eq (b := 0) (by omega) (by decide)
  rw [q0, P15.1, n60, nI_leI (by omega) (by decide)]
  exact ⟨fun c => absurd hc.1 c, fun _ => ⟨fun c => absurd c (by omega), fun _ => q_fails (k := 3) (F15.sim hR) (fun M' h => hQ M' (h.pre F15.R))⟩⟩
theorem q_merge_0 (hR : SIMR M G) (hW : WFG B G) (hr : RS M s a nx) (hr2 : RS M t b nx2) {Q : Int32 → MEM → Prop} (ha : sH a = true) (hb : sH b = true) (hl : likeA b a) (h60 : sP b = 0 → (mrg (sL a) (sL b)).length ≤ 60) (hQ : ∀ M', ENDR M (chgG G t (joinA a b) (gCur G).2) 0 M' → Q (nI (sN (joinA a b))) M') : wp_X6_merge 40 (nI s) (nI t) M Q := by
  obtain ⟨w1, w2, w3, w4, -⟩ := hr2.2.1.2.2.1 hb
  have h120 := mrg_60 hr hr2
  have ht := hr2.s4
  have hje := joinA_eq (a := a) (b := b) (fun _ => trivial)
  refine ⟨rfl, q_slotT hr.s4 (e1 (q_slotT hr2.s4 (i1 (q_thT hr ha (e1 (q_thT hr2 hb (i1 ⟨4, q_fields hr hr2 ha hb (fun _ => ⟨fun _ => q_merges hr hr2 ha hb (fun M15 P15 F15 => q_reach (F15.rs hr2) hb ?_), fun w => absurd (by decide) w⟩) (fun w => absurd hl w)⟩)))))))⟩
  have q0 : nI (sP b) = 0 ↔ sP b = 0 := nI_eq (b := 0) (by omega) (by decide)
  have j108 : wp_X6_merge_J108 40 (nI t) Q M15 (nI (sP b)) := by
    intro M18 e18
    refine q_remember ((z_end (k := 0) (F15.sim hR) e18).2.1) hW t (fun M20 S20 F20 => ?_)
    have P20 : MRA M20 (mrg (sL a) (sL b)) := ⟨by rw [F20.1 40 10 (by decide) (by decide), e18, rd_ne (by omega)]; exact P15.1, fun k hk p hp => by rw [F20.1 47 _ (by decide) (Or.inl (by decide)), e18, rd_ne (by omega)]; exact P15.2 k hk p hp⟩
    have r20 := F20.rs (z_rs (F15.rs hr2) e18)
    have j139 : ∀ bg, bg = (if sP b = 0 then 0 else (mrg (sL a) (sL b)).length - sP b) → wp_X6_merge_J139 40 (nI t) Q M20 (nI bg) := fun bg hbg => by
      rw [← hbg] at hje
      have hbl : bg ≤ (mrg (sL a) (sL b)).length := by rw [hbg]; split <;> omega
      have hle : (mrg (sL a) (sL b)).length - bg ≤ 60 := by
        rw [hbg]
        split
        · rename_i z; have := h60 z; omega
        · omega
      refine ⟨(mrg (sL a) (sL b)).length + 1, ?_⟩
      generalize mrg (sL a) (sL b) = R at *
      have g0 := r20.1.1
      obtain ⟨a1, a2, a3, a4, a5, a6, a7⟩ := r20.1.2 hb
      have lp : ∀ f k M1, bg ≤ k → k ≤ R.length → R.length - k < f → FrL t M20 M1 → mI M1 41 1240 = mI M20 41 1240 → (∀ j, j < 9 → mI M1 41 (310 * t + j) = mI M20 41 (310 * t + j)) → (∀ j, j < k - bg → ∀ p, p < 5 → mI M1 41 (310 * t + (10 + 5 * j + p)) = pt (R.getD (bg + j) (0, 0, 0, 0, 0)) p) → wp_X6_merge_L145 40 (nI t) Q (nI bg) f (nI k) M1 := by
        intro f
        induction f with
        | zero => intro k M1 _ _ h9; omega
        | succ f ih =>
          intro k M1 hk1 hk2 hf hF hN hk hA
          have P1 : MRA M1 R := ⟨by rw [hF.1 40 10 (Or.inl (by decide))]; exact P20.1, fun k hk p hp => by rw [hF.1 47 _ (Or.inl (by decide))]; exact P20.2 k hk p hp⟩
          unfold wp_X6_merge_L145
          rw [P1.1, nI_leI (by omega) (by omega)]
          refine ⟨fun c => q_sets (k := 9) ht (by decide) ?_, fun c x6 e6 => ?_⟩
          · have ek : k = R.length := by omega
            subst ek
            rw [nS hbl]
            have hlen : (R.drop bg).length = R.length - bg := List.length_drop ..
            have hrep : RepR (fun j => mI (uI M1 41 (310 * t + 9) (nI (R.length - bg))) 41 (310 * t + j)) (joinA a b) := by
              rw [hje]
              refine RepR.of41 ?_ (fun _ => ⟨?_, ?_, ?_, ?_, fun u hu => ?_, ?_, fun j hj p hp => ?_⟩)
              · rw [rd_ne (by omega), hk 0 (by decide)]; exact g0
              · rw [rd_ne (by omega), hk 1 (by decide)]; exact a1
              · rw [rd_ne (by omega), hk 2 (by decide)]; exact a2
              · rw [rd_ne (by omega), hk 3 (by decide)]; exact a3
              · rw [rd_ne (by omega), hk 4 (by decide)]; exact a4
              · rw [rd_ne (by omega), hk (5 + u) (by omega)]; exact a5 u hu
              · rw [rd_eq]; show nI (R.length - bg) = nI (R.drop bg).length; rw [hlen]
              · have hj' : j < R.length - bg := by
                  have : j < (R.drop bg).length := hj
                  rw [hlen] at this; exact this
                rw [rd_ne (by omega), hA j hj' p hp, it_of]
                congr 1
                simp only [List.getD_eq_getElem?_getD, List.getElem?_drop]
            have hfin := hQ _ ((end_chg hW ht e18 S20 F20 (hF.trans (FrL.uI (Or.inl ⟨by omega, by omega⟩))) hrep (by rw [rd_ne (by omega), hN]; exact S20.1.2)).pre F15.R)
            have hsn : sN (joinA a b) = R.length - bg := by rw [hje]; exact hlen
            rw [hsn] at hfin
            exact ⟨rfl, q_of (k := 9) ht (by decide) (by rw [rd_eq]; exact hfin)⟩
          · have e6' : x6 = nI (5 * k) := by rw [e6, n5, nM]
            subst e6'
            rw [n1, n2, n3, n4, nA, nA, nA, nA, nC (by omega), nC (by omega), nC (by omega), nC (by omega), nC (by omega), show RF 40 9 = 47 from rfl]
            refine ⟨rfl, nV (by omega) (by decide), nV (by omega) (by decide), nV (by omega) (by decide), nV (by omega) (by decide), nV (by omega) (by decide), ?_⟩
            have pk := fun p hp => P1.2 k (by omega) p hp
            have p0 := pk 0 (by decide)
            rw [Nat.add_zero] at p0
            rw [p0, pk 1 (by decide), pk 2 (by decide), pk 3 (by decide), pk 4 (by decide), nS hk1]
            refine q_setItem ht (by omega) (fun M9 o9 w0 w1 w2 w3 w4 wE y e => ?_)
            rw [e, nA]
            refine ih (k + 1) M9 (by omega) (by omega) (by omega) (hF.trans ⟨fun b j h => o9 b j (by omega), wE⟩) (by rw [o9 41 1240 (by omega)]; exact hN) (fun j hj => by rw [o9 41 _ (by omega)]; exact hk j hj) (fun j hj p hp => ?_)
            by_cases c3 : j = k - bg
            · subst c3
              rw [show bg + (k - bg) = k by omega]
              rcases (show p = 0 ∨ p = 1 ∨ p = 2 ∨ p = 3 ∨ p = 4 by omega) with rfl | rfl | rfl | rfl | rfl
              · exact w0
              · exact w1
              · exact w2
              · exact w3
              · exact w4
            · rw [o9 41 _ (by omega)]; exact hA j (by omega) p hp
      exact lp _ bg M20 (Nat.le_refl _) hbl (by omega) (FrL.refl _ _) rfl (fun _ _ => rfl) (fun j hj => absurd hj (by omega))
    refine ⟨fun c => ?_, fun c => ?_⟩
    · have hp : sP b = 0 := by have := (nI_leI (b := 0) (by omega) (by decide)).mp c; omega
      exact j139 0 (by rw [if_pos hp])
    · have hp : sP b ≠ 0 := fun e => c (by rw [e]; decide)
      rw [P20.1, nI_leI (by omega) (by omega)]
      refine ⟨fun c2 => j139 0 (by rw [if_neg hp]; omega), fun c2 => ?_⟩
      rw [nS (by omega)]
      exact j139 _ (by rw [if_neg hp])
  rw [q0, P15.1, n60, nI_leI (by omega) (by decide)]
  exact ⟨fun _ => j108, fun c => ⟨fun _ => j108, fun w => absurd (h60 c) w⟩⟩
/-- the allocation's cells -/
def FrA (s : Nat) (M M' : MEM) : Prop := (∀ b j, b ≠ 45 → b ≠ 46 → (b ≠ 41 ∨ (j < 310 * s ∨ 310 * s + 310 ≤ j)) → mI M' b j = mI M b j) ∧ M'.2 = M.2
theorem FrA.trans {M M1 M2 : MEM} (h1 : FrA s M M1) (h2 : FrA s M1 M2) : FrA s M M2 := ⟨fun b j p q r => (h2.1 b j p q r).trans (h1.1 b j p q r), h2.2.trans h1.2⟩
theorem FrA.uI {c j : Nat} {v : Int32} (h : c = 45 ∨ c = 46 ∨ (c = 41 ∧ 310 * s ≤ j ∧ j < 310 * s + 310)) : FrA s M (uI M c j v) := ⟨fun b k p q r => rd_ne (by omega), rfl⟩
theorem end_alc (hW : WFG B G) (hs : s < 4) (e5 : M5 = uI M 40 0 0) (S7 : SIMR M7 (remG G s)) (F7 : FrH M5 M7) (hF : FrA s M7 M') (hr : RepR (fun k => mI M' 41 (310 * s + k)) a) : ENDR M (chgG G s a (gCur G).2) 0 M' := by
  obtain ⟨h1, h2, h3, ⟨h4, h5⟩, h6, h7⟩ := S7
  have ho : ∀ b j, b ≠ 41 → b ≠ 45 → b ≠ 46 → mI M' b j = mI M7 b j := fun b j h p q => hF.1 b j p q (Or.inl h)
  refine ⟨FrR.trans (by rw [e5]; exact FrR.uI (by decide) (by decide)) (F7.R.trans ⟨fun b p j => hF.1 b j (by omega) (by omega) (by omega), by show M'.2.1 60 0 = M7.2.1 60 0; rw [hF.2], by rw [hF.2]⟩), ⟨⟨fun i hi => ?_, ?_⟩, by rw [ho 40 28 (by decide) (by decide) (by decide)]; exact h2, fun F hF2 => ?_, ⟨by rw [ho 40 27 (by decide) (by decide) (by decide)]; exact h4, fun j hj => ?_⟩, ⟨by rw [ho 40 21 (by decide) (by decide) (by decide)]; exact h6.1, fun k hk => by rw [ho 51 k (by decide) (by decide) (by decide)]; exact h6.2 k hk⟩, by rw [ho 40 24 (by decide) (by decide) (by decide)]; exact h7.1, fun k hk => by rw [ho 53 k (by decide) (by decide) (by decide)]; exact h7.2 k hk⟩, by rw [ho 40 0 (by decide) (by decide) (by decide), F7.1 40 0 (by decide) (by decide), e5, rd_eq]; rfl⟩
  · show RepR _ (if i = s then a else G.1.1 i)
    by_cases c : i = s
    · subst c; rw [if_pos rfl]; exact hr
    · rw [if_neg c]
      exact RepR.ext (h1.1 i hi) (fun k hk => hF.1 41 _ (by decide) (by decide) (by omega)) (hW.1.2 i hi).1
  · rw [hF.1 41 1240 (by decide) (by decide) (by omega)]; exact h1.2
  · rw [show mI M' 55 = mI M7 55 from funext fun j => ho 55 j (by decide) (by decide) (by decide)]; exact h3 F hF2
  · rw [show mI M' 54 = mI M7 54 from funext fun j => ho 54 j (by decide) (by decide) (by decide)]; exact h5 j hj
theorem RepR.sq {f : Nat → Int32} {q q' : Nat → Nat} (h : RepR f (setQ a q)) (e : ∀ t, t < 4 → q t = q' t) : RepR f (setQ a q') := by
  obtain ⟨h0, h1⟩ := h
  refine ⟨h0, fun ha => ?_⟩
  obtain ⟨a1, a2, a3, a4, a5, a6, a7⟩ := h1 ha
  exact ⟨a1, a2, a3, a4, fun t ht => (a5 t ht).trans (congrArg nI (e t ht)), a6, a7⟩
theorem q_alloc_1 (hR : SIMR M G) {Q : Int32 → MEM → Prop} (h1 : ¬ rng p1 0 3) (hQ : ∀ M', ENDR M G 1 M' → Q 0 M') : wp_X6_allocate 40 p1 p2 p3 M Q := ⟨rfl, q_slotF h1 (i0 (q_fails (k := 1) hR hQ))⟩
theorem q_alloc_2 (hR : SIMR M G) {Q : Int32 → MEM → Prop} (h1 : rng p1 0 3) (h2 : ¬ rng p2 0 12) (hQ : ∀ M', ENDR M G 2 M' → Q 0 M') : wp_X6_allocate 40 p1 p2 p3 M Q := by
  obtain ⟨s, hs, rfl⟩ := slot_rng h1
  exact ⟨rfl, q_slotT hs (i1 (q_btF (by decide) (by decide) h2 (i0 (q_fails (k := 2) hR hQ))))⟩
theorem q_alloc_3 (hR : SIMR M G) (hr : RS M s a nx) {Q : Int32 → MEM → Prop} (h2 : rng p2 0 12) (ha : sH a = false) (hQ : ∀ M', ENDR M G 3 M' → Q 0 M') : wp_X6_allocate 40 (nI s) p2 p3 M Q :=
  ⟨rfl, q_slotT hr.s4 (i1 (q_btT (by decide) (by decide) h2 (i1 (q_thF hr ha (i0 (q_fails (k := 3) hR hQ))))))⟩
theorem q_alloc_4 (hR : SIMR M G) (hr : RS M s a nx) {Q : Int32 → MEM → Prop} (h2 : rng p2 0 12) (ha : sH a = true) (hn : sN a = 0) (hQ : ∀ M', ENDR M G 4 M' → Q 0 M') : wp_X6_allocate 40 (nI s) p2 p3 M Q :=
  ⟨rfl, q_slotT hr.s4 (i1 (q_btT (by decide) (by decide) h2 (i1 (q_thT hr ha (i1 (q_many hr ha (by rw [hn]; exact i0 (q_fails (k := 4) hR hQ))))))))⟩
theorem all4_p (hs : ∀ i, stA a i < 4) (h1 : ∀ i, i < sN a → 1 ≤ wtA a i) (w : Bool) (hn : 0 < sN a) : 0 < all4 a w := by
  obtain ⟨m, hm⟩ : ∃ m, sN a = m + 1 := ⟨sN a - 1, by omega⟩
  unfold all4
  rw [hm, amt_sum w hs m]
  have := h1 m (by omega)
  have h2 : 1 ≤ (it a m).2.2.2.1 := this
  split <;> omega
theorem q_alloc_0 (hR : SIMR M G) (hW : WFG B G) (hr : RS M s a nx) {Q : Int32 → MEM → Prop} {T : Nat} (hT : T ≤ 12) (ha : sH a = true) (hn0 : 0 < sN a) (hQ : ∀ M', ENDR M (chgG G s (allocA a (decide (p3 ≠ 0)) T) (gCur G).2) 0 M' → Q (nI (sQ (allocA a (decide (p3 ≠ 0)) T) 0)) M') : wp_X6_allocate 40 (nI s) (nI T) p3 M Q := by
  have hs := hr.s4
  have hn := hr.n
  refine ⟨rfl, q_slotT hs (i1 (q_btN 12 (by decide) (by decide) hT (by omega) (i1 (q_thT hr ha (i1 (q_many hr ha ⟨fun _ M9 e9 => q_remember ((z_end (k := 0) hR e9).2.1) hW s (fun M11 S11 F11 => ⟨5, ?_⟩), fun w => absurd w (nI_ne0 hn0 (by omega))⟩))))))⟩
  have r11 := F11.rs (z_rs hr e9)
  generalize hw : decide (p3 ≠ 0) = w at hQ
  have hb := amt_le (a := a) (fun i => hr.wgt i) w
  have hpos := all4_p hr.str (fun i hi => (hr.ok hi).2.2.2.1) w hn0
  have hall : all4 a w ≤ 4 * 5940 := by
    unfold all4
    have := hb 0 (sN a); have := hb 1 (sN a); have := hb 2 (sN a); have := hb 3 (sN a)
    omega
  have hqs := quo_sum (a := a) w T hpos
  have hqt : ∀ t, t < 4 → quo a w T t ≤ 12 := fun t ht => by
    rcases (show t = 0 ∨ t = 1 ∨ t = 2 ∨ t = 3 by omega) with rfl | rfl | rfl | rfl <;> omega
  have hne : ¬ nI (all4 a w) = 0 := nI_ne0 hpos (by omega)
  have amt_b : ∀ t, amt a w t (sN a) ≤ 5940 := fun t => by have := hb t (sN a); omega
  -- the rest, one by one
  have lp3 : ∀ f k q r M4, k ≤ lft a w T → lft a w T - k < f → FrA s M11 M4 → RepR (fun j => mI M4 41 (310 * s + j)) (setQ a q) → (∀ t, t < 4 → mI M4 46 t = r t) → q 0 + q 1 + q 2 + q 3 + (lft a w T - k) ≤ 12 → alc (lft a w T - k) q r = alc (lft a w T) (quo a w T) (fun t => nI (rem4 a w T t)) → wp_X6_allocate_L231 40 (nI s) (nI T) Q f (nI (T - lft a w T + k)) M4 := by
    intro f
    induction f with
    | zero => intro k q r M4 _ h9; omega
    | succ f ih =>
      intro k q r M4 hk hf hF hrep hr4 hsum hal
      have hlT : lft a w T ≤ T := Nat.sub_le _ _
      have cell : ∀ t, t < 4 → mI M4 41 (310 * s + (5 + t)) = nI (q t) := fun t ht => (hrep.2 ha).2.2.2.2.1 t ht
      unfold wp_X6_allocate_L231
      rw [nI_leI (by omega) (by omega)]
      refine ⟨fun c => q_of (k := 5) hs (by decide) ?_, fun c => ⟨4, ?_⟩⟩
      · have ek : k = lft a w T := by omega
        subst ek
        rw [Nat.sub_self] at hal
        have hal' : q = alc (lft a w T) (quo a w T) (fun t => nI (rem4 a w T t)) := hal
        have hA : setQ a q = allocA a w T := by rw [hal']; rfl
        rw [hA] at hrep
        have hfin := hQ M4 (end_alc hW hs e9 S11 F11 hF hrep)
        have h5 := cell 0 (by decide)
        have e5 : sQ (allocA a w T) 0 = q 0 := by rw [← hA]; rfl
        rw [e5] at hfin
        rw [show 310 * s + 5 = 310 * s + (5 + 0) from rfl, h5]; exact hfin
      · have hb4 := bst_lt r
        have fin : ∀ b, b < 4 → b = bst r → ∀ g, wp_X6_allocate_L243 40 (nI s) (wp_X6_allocate_L231 40 (nI s) (nI T) Q f) (nI (T - lft a w T + k)) M4 (g + 1) (nI b) (nI 4) := fun b hb5 e g => by
          unfold wp_X6_allocate_L243
          refine ⟨fun _ => ?_, fun w2 => absurd (nI_le (Nat.le_refl 4) (by decide)) w2⟩
          rw [n5, nA]
          refine q_of hs (by omega) (q_sets hs (by omega) ⟨rfl, nV hb5 (by decide), fun M34 e34 x e2 => ?_⟩)
          rw [cell b hb5, nI_1, nC (by omega), show RF 40 8 = 46 from rfl] at e34
          rw [e2, n1, nA]
          subst e
          refine ih (k + 1) (fun u => if u = bst r then q u + 1 else q u) (fun u => if u = bst r then -1 else r u) M34 (by omega) (by omega) (hF.trans ?_) ?_ (fun t ht => ?_) ?_ ?_
          · rw [e34]; exact (FrA.uI (Or.inr (Or.inr ⟨rfl, by omega, by omega⟩))).trans (FrA.uI (Or.inr (Or.inl rfl)))
          · have h6 := RepR.putQ (v := q (bst r) + 1) hrep hb4
            have h7 : RepR (fun j => mI M34 41 (310 * s + j)) (putQA (setQ a q) (bst r) (q (bst r) + 1)) := by
              rw [e34]
              exact RepR.ext h6 (fun j _ => rd_ne (by omega)) hn
            refine RepR.sq (q := fun u => if u = bst r then q (bst r) + 1 else q u) h7 (fun t ht => ?_)
            by_cases z : t = bst r
            · rw [if_pos z, if_pos z, z]
            · rw [if_neg z, if_neg z]
          · by_cases z : t = bst r
            · rw [if_pos z, e34, z, rd_eq]
            · rw [if_neg z, e34, rd_ne (by omega), rd_ne (by omega)]; exact hr4 t ht
          · rcases (show bst r = 0 ∨ bst r = 1 ∨ bst r = 2 ∨ bst r = 3 by omega) with e | e | e | e <;> rw [e] <;> simp <;> omega
          · rw [show lft a w T - k = (lft a w T - (k + 1)) + 1 by omega] at hal
            exact hal
        have st : ∀ b t g, b < 4 → t < 4 → wp_X6_allocate_L243 40 (nI s) (wp_X6_allocate_L231 40 (nI s) (nI T) Q f) (nI (T - lft a w T + k)) M4 g (nI (if r b < r t then t else b)) (nI (t + 1)) → wp_X6_allocate_L243 40 (nI s) (wp_X6_allocate_L231 40 (nI s) (nI T) Q f) (nI (T - lft a w T + k)) M4 (g + 1) (nI b) (nI t) := fun b t g hb5 ht h => by
          unfold wp_X6_allocate_L243
          refine ⟨fun w2 => absurd w2 (nI_ge (b := 4) ht (by decide)), fun _ => ⟨rfl, nV ht (by decide), nV hb5 (by decide), ?_⟩⟩
          rw [nC (by omega), nC (by omega), show RF 40 8 = 46 from rfl, hr4 t ht, hr4 b hb5]
          refine ⟨fun c2 x e => ?_, fun c2 x e => ?_⟩
          · rw [if_neg (fun w2 => nle32.mpr w2 c2)] at h
            rw [e, nI_1]; exact h
          · rw [if_pos (nle32.mp c2)] at h
            rw [e, nI_1]; exact h
        have b2 : (if r (if r 0 < r 1 then 1 else 0) < r 2 then 2 else (if r 0 < r 1 then 1 else 0)) < 4 := by
          repeat' split
          all_goals decide
        refine st 0 1 3 (by decide) (by decide) (st _ 2 2 (by split <;> decide) (by decide) (st _ 3 1 b2 (by decide) (fin _ ?_ ?_ 0)))
        · have := bst_lt r
          unfold bst at this
          exact this
        · rfl
  -- the shares
  have lp2 : ∀ f t M3, t ≤ 4 → 4 - t < f → FrA s M11 M3 → RepR (fun j => mI M3 41 (310 * s + j)) (setQ a (fun u => if u < t then quo a w T u else sQ a u)) → (∀ u, u < 4 → mI M3 45 u = nI (amt a w u (sN a))) → (∀ u, u < t → mI M3 46 u = nI (rem4 a w T u)) → ∀ x5, x5 = nI ((if 0 < t then quo a w T 0 else 0) + (if 1 < t then quo a w T 1 else 0) + (if 2 < t then quo a w T 2 else 0) + (if 3 < t then quo a w T 3 else 0)) → wp_X6_allocate_L162 40 (nI s) (nI T) Q (nI (all4 a w)) f x5 (nI t) M3 := by
    intro f
    induction f with
    | zero => intro t M3 _ h9; omega
    | succ f ih =>
      intro t M3 ht hf hF hrep h45 h46 x5 e5
      unfold wp_X6_allocate_L162
      refine ⟨fun c => ⟨lft a w T + 1, ?_⟩, fun c => ?_⟩
      · have h4t : 4 ≤ t := (nI_leI (a := 4) (by decide) (by omega)).mp c
        have et : t = 4 := by omega
        subst et
        have e5' : x5 = nI (T - lft a w T + 0) := by
          rw [e5]; congr 1; unfold lft; simp; omega
        rw [e5']
        refine lp3 _ 0 (quo a w T) (fun t => nI (rem4 a w T t)) M3 (Nat.zero_le _) (by omega) hF (hrep.sq (fun u hu => if_pos hu)) (fun u hu => h46 u hu) ?_ rfl
        unfold lft; omega
      · have ht4 : t < 4 := Nat.not_le.mp (fun z => c ((nI_leI (a := 4) (by decide) (by omega)).mpr z))
        have hprod : T * amt a w t (sN a) < 2147483648 := by
          have : T * amt a w t (sN a) ≤ 12 * 5940 := Nat.mul_le_mul hT (amt_b t)
          omega
        have ediv : nI (T * amt a w t (sN a)) / nI (all4 a w) = nI (quo a w T t) := pk_div hprod hpos (by omega)
        have erem : nI (T * amt a w t (sN a)) - nI (T * amt a w t (sN a)) / nI (all4 a w) * nI (all4 a w) = nI (rem4 a w T t) := pk_rem hprod hpos (by omega)
        rw [nC (by omega), show RF 40 7 = 45 from rfl, h45 t ht4, nM, erem]
        refine ⟨rfl, nV ht4 (by decide), hne, rfl, nV ht4 (by decide), fun M46 e46 => ⟨nV ht4 (by decide), hne, ?_⟩⟩
        rw [show RF 40 8 = 46 from rfl] at e46
        have g45 : mI M46 45 t = nI (amt a w t (sN a)) := by rw [e46, rd_ne (by omega)]; exact h45 t ht4
        rw [g45, nM, ediv, n5, nA]
        refine q_sets hs (by omega) ⟨nV ht4 (by decide), hne, fun x e x2 e2 => ?_⟩
        rw [rd_ne (by omega), g45, nM, ediv] at e
        rw [e2, n1, nA]
        refine ih (t + 1) _ (by omega) (by omega) (hF.trans (FrA.trans (by rw [e46]; exact FrA.uI (Or.inr (Or.inl rfl))) (FrA.uI (Or.inr (Or.inr ⟨rfl, by omega, by omega⟩))))) ?_ (fun u hu => by rw [rd_ne (by omega), e46, rd_ne (by omega)]; exact h45 u hu) (fun u hu => ?_) x ?_
        · have h6 : RepR (fun j => mI M46 41 (310 * s + j)) (setQ a (fun u => if u < t then quo a w T u else sQ a u)) := RepR.ext hrep (fun j _ => by rw [e46, rd_ne (by omega)]) hn
          have h7 := RepR.putQ (v := quo a w T t) h6 ht4
          refine RepR.sq (q := fun u => if u = t then quo a w T t else if u < t then quo a w T u else sQ a u) h7 (fun u hu => ?_)
          by_cases e : u = t
          · subst e; rw [if_pos rfl, if_pos (by omega)]
          · by_cases e2 : u < t
            · rw [if_neg e, if_pos e2, if_pos (by omega)]
            · rw [if_neg e, if_neg e2, if_neg (by omega)]
        · by_cases e : u = t
          · subst e; rw [rd_ne (by omega), e46, rd_eq]
          · rw [rd_ne (by omega), e46, rd_ne (by omega)]; exact h46 u (by omega)
        · rw [e, e5, nA]
          rcases (show t = 0 ∨ t = 1 ∨ t = 2 ∨ t = 3 by omega) with rfl | rfl | rfl | rfl <;> simp <;> congr 1 <;> omega
  -- the amounts
  have lp1 : ∀ f m M2, m ≤ sN a → sN a - m < f → FrA s M11 M2 → (∀ j, mI M2 41 j = mI M11 41 j) → (∀ u, u < 4 → mI M2 45 u = nI (amt a w u m)) → wp_X6_allocate_L97 40 (nI s) (nI T) p3 Q f (nI (amt a w 0 m + amt a w 1 m + amt a w 2 m + amt a w 3 m)) (nI m) M2 := by
    intro f
    induction f with
    | zero => intro m M2 _ h9; omega
    | succ f ih =>
      intro m M2 hm hf hF h41 h45
      have r2 := r11.of h41
      refine q_many r2 ha ?_
      rw [nI_leI (by omega) (by omega)]
      refine ⟨fun c => ⟨5, ?_⟩, fun c => ?_⟩
      · have em : m = sN a := by omega
        subst em
        exact lp2 5 0 M2 (by decide) (by decide) hF (RepR.sq (q := sQ a) r2.1 (fun u hu => (if_neg (by omega)).symm)) h45 (fun u hu => absurd hu (Nat.not_lt_zero _)) _ rfl |> fun h => by
          have e0 : (amt a w 0 (sN a) + amt a w 1 (sN a) + amt a w 2 (sN a) + amt a w 3 (sN a)) = all4 a w := rfl
          rw [e0]; exact h
      · have hs4 : stA a m < 4 := hr.str m
        have hwm : wtA a m ≤ 99 := hr.wgt m
        have hsum := amt_sum (a := a) w hr.str m
        have j123 : ∀ v, v = (if w = true then wtA a m else 1) → wp_X6_allocate_J123 40 (nI s) (wp_X6_allocate_L97 40 (nI s) (nI T) p3 Q f) (nI (amt a w 0 m + amt a w 1 m + amt a w 2 m + amt a w 3 m)) (nI m) M2 (nI v) := fun v hv => by
          refine q_item r2 ha (p := 2) (by omega) (by decide) ?_
          show KD (RF 40 7) = (0, 4) ∧ vp_in (nI (stA a m)) 4 ∧ _
          refine ⟨rfl, nV hs4 (by decide), nV hs4 (by decide), fun M61 e61 x e x2 e2 => ?_⟩
          have e61' : M61 = uI M2 45 (stA a m) (nI (amt a w (stA a m) m + v)) := by
            rw [e61]
            show uI M2 45 (nI (stA a m)).toNatClampNeg (mI M2 45 (nI (stA a m)).toNatClampNeg + nI v) = _
            rw [nC (by omega), h45 _ hs4, nA]
          rw [e, e2, n1, nA, nA]
          have h9 := ih (m + 1) M61 (by omega) (by omega) (hF.trans (by rw [e61']; exact FrA.uI (Or.inl rfl))) (fun j => by rw [e61', rd_ne (by omega)]; exact h41 j) (fun u hu => ?_)
          · rw [hsum] at h9
            rw [hv]; exact h9
          · show mI M61 45 u = nI (amt a w u m + (if (it a m).2.2.1 = u then (if w = true then (it a m).2.2.2.1 else 1) else 0))
            by_cases z : u = stA a m
            · subst z; rw [e61', rd_eq, if_pos rfl, hv]
            · rw [e61', rd_ne (by omega), if_neg (fun w2 => z w2.symm), Nat.add_zero]; exact h45 u hu
        refine ⟨fun c2 => j123 1 ?_, fun c2 => q_item r2 ha (p := 3) (by omega) (by decide) (j123 (wtA a m) ?_)⟩
        · rw [← hw, if_neg (by simp [c2])]
        · rw [← hw, if_pos (by simp [c2])]
  have lp0 : ∀ f t M2, t ≤ 4 → 4 - t < f → FrA s M11 M2 → (∀ j, mI M2 41 j = mI M11 41 j) → (∀ u, u < t → mI M2 45 u = nI 0) → wp_X6_allocate_L74 40 (nI s) (nI T) p3 Q f (nI t) M2 := by
    intro f
    induction f with
    | zero => intro t M2 _ h9; omega
    | succ f ih =>
      intro t M2 ht hf hF h41 h45
      unfold wp_X6_allocate_L74
      rw [n4, nI_leI (by omega) (by omega)]
      refine ⟨fun c => ⟨sN a + 1, ?_⟩, fun c => ⟨rfl, nV (by omega) (by decide), fun M68 e68 x e => ?_⟩⟩
      · exact lp1 _ 0 M2 (Nat.zero_le _) (by omega) hF h41 (fun u hu => h45 u (by omega))
      · rw [nC (by omega), show RF 40 7 = 45 from rfl] at e68
        rw [e, n1, nA]
        refine ih (t + 1) M68 (by omega) (by omega) (hF.trans (by rw [e68]; exact FrA.uI (Or.inl rfl))) (fun j => by rw [e68, rd_ne (by omega)]; exact h41 j) (fun u hu => ?_)
        by_cases z : u = t
        · subst z; rw [e68, rd_eq]; rfl
        · rw [e68, rd_ne (by omega)]; exact h45 u (by omega)
  exact lp0 5 0 M11 (by decide) (by decide) ⟨fun _ _ _ _ _ => rfl, rfl⟩ (fun _ => rfl) (fun u hu => absurd hu (Nat.not_lt_zero _))
end PR9
