-- PURE: the reference's offers; undo, save, restore
theorem it_of {q : Bool} {u : Nat × Nat × Int32 × Nat} {v : Nat → Nat} {L : List ITM} (i : Nat) : it (q, u, v, L) i = L.getD i (0, 0, 0, 0, 0) := rfl
section PR7
variable {M M' M1 M5 M7 : MEM} {G : GST} {B s t nx nx2 : Nat} {a b : SLT} {p p1 p2 p3 p4 p5 : Int32}
/-- an item put at the end -/
theorem q_put (hs : s < 4) (hr : RepR (fun k => mI M 41 (310 * s + k)) b) (ha : sH b = true) (hn : sN b < 60) {x : ITM} (hx : mI M 41 1240 = nI x.1) {Q : Int32 → MEM → Prop} (hQ : ∀ M', FrL s M M' → mI M' 41 1240 = nI (x.1 + 1) → RepR (fun k => mI M' 41 (310 * s + k)) (b.1, b.2.1, b.2.2.1, sL b ++ [x]) → Q (nI x.1) M') : wp_X6_takes_J105 40 (nI s) (pt x 1) (pt x 2) (pt x 3) (pt x 4) Q M := by
  obtain ⟨h0, h1⟩ := hr
  obtain ⟨a1, a2, a3, a4, a5, a6, a7⟩ := h1 ha
  have a6' : mI M 41 (310 * s + 9) = nI (sN b) := a6
  have many : ∀ (M3 : MEM) {Q : Int32 → Prop}, mI M3 41 (310 * s + 9) = nI (sN b) → Q (nI (sN b)) → wp_X6_many 40 (nI s) M3 Q := fun M3 Q e hQ => ⟨rfl, q_of (k := 9) hs (by decide) (by rw [e]; exact hQ)⟩
  refine ⟨rfl, fun x6 e6 => many M a6' (q_setItem hs hn (fun M9 o9 v0 v1 v2 v3 v4 w9 => many M9 (by rw [o9 41 _ (by omega)]; exact a6') (q_sets (k := 9) hs (by decide) (fun M14 e14 => ?_)))) ⟩
  rw [show RF 40 1 = 41 from rfl] at e6 e14
  rw [hx] at e6
  subst e6
  have c9 : mI M9 41 1240 = nI x.1 := by rw [o9 41 1240 (by omega)]; exact hx
  rw [rd_ne (by omega), c9, nI_1, nI_1] at e14
  refine hQ M14 ⟨fun b j h => by rw [e14, rd_ne (by omega), rd_ne (by omega)]; exact o9 b j (by omega), by rw [e14]; exact w9⟩ (by rw [e14, rd_eq]) (RepR.of41 ?_ (fun _ => ⟨?_, ?_, ?_, ?_, fun t ht => ?_, ?_, fun i hi p hp => ?_⟩))
  · rw [e14, rd_ne (by omega), rd_ne (by omega), o9 41 _ (by omega)]; exact h0
  · rw [e14, rd_ne (by omega), rd_ne (by omega), o9 41 _ (by omega)]; exact a1
  · rw [e14, rd_ne (by omega), rd_ne (by omega), o9 41 _ (by omega)]; exact a2
  · rw [e14, rd_ne (by omega), rd_ne (by omega), o9 41 _ (by omega)]; exact a3
  · rw [e14, rd_ne (by omega), rd_ne (by omega), o9 41 _ (by omega)]; exact a4
  · rw [e14, rd_ne (by omega), rd_ne (by omega), o9 41 _ (by omega)]; exact a5 t ht
  · rw [e14, rd_ne (by omega), rd_eq]
    show nI (sN b + 1) = nI (sL b ++ [x]).length
    rw [List.length_append]; rfl
  · have hi' : i < sN b + 1 := by
      have : i < (sL b ++ [x]).length := hi
      rw [List.length_append] at this; exact this
    rw [e14, rd_ne (by omega), rd_ne (by omega), it_app]
    by_cases c : i < sN b
    · rw [if_pos (show i < (sL b).length from c), o9 41 _ (by omega)]; exact a7 i c p hp
    · have ei : i = sN b := by omega
      subst ei
      rw [if_neg (show ¬ sN b < (sL b).length from c), if_pos rfl]
      rcases (show p = 0 ∨ p = 1 ∨ p = 2 ∨ p = 3 ∨ p = 4 by omega) with rfl | rfl | rfl | rfl | rfl
      · exact v0
      · exact v1
      · exact v2
      · exact v3
      · exact v4
theorem q_takes (hr : RS M s a nx) (ha : sH a = true) (h0 : sP a = 0 → sN a < 60) {x : ITM} (hx : mI M 41 1240 = nI x.1) {Q : Int32 → MEM → Prop} (hQ : ∀ M', FrL s M M' → mI M' 41 1240 = nI (x.1 + 1) → RepR (fun k => mI M' 41 (310 * s + k)) (pushA a x) → Q (nI x.1) M') : wp_X6_takes 40 (nI s) (pt x 1) (pt x 2) (pt x 3) (pt x 4) M Q := by
  have hs := hr.s4
  have hn := hr.n
  obtain ⟨v1, v2, v3, v4, v5, v6⟩ := hr.2.1.2.2.1 ha
  have noDrop : ¬ (sP a ≠ 0 ∧ sP a ≤ sN a) → sN a < 60 → wp_X6_takes_J105 40 (nI s) (pt x 1) (pt x 2) (pt x 3) (pt x 4) Q M := fun c h60 => by
    refine q_put hs hr.1 ha h60 hx (fun M' F' N' R' => hQ M' F' N' ?_)
    unfold pushA; rw [if_neg c]; exact R'
  refine ⟨rfl, q_reach hr ha ⟨fun c => ?_, fun c => q_many hr ha (q_reach hr ha ?_)⟩⟩
  · have hp : sP a = 0 := by have := (nI_leI (b := 0) (by omega) (by decide)).mp c; omega
    exact noDrop (fun w => w.1 hp) (h0 hp)
  · have hp : sP a ≠ 0 := fun e => c (by rw [e]; decide)
    rw [nI_eq (by omega) (by omega)]
    have hle := v6 hp
    refine ⟨fun c2 => noDrop (fun w => c2 (by omega)) (by omega), fun c2 => ⟨sN a + 1, ?_⟩⟩
    have hm : 1 ≤ sN a := by omega
    have hrep := hr.1
    obtain ⟨g0, g1⟩ := hrep
    obtain ⟨a1, a2, a3, a4, a5, a6, a7⟩ := g1 ha
    have lp : ∀ f i M1, 1 ≤ i → i ≤ sN a → sN a - i < f → FrL s M M1 → mI M1 41 1240 = mI M 41 1240 → (∀ k, k < 10 → mI M1 41 (310 * s + k) = mI M 41 (310 * s + k)) → (∀ j, j < i - 1 → ∀ p, p < 5 → mI M1 41 (310 * s + (10 + 5 * j + p)) = pt (it a (j + 1)) p) → (∀ j, i - 1 ≤ j → j < sN a → ∀ p, p < 5 → mI M1 41 (310 * s + (10 + 5 * j + p)) = pt (it a j) p) → wp_X6_takes_L26 40 (nI s) (pt x 1) (pt x 2) (pt x 3) (pt x 4) Q f (nI i) M1 := by
      intro f
      induction f with
      | zero => intro i M1 _ _ h9; omega
      | succ f ih =>
        intro i M1 hi1 hi hf hF hN hk hA hB
        have c9 : mI M1 41 (310 * s + 9) = nI (sN a) := by rw [hk 9 (by decide)]; exact a6
        have many : ∀ {Q : Int32 → Prop}, Q (nI (sN a)) → wp_X6_many 40 (nI s) M1 Q := fun hQ => ⟨rfl, q_of (k := 9) hs (by decide) (by rw [c9]; exact hQ)⟩
        unfold wp_X6_takes_L26
        refine many ?_
        rw [nI_leI (by omega) (by omega)]
        refine ⟨fun q => many (q_sets (k := 9) hs (by decide) ?_), fun q => ?_⟩
        · have ei : i = sN a := by omega
          subst ei
          rw [n1, nS hm]
          have hlen : ((sL a).drop 1).length = sN a - 1 := by rw [List.length_drop]
          have hd : RepR (fun k => mI (uI M1 41 (310 * s + 9) (nI (sN a - 1))) 41 (310 * s + k)) (a.1, a.2.1, a.2.2.1, (sL a).drop 1) := by
            refine RepR.of41 ?_ (fun _ => ⟨?_, ?_, ?_, ?_, fun t ht => ?_, ?_, fun j hj p hp => ?_⟩)
            · rw [rd_ne (by omega), hk 0 (by decide)]; exact g0
            · rw [rd_ne (by omega), hk 1 (by decide)]; exact a1
            · rw [rd_ne (by omega), hk 2 (by decide)]; exact a2
            · rw [rd_ne (by omega), hk 3 (by decide)]; exact a3
            · rw [rd_ne (by omega), hk 4 (by decide)]; exact a4
            · rw [rd_ne (by omega), hk (5 + t) (by omega)]; exact a5 t ht
            · rw [rd_eq]; show nI (sN a - 1) = nI ((sL a).drop 1).length; rw [hlen]
            · have hj' : j < sN a - 1 := by
                have : j < ((sL a).drop 1).length := hj
                rw [hlen] at this; exact this
              rw [rd_ne (by omega), hA j hj' p hp, it_drop]; rfl
          refine q_put hs hd ha (by show ((sL a).drop 1).length < 60; rw [hlen]; omega) (x := x) (by rw [rd_ne (by omega), hN]; exact hx) (fun M' F' N' R' => hQ M' ((hF.trans (FrL.uI (Or.inl ⟨by omega, by omega⟩))).trans F') N' ?_)
          unfold pushA; rw [if_pos ⟨hp, by omega⟩]; exact R'
        · have hi60 : i < 60 := by omega
          have hb := fun p hp => hB i (by omega) (by omega) p hp
          refine q_cell (p := 0) hs hi60 (by decide) (q_cell (p := 1) hs hi60 (by decide) (q_cell (p := 2) hs hi60 (by decide) (q_cell (p := 3) hs hi60 (by decide) (q_cell (p := 4) hs hi60 (by decide) ?_))))
          rw [hb 0 (by decide), hb 1 (by decide), hb 2 (by decide), hb 3 (by decide), hb 4 (by decide), n1, nS hi1]
          refine q_setItem hs (by omega) (fun M9 o9 w0 w1 w2 w3 w4 wE y e => ?_)
          rw [e, nA]
          refine ih (i + 1) M9 (by omega) (by omega) (by omega) (hF.trans ⟨fun b j h => o9 b j (by omega), wE⟩) (by rw [o9 41 1240 (by omega)]; exact hN) (fun k hk2 => by rw [o9 41 _ (by omega)]; exact hk k hk2) (fun j hj p hp => ?_) (fun j hj1 hj2 p hp => by rw [o9 41 _ (by omega)]; exact hB j (by omega) hj2 p hp)
          by_cases c3 : j = i - 1
          · subst c3
            rw [show i - 1 + 1 = i by omega]
            rcases (show p = 0 ∨ p = 1 ∨ p = 2 ∨ p = 3 ∨ p = 4 by omega) with rfl | rfl | rfl | rfl | rfl
            · exact w0
            · exact w1
            · exact w2
            · exact w3
            · exact w4
          · rw [o9 41 _ (by omega)]; exact hA j (by omega) p hp
    exact lp _ 1 M (Nat.le_refl _) hm (by omega) (FrL.refl _ _) rfl (fun _ _ => rfl) (fun j hj => absurd hj (by omega)) (fun j _ hj p hp => a7 j hj p hp)
theorem q_full (hr : RS M s a nx) (ha : sH a = true) {m : Nat} (hm : m ≤ 60) {Q : Int32 → Prop} (hQ : Q (if sP a = 0 ∧ 60 < sN a + m then 1 else 0)) : wp_X6_isFull 40 (nI s) (nI m) M Q := by
  have hn := hr.n
  obtain ⟨v1, v2, v3, v4, v5, v6⟩ := hr.2.1.2.2.1 ha
  refine ⟨rfl, q_reach hr ha ?_⟩
  have q0 : nI (sP a) = 0 ↔ sP a = 0 := nI_eq (b := 0) (by omega) (by decide)
  rw [q0]
  refine ⟨fun c => ?_, fun c => q_many hr ha ?_⟩
  · rw [if_neg (fun w => c w.1)] at hQ; exact hQ
  · rw [nA, n60, nI_leI (by omega) (by decide)]
    refine ⟨fun c2 => ?_, fun c2 => ?_⟩
    · rw [if_neg (fun w => by omega)] at hQ; exact hQ
    · rw [if_pos ⟨c, by omega⟩] at hQ; exact hQ
theorem q_offer_1 (hR : SIMR M G) {Q : Int32 → MEM → Prop} (h1 : ¬ rng p1 0 3) (hQ : ∀ M', ENDR M G 1 M' → Q 0 M') : wp_X6_offer 40 p1 p2 p3 p4 p5 M Q := ⟨rfl, q_slotF h1 (i0 (q_fails (k := 1) hR hQ))⟩
theorem q_offer_2 (hR : SIMR M G) {Q : Int32 → MEM → Prop} (h1 : rng p1 0 3) (h2 : ¬ partOk p2 p3 p4 p5) (hQ : ∀ M', ENDR M G 2 M' → Q 0 M') : wp_X6_offer 40 p1 p2 p3 p4 p5 M Q := by
  obtain ⟨s, hs, rfl⟩ := slot_rng h1
  exact ⟨rfl, q_slotT hs (i1 (q_isItem (fun w => absurd w h2) (fun _ => i0 (q_fails (k := 2) hR hQ))))⟩
theorem q_offer_3 (hR : SIMR M G) (hr : RS M s a nx) {Q : Int32 → MEM → Prop} (h2 : partOk p2 p3 p4 p5) (h3 : sH a = false ∨ (sH a = true ∧ sP a = 0 ∧ 60 < sN a + 1)) (hQ : ∀ M', ENDR M G 3 M' → Q 0 M') : wp_X6_offer 40 (nI s) p2 p3 p4 p5 M Q := by
  refine ⟨rfl, q_slotT hr.s4 (i1 (q_isItem (fun _ => i1 (q_there hr (fun ha => e1 (q_full (m := 1) hr ha (by decide) ?_)) (fun _ => e0 (q_fails (k := 3) hR hQ)))) (fun w => absurd h2 w)))⟩
  have h4 := h3.resolve_left (fun w => by rw [ha] at w; exact absurd w (by decide))
  rw [if_pos h4.2]
  exact e1 (q_fails (k := 3) hR hQ)
theorem q_offer_0 (hR : SIMR M G) (hW : WFG B G) (hr : RS M s a nx) {Q : Int32 → MEM → Prop} {k t w : Nat} (hok : okI ((gCur G).2 + 1) ((gCur G).2, k, t, w, p5)) (ha : sH a = true) (h3 : ¬ (sP a = 0 ∧ 60 < sN a + 1)) (hQ : ∀ M', ENDR M (chgG G s (pushA a ((gCur G).2, k, t, w, p5)) ((gCur G).2 + 1)) 0 M' → Q (nI (gCur G).2) M') : wp_X6_offer 40 (nI s) (nI k) (nI t) (nI w) p5 M Q := by
  have hp : partOk (nI k) (nI t) (nI w) p5 := by
    obtain ⟨-, o1, o2, o3, o4, o5, o6⟩ := hok
    have o1' : k ≤ 99 := o1
    have o2' : t < 4 := o2
    have o3' : 1 ≤ w := o3
    have o4' : w ≤ 99 := o4
    exact ⟨(rng_of (by omega)).mpr ⟨by omega, by omega⟩, (rng_of (by omega)).mpr ⟨by omega, by omega⟩, (rng_of (by omega)).mpr ⟨by omega, by omega⟩, o5, o6⟩
  have hs := hr.s4
  refine ⟨rfl, q_slotT hs (i1 (q_isItem (fun _ => i1 (q_thT hr ha (e1 (q_full (m := 1) hr ha (by decide) ?_)))) (fun w => absurd hp w)))⟩
  rw [if_neg h3]
  refine e0 (fun M11 e11 => q_remember ((z_end (k := 0) hR e11).2.1) hW s (fun M13 S13 F13 => ?_))
  exact q_takes (x := ((gCur G).2, k, t, w, p5)) (F13.rs (z_rs hr e11)) ha (fun c => by omega) S13.1.2 (fun M' F' N' R' => hQ M' (end_chg hW hs e11 S13 F13 F' R' N'))
theorem q_offerD_1 (hR : SIMR M G) {Q : Int32 → MEM → Prop} (h1 : ¬ rng p1 0 3) (hQ : ∀ M', ENDR M G 1 M' → Q 0 M') : wp_X6_offerDrawn 40 p1 p2 p3 M Q := ⟨rfl, q_slotF h1 (i0 (q_fails (k := 1) hR hQ))⟩
theorem q_offerD_2 (hR : SIMR M G) {Q : Int32 → MEM → Prop} (h1 : rng p1 0 3) (h2 : ¬ rng p3 0 60) (hQ : ∀ M', ENDR M G 2 M' → Q 0 M') : wp_X6_offerDrawn 40 p1 p2 p3 M Q := by
  obtain ⟨s, hs, rfl⟩ := slot_rng h1
  exact ⟨rfl, q_slotT hs (i1 (q_btF (by decide) (by decide) h2 (i0 (q_fails (k := 2) hR hQ))))⟩
theorem q_offerD_3 (hR : SIMR M G) (hr : RS M s a nx) {Q : Int32 → MEM → Prop} {c : Nat} (hc : c ≤ 60) (h3 : sH a = false ∨ (sH a = true ∧ sP a = 0 ∧ 60 < sN a + c)) (hQ : ∀ M', ENDR M G 3 M' → Q 0 M') : wp_X6_offerDrawn 40 (nI s) p2 (nI c) M Q := by
  refine ⟨rfl, q_slotT hr.s4 (i1 (q_btN 60 (by decide) (by decide) hc (by omega) (i1 (q_there hr (fun ha => e1 (q_full hr ha hc ?_)) (fun _ => e0 (q_fails (k := 3) hR hQ))))))⟩
  have h4 := h3.resolve_left (fun w => by rw [ha] at w; exact absurd w (by decide))
  rw [if_pos h4.2]
  exact e1 (q_fails (k := 3) hR hQ)
theorem q_offerD_0 (hR : SIMR M G) (hW : WFG B G) (hB : B ≤ 1090000) (hr : RS M s a (gCur G).2) {Q : Int32 → MEM → Prop} {c : Nat} (hc : c ≤ 60) (ha : sH a = true) (h3 : ¬ (sP a = 0 ∧ 60 < sN a + c)) (hQ : ∀ M', ENDR M (chgG G s (drwA c p2 a (gCur G).2) ((gCur G).2 + c)) 0 M' → Q (nI (sN (drwA c p2 a (gCur G).2))) M') : wp_X6_offerDrawn 40 (nI s) p2 (nI c) M Q := by
  have hs := hr.s4
  have hnx : (gCur G).2 ≤ B := hW.1.1
  refine ⟨rfl, q_slotT hs (i1 (q_btN 60 (by decide) (by decide) hc (by omega) (i1 (q_thT hr ha (e1 (q_full hr ha hc ?_))))))⟩
  rw [if_neg h3]
  refine e0 (fun M11 e11 => q_remember ((z_end (k := 0) hR e11).2.1) hW s (fun M13 S13 F13 => ⟨c + 1, ?_⟩))
  have r13 := F13.rs (z_rs hr e11)
  have lp : ∀ f k z D M1, k ≤ c → c - k < f → FrL s M13 M1 → RepR (fun j => mI M1 41 (310 * s + j)) D → WF ((gCur G).2 + k) D → sH D = true → (sP D = 0 → sN D + (c - k) ≤ 60) → mI M1 41 1240 = nI ((gCur G).2 + k) → drwA (c - k) z D ((gCur G).2 + k) = drwA c p2 a (gCur G).2 → wp_X6_offerDrawn_L69 40 (nI s) (nI c) Q f z (nI k) M1 := by
    intro f
    induction f with
    | zero => intro k z D M1 _ h9; omega
    | succ f ih =>
      intro k z D M1 hk hf hF hD hWD hHD hroom hN hdr
      have rD : RS M1 s D ((gCur G).2 + k) := ⟨hD, hWD, hs, by omega⟩
      unfold wp_X6_offerDrawn_L69
      rw [nI_leI (by omega) (by omega)]
      refine ⟨fun q => ?_, fun q x4 e4 x6 e6 => ?_⟩
      · have ek : k = c := by omega
        subst ek
        rw [Nat.sub_self] at hdr
        have hdr' : D = drwA k p2 a (gCur G).2 := hdr
        subst hdr'
        exact q_many rD hHD (hQ M1 (end_chg hW hs e11 S13 F13 hF hD hN))
      · have e4' : x4 = stp z := e4
        subst e4'
        subst e6
        obtain ⟨d1, d2, d3, d4⟩ := drw_parts ((gCur G).2 + k) (stp z)
        rw [d1, d2, d3, d4]
        refine q_takes (x := mkI ((gCur G).2 + k) (stp z)) rD hHD (fun w => by have := hroom w; omega) hN (fun M' F' N' R' x e => ?_)
        rw [e, nI_1]
        refine ih (k + 1) (stp z) (pushA D (mkI ((gCur G).2 + k) (stp z))) M' (by omega) (by omega) (hF.trans F') R' (hWD.push hHD (fun w => by have := hroom w; omega) (mkI_ok _ _) (Nat.le_succ _) (fun i hi => (hWD.2.2.2.1 i hi).1)) hHD (fun w => ?_) N' ?_
        · have := hroom w
          rw [pushA_n, if_neg (fun w2 => w2.1 w)]; omega
        · rw [← hdr, show c - k = (c - (k + 1)) + 1 by omega]; rfl
  exact lp _ 0 p2 a M13 (Nat.zero_le _) (by omega) (FrL.refl _ _) r13.1 hr.2.1 ha (fun w => by omega) S13.1.2 rfl
/-- a whole state is copied over the present one -/
theorem SIMR.cur {F : FULL} {r : List (Nat × FULL)} (hR : SIMR M G) (hF : RepF (mI M' 41) F) (ho : ∀ b j, keepR b j → b ≠ 41 → (b ≠ 40 ∨ j ≠ 27) → mI M' b j = mI M b j) (h27 : mI M' 40 27 = nI r.length) (hh : ∀ j (hj : j < r.length), RepF (fun k => mI M 54 (1241 * (r.length - 1 - j) + k)) (r[j]).2) : SIMR M' (F, G.2.1, r, G.2.2.2) := by
  obtain ⟨h1, h2, h3, -, h6, h7⟩ := hR
  have e55 : mI M' 55 = mI M 55 := funext fun j => ho 55 j (by unfold keepR; omega) (by decide) (Or.inl (by decide))
  have e54 : mI M' 54 = mI M 54 := funext fun j => ho 54 j (by unfold keepR; omega) (by decide) (Or.inl (by decide))
  have e51 : mI M' 51 = mI M 51 := funext fun j => ho 51 j (by unfold keepR; omega) (by decide) (Or.inl (by decide))
  have e53 : mI M' 53 = mI M 53 := funext fun j => ho 53 j (by unfold keepR; omega) (by decide) (Or.inl (by decide))
  have e40 : ∀ j, j = 21 ∨ j = 24 ∨ j = 28 → mI M' 40 j = mI M 40 j := fun j h => ho 40 j (by unfold keepR; omega) (by decide) (by omega)
  exact ⟨hF, by rw [e40 28 (by omega)]; exact h2, fun F hF2 => by rw [e55]; exact h3 F hF2, ⟨h27, fun j hj => by rw [e54]; exact hh j hj⟩, ⟨by rw [e40 21 (by omega)]; exact h6.1, fun k hk => by rw [e51]; exact h6.2 k hk⟩, by rw [e40 24 (by omega)]; exact h7.1, fun k hk => by rw [e53]; exact h7.2 k hk⟩
theorem q_undo_1 (hR : SIMR M G) {Q : Int32 → MEM → Prop} (h : gHis G = []) (hQ : ∀ M', ENDR M G 1 M' → Q 0 M') : wp_X6_undo 40 M Q := by
  refine ⟨rfl, ?_⟩
  rw [hR.2.2.2.1.1, h]
  exact i0 (q_fails (k := 1) hR hQ)
theorem q_undo_0 (hR : SIMR M G) (hW : WFG B G) {Q : Int32 → MEM → Prop} {F : FULL} {r : List (Nat × FULL)} {s : Nat} (h : gHis G = (s, F) :: r) (hQ : ∀ M', ENDR M (undoG G s F r) 0 M' → Q (nI r.length) M') : wp_X6_undo 40 M Q := by
  have hl := hW.2.2.2.2.1
  have hl2 : (gHis G).length = r.length + 1 := by rw [h]; rfl
  have h4 := hR.2.2.2.1
  have hok : okF B F := hW.2.2.1 (s, F) (by rw [h]; exact List.mem_cons_self)
  refine ⟨rfl, ?_⟩
  rw [h4.1]
  refine ⟨fun _ M1 e1 M2 e2 => ⟨1242, ?_⟩, fun w => absurd w (nI_ne0 (by omega) (by omega))⟩
  have c1 : mI M1 40 27 = nI (r.length + 1) := by rw [e1, rd_ne (by omega), h4.1, hl2]
  rw [c1, n1, nm1] at e2
  have hF0 : RepF (fun k => mI M 54 (1241 * r.length + k)) F := by
    have := h4.2 0 (by omega)
    have hg : (gHis G)[0]'(by omega) = (s, F) := by simp [h]
    rw [hg, hl2] at this
    exact this
  have lp : ∀ f k M3, k ≤ 1241 → 1241 - k < f → (∀ b j, b ≠ 41 → mI M3 b j = mI M2 b j) → (∀ i, i < k → mI M3 41 i = mI M 54 (1241 * r.length + i)) → M3.2 = M2.2 → wp_X6_undo_L30 40 Q f (nI k) M3 := by
    intro f
    induction f with
    | zero => intro k M3 _ h9; omega
    | succ f ih =>
      intro k M3 hk hf hO hV hE
      have c27 : mI M3 40 27 = nI r.length := by rw [hO 40 27 (by decide), e2, rd_eq]
      unfold wp_X6_undo_L30
      rw [c27]
      refine ⟨fun q => ?_, fun q => ?_⟩
      · have hk1 : 1241 ≤ k := (nI_leI (a := 1241) (by decide) (by omega)).mp q
        have ek : k = 1241 := by omega
        subst ek
        refine hQ M3 ⟨⟨fun b hb j => ?_, ?_, ?_⟩, hR.cur (F := F) (r := r) (RepF.ext hF0 (fun k hk => hV k hk) (fun i hi => (hok.2 i hi).1)) (fun b j hk h1 h2 => by rw [hO b j h1, e2, rd_ne (by omega), e1, rd_ne (by unfold keepR at hk; omega)]) c27 (fun j hj => ?_), ?_⟩
        · rw [hO b j (by omega), e2, rd_ne (by omega), e1, rd_ne (by omega)]
        · show M3.2.1 60 0 = M.2.1 60 0; rw [hE, e2, e1]; rfl
        · rw [hE, e2, e1]; rfl
        · have := h4.2 (j + 1) (by omega)
          have hg : (gHis G)[j + 1]'(by omega) = r[j] := by simp [h]
          rw [hg, hl2] at this
          rw [show r.length + 1 - 1 - (j + 1) = r.length - 1 - j by omega] at this
          exact this
        · rw [hO 40 0 (by decide), e2, rd_ne (by omega), e1, rd_eq]; rfl
      · have hk1 : k < 1241 := Nat.not_le.mp (fun z => q ((nI_leI (a := 1241) (by decide) (by omega)).mpr z))
        have hb : 1241 * r.length ≤ 1241 * 9 := Nat.mul_le_mul_left _ (by omega)
        rw [show (1241 : Int32) = nI 1241 from rfl, nM, nA, nC (by omega), nC (by omega)]
        refine ⟨rfl, nV (by omega) (by decide), rfl, nV (by omega) (by decide), fun M9 e9 x e => ?_⟩
        rw [show RF 40 25 = 54 from rfl, show RF 40 1 = 41 from rfl, hO 54 _ (by decide), e2, rd_ne (by omega), e1, rd_ne (by omega)] at e9
        rw [e, nI_1]
        refine ih (k + 1) M9 (by omega) (by omega) (fun b j h => by rw [e9, rd_ne (by omega)]; exact hO b j h) (fun i hi => ?_) (by rw [e9]; exact hE)
        by_cases z : i = k
        · subst z; rw [e9, rd_eq]
        · rw [e9, rd_ne (by omega)]; exact hV i (by omega)
  exact lp 1242 0 M2 (by decide) (by decide) (fun _ _ _ => rfl) (fun i hi => absurd hi (Nat.not_lt_zero _)) rfl
end PR7
