-- PURE: the reference: feed, text, write
def LetR (M : MEM) (cs : List Nat) : Prop := mI M 40 24 = nI cs.length ∧ ∀ k (hk : k < cs.length), mI M 53 k = nI cs[k]
def FrO (M M' : MEM) : Prop := (∀ b j, b ≠ 53 → (b ≠ 40 ∨ j ≠ 24) → mI M' b j = mI M b j) ∧ M'.2 = M.2
theorem FrO.refl (M : MEM) : FrO M M := ⟨fun _ _ _ _ => rfl, rfl⟩
theorem FrO.trans {M M1 M2 : MEM} (h1 : FrO M M1) (h2 : FrO M1 M2) : FrO M M2 := ⟨fun b j p q => (h2.1 b j p q).trans (h1.1 b j p q), h2.2.trans h1.2⟩
theorem FrO.rs {M M' : MEM} {s nx : Nat} {a : SLT} (h : FrO M M') (hr : RS M s a nx) : RS M' s a nx := hr.of (fun j => h.1 41 j (by decide) (Or.inl (by decide)))
theorem emit_le10 (v : Nat) : (emit v (lg 9 v)).length ≤ 10 := by rw [emit_len]; have := lg_le 9 v; omega
section PRT
variable {M M' M1 M5 M7 : MEM} {G : GST} {B s t nx nx2 : Nat} {a b : SLT} {p p1 p2 p3 p4 p5 : Int32}
theorem q_sign {cs : List Nat} (hL : LetR M cs) (hl : cs.length < 1400) {c : Nat} {Q : MEM → Prop} (hQ : ∀ M', LetR M' (cs ++ [c]) → FrO M M' → Q M') : wp_X6_sign 40 (nI c) M Q := by
  refine ⟨rfl, rfl, ?_⟩
  rw [hL.1]
  refine ⟨nV hl (by decide), fun M3 e3 M4 e4 => ?_⟩
  rw [nC (by omega), show RF 40 20 = 53 from rfl] at e3
  have c3 : mI M3 40 24 = nI cs.length := by rw [e3, rd_ne (by omega)]; exact hL.1
  rw [c3, nI_1] at e4
  refine hQ M4 ⟨by rw [e4, rd_eq, List.length_append]; rfl, fun k hk => ?_⟩ ⟨fun b j h1 h2 => by rw [e4, rd_ne (by omega), e3, rd_ne (by omega)], by rw [e4, e3]; rfl⟩
  rw [app_get hk, e4, rd_ne (by omega), e3]
  split
  · rename_i q; rw [rd_ne (by omega)]; exact hL.2 k q
  · rename_i q
    have hk' : k < cs.length + 1 := by rw [List.length_append] at hk; exact hk
    rw [show k = cs.length by omega, rd_eq]
theorem q_emit (v : Nat) (hv : v < 10000000000) {Q : MEM → Prop} : ∀ e (hE : e ≤ 9) (M : MEM) (cs : List Nat), LetR M cs → cs.length + (e + 1) ≤ 1400 → (∀ M', LetR M' (cs ++ emit v e) → FrO M M' → Q M') → ∀ f, e + 1 < f → wp_X6_prints_L59 40 Q (lN v) f (lN (10 ^ e)) M := by
  intro e
  induction e with
  | zero =>
    intro hE M cs hL hl hQ f hf
    obtain ⟨f, rfl⟩ : ∃ g, f = g + 2 := ⟨f - 2, by omega⟩
    show (lN (10 ^ 0) ≤ 0 → _) ∧ (¬ lN (10 ^ 0) ≤ 0 → _)
    refine ⟨fun w => absurd w (by decide), fun _ => ⟨by decide, ?_⟩⟩
    rw [lN_dig (by omega) (by decide) (by decide)]
    refine q_sign hL (by omega) (fun M1 h1 F1 x e1 => ?_)
    have : x = 0 := by rw [e1]; decide
    subst this
    exact ⟨fun _ => hQ M1 h1 F1, fun w => absurd (by decide) w⟩
  | succ e ih =>
    intro hE M cs hL hl hQ f hf
    obtain ⟨f, rfl⟩ : ∃ g, f = g + 1 := ⟨f - 1, by omega⟩
    have hp : 0 < 10 ^ (e + 1) := Nat.pow_pos (by decide)
    have hp2 : 10 ^ (e + 1) < 2 ^ 63 := Nat.lt_of_le_of_lt (Nat.pow_le_pow_right (by decide) hE) (by decide)
    show (lN (10 ^ (e + 1)) ≤ 0 → _) ∧ (¬ lN (10 ^ (e + 1)) ≤ 0 → _)
    have hnle : ¬ lN (10 ^ (e + 1)) ≤ 0 := fun w => absurd ((pk_lLE (b := 0) hp2 (by decide)).mp w) (by omega)
    refine ⟨fun w => absurd w hnle, fun _ => ⟨fun w => hnle (by rw [w]; decide), ?_⟩⟩
    rw [lN_dig (by omega) hp hp2]
    refine q_sign hL (by omega) (fun M1 h1 F1 x e1 => ?_)
    have hx : x = lN (10 ^ e) := by
      rw [e1]
      have := pk_lDiv (a := 10 ^ (e + 1)) (b := 10) hp2 (by decide) (by decide)
      refine this.trans (congrArg lN ?_)
      rw [Nat.pow_succ]; omega
    subst hx
    refine ih (by omega) M1 _ h1 (by rw [List.length_append]; simp; omega) (fun M2 h2 F2 => hQ M2 ?_ (F1.trans F2)) f (by omega)
    rw [List.append_assoc] at h2
    exact h2
theorem q_J33 (v : Nat) (hv : v < 10000000000) {cs : List Nat} (hL : LetR M cs) (hl : cs.length + 11 ≤ 1400) {Q : MEM → Prop} (hQ : ∀ M', LetR M' (cs ++ emit v (lg 9 v)) → FrO M M' → Q M') : wp_X6_prints_J33 40 Q M (lN v) := by
  have hg := lg_le 9 v
  have hup := lg_up 9 v hv
  refine ⟨lg 9 v + 1, ?_⟩
  have lp : ∀ f e, e ≤ lg 9 v → lg 9 v - e < f → wp_X6_prints_L37 40 Q M (lN v) f (lN (10 ^ e)) := by
    intro f
    induction f with
    | zero => intro e _ h; omega
    | succ f ih =>
      intro e he hf
      have hp : 0 < 10 ^ e := Nat.pow_pos (by decide)
      have hp2 : 10 ^ e < 2 ^ 63 := Nat.lt_of_le_of_lt (Nat.pow_le_pow_right (by decide) (show e ≤ 9 by omega)) (by decide)
      have emul : lN (10 ^ e) * 10 = lN (10 ^ (e + 1)) := by rw [Nat.pow_succ]; exact (Int64.ofNat_mul _ 10).symm
      have hne : ¬ lN (10 ^ e) = 0 := fun w => by have := (pk_lEQ (b := 0) hp2 (by decide)).mp w; omega
      have hdiv : lN v / lN (10 ^ e) = lN (v / 10 ^ e) := pk_lDiv (by omega) hp hp2
      have hlt : v / 10 ^ e < 2 ^ 63 := Nat.lt_of_le_of_lt (Nat.div_le_self _ _) (by omega)
      have hq : (lN v / lN (10 ^ e) ≤ 9) ↔ v < 10 ^ (e + 1) := by
        rw [hdiv]
        refine (pk_lLE (b := 9) hlt (by decide)).trans ?_
        rw [Nat.pow_succ, Nat.mul_comm]
        have := Nat.div_lt_iff_lt_mul hp (x := v) (y := 10)
        omega
      refine ⟨hne, ?_⟩
      rw [hq, emul]
      by_cases c : e = lg 9 v
      · subst c
        refine ⟨fun _ => ⟨lg 9 v + 3, q_emit v hv _ hg M cs hL (by omega) hQ _ (by omega)⟩, fun w => absurd hup w⟩
      · have hlo := lg_lo 9 v e (by omega)
        refine ⟨fun w => by omega, fun _ x e4 => ?_⟩
        rw [e4]
        exact ih (e + 1) (by omega) (by omega)
  exact lp _ 0 (Nat.zero_le _) (by omega)
theorem q_J11 {x : Int32} {cs : List Nat} (hL : LetR M cs) (hl : cs.length + 12 ≤ 1400) {Q : MEM → Prop} (hQ : ∀ M', LetR M' (cs ++ numA x) → FrO M M' → Q M') : wp_X6_prints_J11 40 x Q M := by
  have hx1 := x.toInt_lt
  have hx2 := x.le_toInt
  unfold numA at hQ
  have hle : (0 ≤ x) ↔ ¬ x.toInt < 0 := by
    rw [Int32.le_iff_toInt_le]
    show (0 : Int) ≤ x.toInt ↔ _
    omega
  unfold wp_X6_prints_J11 wp_X6_prints_J21
  rw [hle]
  by_cases c : x.toInt < 0
  · rw [if_pos c] at hQ
    refine ⟨fun w => absurd c w, fun _ => q_sign (c := 45) hL (by omega) (fun M1 h1 F1 => ⟨fun w => absurd c w, fun _ => ?_⟩)⟩
    have hx3 : -x.toInt64 = lN x.toInt.natAbs := by
      refine Int64.toInt_inj.mp ?_
      rw [pk_lT (by omega), Int64.toInt_neg, Int32.toInt_toInt64, Int.bmod_eq_of_le (by omega) (by omega)]
      omega
    rw [hx3]
    refine q_J33 _ (by omega) h1 (by rw [List.length_append]; simp; omega) (fun M2 h2 F2 => hQ M2 ?_ (F1.trans F2))
    rw [List.append_assoc] at h2
    exact h2
  · rw [if_neg c] at hQ
    have hx3 : x.toInt64 = lN x.toInt.natAbs := by
      refine Int64.toInt_inj.mp ?_
      rw [pk_lT (by omega), Int32.toInt_toInt64]; omega
    rw [hx3]
    exact ⟨fun _ => ⟨fun _ => q_J33 _ (by omega) hL (by omega) hQ, fun w => absurd c w⟩, fun w => absurd c w⟩
theorem q_print0 {x : Int32} {cs : List Nat} (hL : LetR M cs) (hl : cs.length + 12 ≤ 1400) {Q : MEM → Prop} (hQ : ∀ M', LetR M' (cs ++ numA x) → FrO M M' → Q M') : wp_X6_prints 40 32 x M Q :=
  ⟨rfl, fun _ => q_J11 hL hl hQ, fun w => absurd rfl w⟩
theorem q_print {x : Int32} {c : Nat} (hc : c ≠ 32) (hc2 : c < 100) {cs : List Nat} (hL : LetR M cs) (hl : cs.length + 13 ≤ 1400) {Q : MEM → Prop} (hQ : ∀ M', LetR M' (cs ++ c :: numA x) → FrO M M' → Q M') : wp_X6_prints 40 (nI c) x M Q := by
  have q32 : nI c = 32 ↔ c = 32 := nI_eq (b := 32) (by omega) (by decide)
  refine ⟨rfl, ?_⟩
  rw [q32]
  refine ⟨fun w => absurd w hc, fun _ => q_sign hL (by omega) (fun M1 h1 F1 => q_J11 h1 (by rw [List.length_append]; simp; omega) (fun M2 h2 F2 => hQ M2 ?_ (F1.trans F2)))⟩
  rw [List.append_assoc] at h2
  exact h2
theorem numA_le11 (x : Int32) : (numA x).length ≤ 11 := by
  unfold numA
  rw [List.length_append]
  have := emit_le10 x.toInt.natAbs
  split <;> simp <;> omega
/-- the text, or the input, is another one -/
theorem SIMR.outp {cs : List Nat} (hR : SIMR M G) (hL : LetR M' cs) (ho : ∀ b j, keepR b j → b ≠ 53 → (b ≠ 40 ∨ j ≠ 24) → mI M' b j = mI M b j) : SIMR M' (outG G cs) := by
  obtain ⟨h1, h2, h3, ⟨h4, h5⟩, h6, h7⟩ := hR
  have e41 : mI M' 41 = mI M 41 := funext fun j => ho 41 j (by unfold keepR; omega) (by decide) (Or.inl (by decide))
  have e55 : mI M' 55 = mI M 55 := funext fun j => ho 55 j (by unfold keepR; omega) (by decide) (Or.inl (by decide))
  have e54 : mI M' 54 = mI M 54 := funext fun j => ho 54 j (by unfold keepR; omega) (by decide) (Or.inl (by decide))
  have e51 : mI M' 51 = mI M 51 := funext fun j => ho 51 j (by unfold keepR; omega) (by decide) (Or.inl (by decide))
  have e40 : ∀ j, j = 21 ∨ j = 27 ∨ j = 28 → mI M' 40 j = mI M 40 j := fun j h => ho 40 j (by unfold keepR; omega) (by decide) (by omega)
  exact ⟨by rw [e41]; exact h1, by rw [e40 28 (by omega)]; exact h2, fun F hF2 => by rw [e55]; exact h3 F hF2, ⟨by rw [e40 27 (by omega)]; exact h4, fun j hj => by rw [e54]; exact h5 j hj⟩, ⟨by rw [e40 21 (by omega)]; exact h6.1, fun k hk => by rw [e51]; exact h6.2 k hk⟩, hL⟩
theorem SIMR.inpp {cs : List Nat} (hR : SIMR M G) (hL : mI M' 40 21 = nI cs.length ∧ ∀ k (hk : k < cs.length), mI M' 51 k = nI cs[k]) (ho : ∀ b j, keepR b j → b ≠ 51 → (b ≠ 40 ∨ j ≠ 21) → mI M' b j = mI M b j) : SIMR M' (inpG G cs) := by
  obtain ⟨h1, h2, h3, ⟨h4, h5⟩, h6, h7⟩ := hR
  have e41 : mI M' 41 = mI M 41 := funext fun j => ho 41 j (by unfold keepR; omega) (by decide) (Or.inl (by decide))
  have e55 : mI M' 55 = mI M 55 := funext fun j => ho 55 j (by unfold keepR; omega) (by decide) (Or.inl (by decide))
  have e54 : mI M' 54 = mI M 54 := funext fun j => ho 54 j (by unfold keepR; omega) (by decide) (Or.inl (by decide))
  have e53 : mI M' 53 = mI M 53 := funext fun j => ho 53 j (by unfold keepR; omega) (by decide) (Or.inl (by decide))
  have e40 : ∀ j, j = 24 ∨ j = 27 ∨ j = 28 → mI M' 40 j = mI M 40 j := fun j h => ho 40 j (by unfold keepR; omega) (by decide) (by omega)
  exact ⟨by rw [e41]; exact h1, by rw [e40 28 (by omega)]; exact h2, fun F hF2 => by rw [e55]; exact h3 F hF2, ⟨by rw [e40 27 (by omega)]; exact h4, fun j hj => by rw [e54]; exact h5 j hj⟩, hL, by rw [e40 24 (by omega)]; exact h7.1, fun k hk => by rw [e53]; exact h7.2 k hk⟩
theorem q_write_1 (hR : SIMR M G) {Q : Int32 → MEM → Prop} (h1 : ¬ rng p1 0 3) (hQ : ∀ M', ENDR M G 1 M' → Q 0 M') : wp_X6_write 40 p1 M Q := ⟨rfl, q_slotF h1 (i0 (q_fails (k := 1) hR hQ))⟩
theorem q_write_2 (hR : SIMR M G) (hr : RS M s a nx) {Q : Int32 → MEM → Prop} (ha : sH a = false) (hQ : ∀ M', ENDR M G 2 M' → Q 0 M') : wp_X6_write 40 (nI s) M Q := ⟨rfl, q_slotT hr.s4 (i1 (q_thF hr ha (i0 (q_fails (k := 2) hR hQ))))⟩
theorem q_write_0 (hR : SIMR M G) (hr : RS M s a nx) {Q : Int32 → MEM → Prop} (ha : sH a = true) (hQ : ∀ M', ENDR M (outG G (textA a)) 0 M' → Q (nI (textA a).length) M') : wp_X6_write 40 (nI s) M Q := by
  have hw := hr.2.1
  have hx := hr.2.2.2
  have hn := hr.n
  have hhd := head_len hw ha
  have hhd2 := hhd
  unfold headT at hhd2
  simp only [List.length_append, List.length_cons, List.length_nil] at hhd2
  refine ⟨rfl, q_slotT hr.s4 (i1 (q_thT hr ha (i1 (fun M5 e5 M6 e6 => ?_))))⟩
  have E5 := z_end (k := 0) hR e5
  have F6 : ∀ b j, b ≠ 53 → (b ≠ 40 ∨ j ≠ 24) → mI M6 b j = mI M5 b j := fun b j h1 h2 => by rw [e6, rd_ne (by omega)]
  have FO6 : FrO M5 M6 := ⟨F6, by rw [e6]; rfl⟩
  have L6 : LetR M6 [] := ⟨by rw [e6, rd_eq]; rfl, fun k hk => absurd hk (Nat.not_lt_zero _)⟩
  have r5 := z_rs hr e5
  have r6 := FO6.rs r5
  refine q_kind r6 ha (q_print0 L6 (by simp) (fun M10 L10 F10 => ?_))
  have r10 := F10.rs r6
  refine q_size r10 ha (q_print (c := 47) (by decide) (by decide) L10 (by simp; omega) (fun M14 L14 F14 => ?_))
  have r14 := F14.rs r10
  refine q_seed r14 ha (q_print (c := 47) (by decide) (by decide) L14 (by simp; omega) (fun M18 L18 F18 => ?_))
  have r18 := F18.rs r14
  refine q_reach r18 ha (q_print (c := 47) (by decide) (by decide) L18 (by simp; omega) (fun M22 L22 F22 => ⟨sN a + 1, ?_⟩))
  have FF : FrO M5 M22 := (((FO6.trans F10).trans F14).trans F18).trans F22
  have L22' : LetR M22 (headT a ++ itsT a 0) := by
    have e : headT a ++ itsT a 0 = [] ++ numA (nI (sK a)) ++ 47 :: numA (nI (sZ a)) ++ 47 :: numA (sS a) ++ 47 :: numA (nI (sP a)) := by
      unfold headT itsT; simp
    rw [e]; exact L22
  have lp : ∀ f i M1, i ≤ sN a → sN a - i < f → LetR M1 (headT a ++ itsT a i) → FrO M5 M1 → wp_X6_write_L87 40 (nI s) Q f (nI i) M1 := by
    intro f
    induction f with
    | zero => intro i M1 _ h9; omega
    | succ f ih =>
      intro i M1 hi hf hL1 hF1
      have r1 := hF1.rs r5
      refine q_many r1 ha ?_
      rw [nI_leI (by omega) (by omega)]
      refine ⟨fun c => ?_, fun c => ?_⟩
      · have ei : i = sN a := by omega
        subst ei
        rw [hL1.1]
        refine hQ M1 ⟨⟨fun b hb j => ?_, ?_, ?_⟩, hR.outp hL1 (fun b j hk h1 h2 => ?_), ?_⟩
        · rw [hF1.1 b j (by omega) (by omega)]; exact E5.1.1 b hb j
        · show M1.2.1 60 0 = _; rw [hF1.2]; exact E5.1.2.1
        · rw [hF1.2]; exact E5.1.2.2
        · rw [hF1.1 b j h1 h2, e5, rd_ne (by unfold keepR at hk; omega)]
        · rw [hF1.1 40 0 (by decide) (by decide)]; exact E5.2.2
      · have hl2 := its_len hx hw i (by omega)
        have hl4 := itT_len hx (hr.ok (i := i) (by omega))
        refine q_item r1 ha (p := 0) (by omega) (by decide) (q_print (c := 59) (by decide) (by decide) hL1 (by rw [List.length_append]; omega) (fun M30 L30 F30 => ⟨6, ?_⟩))
        have lp2 : ∀ g m M2, 1 ≤ m → m ≤ 5 → 5 - m < g → LetR M2 (headT a ++ itsT a i ++ itT (it a i) m) → FrO M5 M2 → wp_X6_write_L111 40 (nI s) (wp_X6_write_L87 40 (nI s) Q f) (nI i) g (nI m) M2 := by
          intro g
          induction g with
          | zero => intro m M2 _ _ h9; omega
          | succ g ih2 =>
            intro m M2 hm1 hm hg hL2 hF2
            unfold wp_X6_write_L111
            rw [n5, nI_leI (by omega) (by omega)]
            refine ⟨fun c2 x e => ?_, fun c2 => q_item (hF2.rs r5) ha (by omega) (by omega) ?_⟩
            · have em : m = 5 := by omega
              subst em
              rw [e, n1, nA]
              refine ih (i + 1) M2 (by omega) (by omega) ?_ hF2
              rw [List.append_assoc] at hL2
              exact hL2
            · have h3 := hl4 m hm
              refine q_print (c := 44) (by decide) (by decide) hL2 (by rw [List.length_append, List.length_append]; omega) (fun M37 L37 F37 x e => ?_)
              rw [e, n1, nA]
              refine ih2 (m + 1) M37 (by omega) (by omega) (by omega) ?_ (hF2.trans F37)
              have e3 : itT (it a i) (m + 1) = itT (it a i) m ++ 44 :: numA (pt (it a i) m) := by
                show itT (it a i) m ++ ((if m = 0 then 59 else 44) :: numA (pt (it a i) m)) = _
                rw [if_neg (by omega)]
              rw [e3, ← List.append_assoc]; exact L37
        refine lp2 6 1 M30 (by decide) (by decide) (by decide) ?_ (hF1.trans F30)
        have e3 : itT (it a i) 1 = 59 :: numA (pt (it a i) 0) := rfl
        rw [e3]; exact L30
  exact lp _ 0 M22 (Nat.zero_le _) (by omega) L22' FF
theorem q_feed_1 (hR : SIMR M G) {Q : Int32 → MEM → Prop} (h : (gInp G).length = 120) (hQ : ∀ M', ENDR M G 1 M' → Q 0 M') : wp_X6_feed 40 p1 M Q := by
  refine ⟨rfl, ?_⟩
  rw [hR.2.2.2.2.1.1, h]
  exact ⟨fun w => absurd rfl w, fun _ => q_fails (k := 1) hR hQ⟩
theorem q_feed_0 (hR : SIMR M G) {Q : Int32 → MEM → Prop} {c : Nat} (hc : c < 65536) (h : (gInp G).length < 120) (hQ : ∀ M', ENDR M (inpG G (gInp G ++ [c])) 0 M' → Q (nI ((gInp G).length + 1)) M') : wp_X6_feed 40 (nI c) M Q := by
  obtain ⟨h21, h51⟩ := hR.2.2.2.2.1
  have q120 : nI (gInp G).length = 120 ↔ (gInp G).length = 120 := nI_eq (b := 120) (by omega) (by decide)
  refine ⟨rfl, ?_⟩
  rw [h21, q120]
  refine ⟨fun _ M1 e1 => ?_, fun w => absurd w (by omega)⟩
  have c1 : mI M1 40 21 = nI (gInp G).length := by rw [e1, rd_ne (by omega)]; exact h21
  rw [c1]
  refine ⟨rfl, nV h (by decide), gC_n hc, fun M5 e5 M6 e6 => ?_⟩
  rw [nC (by omega), show RF 40 18 = 51 from rfl] at e5
  have c5 : mI M5 40 21 = nI (gInp G).length := by rw [e5, rd_ne (by omega)]; exact c1
  rw [c5, nI_1] at e6
  have c6 : mI M6 40 21 = nI ((gInp G).length + 1) := by rw [e6, rd_eq]
  rw [c6]
  refine hQ M6 ⟨⟨fun b hb j => by rw [e6, rd_ne (by omega), e5, rd_ne (by omega), e1, rd_ne (by omega)], by rw [e6, e5, e1]; rfl, by rw [e6, e5, e1]; rfl⟩, hR.inpp ⟨by rw [c6, List.length_append]; rfl, fun k hk => ?_⟩ (fun b j hk h1 h2 => by rw [e6, rd_ne (by omega), e5, rd_ne (by omega), e1, rd_ne (by unfold keepR at hk; omega)]), by rw [e6, rd_ne (by omega), e5, rd_ne (by omega), e1, rd_eq]; rfl⟩
  rw [app_get hk, e6, rd_ne (by omega), e5]
  split
  · rename_i q; rw [rd_ne (by omega), e1, rd_ne (by omega)]; exact h51 k q
  · rename_i q
    have hk' : k < (gInp G).length + 1 := by rw [List.length_append] at hk; exact hk
    rw [show k = (gInp G).length by omega, rd_eq]
theorem out_toInt {n : Nat} (h : n ≤ 1279) : ((nI n - 1 : Int32).toInt64).toInt = (n : Int) - 1 := by
  rw [Int32.toInt_toInt64]
  exact pk_sub_toInt (a := n) (b := 1) (by omega) (by decide)
theorem q_text_1 (hR : SIMR M G) (hW : WFG B G) {Q : Int32 → MEM → Prop} (h : ¬ rng p1 0 ((gOut G).length - 1 : Int)) (hQ : ∀ M', ENDR M G 1 M' → Q 0 M') : wp_X6_text 40 p1 M Q := by
  refine ⟨rfl, ?_⟩
  rw [hR.2.2.2.2.2.1]
  refine q_btF (l := 0) (by decide) (out_toInt hW.2.2.2.2.2.2.1) h ⟨fun _ M4 e4 => ⟨fun _ => hQ M4 (z_end (k := 1) hR e4), fun w => ?_⟩, fun w => absurd rfl w⟩
  rw [e4, rd_eq] at w; exact absurd w (by decide)
theorem q_text_0 (hR : SIMR M G) (hW : WFG B G) {Q : Int32 → MEM → Prop} {k : Nat} (hk : k < (gOut G).length) (hQ : ∀ M', ENDR M G 0 M' → Q (nI (gOut G)[k]) M') : wp_X6_text 40 (nI k) M Q := by
  have hl := hW.2.2.2.2.2.2.1
  have hc := hW.2.2.2.2.2.2.2 _ (List.getElem_mem hk)
  refine ⟨rfl, ?_⟩
  rw [hR.2.2.2.2.2.1]
  refine q_btT (l := 0) (by decide) (out_toInt hl) ((rng_of (by omega)).mpr ⟨by omega, by omega⟩) ⟨fun w => absurd w (by decide), fun _ M4 e4 => ⟨fun w => ?_, fun _ => ⟨rfl, nV (by omega) (by decide), ?_⟩⟩⟩
  · rw [e4, rd_eq] at w; exact absurd rfl w
  · have e53 : mI M4 53 k = nI (gOut G)[k] := by rw [e4, rd_ne (by omega)]; exact hR.2.2.2.2.2.2 k hk
    have eg : gch (nI (gOut G)[k]) = nI (gOut G)[k] := by
      unfold gch
      rw [pk_char, pk_tn (by omega)]
      congr 1; omega
    rw [nC (by omega), show RF 40 20 = 53 from rfl, e53, eg]
    exact ⟨gC_n (by omega), hQ M4 (z_end (k := 0) hR e4)⟩
end PRT
