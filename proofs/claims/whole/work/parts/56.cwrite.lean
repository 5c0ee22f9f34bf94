-- PURE: the class writes a summary, gives a character, takes one
def itT (x : ITM) : Nat → List Nat
  | 0 => []
  | m + 1 => itT x m ++ ((if m = 0 then 59 else 44) :: numA (pt x m))
def itsT (a : SLT) : Nat → List Nat
  | 0 => []
  | i + 1 => itsT a i ++ itT (it a i) 5
def headT (a : SLT) : List Nat := numA (nI (sK a)) ++ [47] ++ numA (nI (sZ a)) ++ [47] ++ numA (sS a) ++ [47] ++ numA (nI (sP a))
def textA (a : SLT) : List Nat := headT a ++ itsT a (sN a)
theorem part_len {nx : Nat} (hx : nx ≤ 1100000) {x : ITM} (h : okI nx x) : (numA (pt x 0)).length ≤ 7 ∧ (numA (pt x 1)).length ≤ 2 ∧ (numA (pt x 2)).length ≤ 1 ∧ (numA (pt x 3)).length ≤ 2 ∧ (numA (pt x 4)).length ≤ 4 := by
  obtain ⟨h0, h1, h2, h3, h4, h5, h6⟩ := h
  refine ⟨numN_len (by omega) (by decide) (by omega), numN_len (by omega) (by decide) (by omega), numN_len (by omega) (by decide) (by omega), numN_len (by omega) (by decide) (by omega), ?_⟩
  have := numA_len (x := x.2.2.2.2) (k := 3) (by decide) (by omega)
  refine Nat.le_trans this ?_
  split <;> omega
theorem itT_len {nx : Nat} (hx : nx ≤ 1100000) {x : ITM} (h : okI nx x) : ∀ m, m ≤ 5 → (itT x m).length ≤ 21 := by
  obtain ⟨h0, h1, h2, h3, h4⟩ := part_len hx h
  intro m hm
  rcases (show m = 0 ∨ m = 1 ∨ m = 2 ∨ m = 3 ∨ m = 4 ∨ m = 5 by omega) with rfl | rfl | rfl | rfl | rfl | rfl <;> simp [itT] <;> omega
theorem head_len {nx : Nat} {a : SLT} (h : WF nx a) (ha : sH a = true) : (headT a).length ≤ 19 := by
  obtain ⟨v1, v2, v3, v4, v5, v6⟩ := h.2.2.1 ha
  have e1 := numN_len (n := sK a) (k := 1) (by omega) (by decide) (by omega)
  have e2 := numN_len (n := sZ a) (k := 2) (by omega) (by decide) (by omega)
  have e4 := numN_len (n := sP a) (k := 2) (by omega) (by decide) (by omega)
  have hx1 := (sS a).toInt_lt
  have hx2 := (sS a).le_toInt
  have e3 := numA_len (x := sS a) (k := 10) (by decide) (by omega)
  unfold headT
  simp only [List.length_append, List.length_cons, List.length_nil]
  split at e3 <;> omega
theorem its_len {nx : Nat} (hx : nx ≤ 1100000) {a : SLT} (h : WF nx a) : ∀ i, i ≤ sN a → (itsT a i).length ≤ 21 * i := by
  intro i
  induction i with
  | zero => intro _; exact Nat.zero_le _
  | succ i ih =>
    intro hi
    have h1 := ih (by omega)
    have h2 := itT_len hx (h.2.2.2.1 i (by omega)) 5 (Nat.le_refl _)
    show (itsT a i ++ itT (it a i) 5).length ≤ _
    rw [List.length_append]
    omega
theorem text_len {nx : Nat} (hx : nx ≤ 1100000) {a : SLT} (h : WF nx a) (ha : sH a = true) : (textA a).length ≤ 1279 := by
  have h1 := head_len h ha
  have h2 := its_len hx h (sN a) (Nat.le_refl _)
  have h3 := h.1
  unfold textA
  rw [List.length_append]
  omega
theorem itT_lt (x : ITM) : ∀ m, ∀ c ∈ itT x m, c < 128 := by
  intro m
  induction m with
  | zero => intro c h; exact absurd h List.not_mem_nil
  | succ m ih =>
    intro c h
    rcases List.mem_append.mp h with h | h
    · exact ih c h
    · rcases List.mem_cons.mp h with rfl | h
      · split <;> decide
      · exact numA_lt _ c h
theorem its_lt (a : SLT) : ∀ i, ∀ c ∈ itsT a i, c < 128 := by
  intro i
  induction i with
  | zero => intro c h; exact absurd h List.not_mem_nil
  | succ m ih =>
    intro c h
    rcases List.mem_append.mp h with h | h
    · exact ih c h
    · exact itT_lt _ _ c h
theorem text_lt (a : SLT) : ∀ c ∈ textA a, c < 128 := by
  intro c h
  rcases List.mem_append.mp h with h | h
  · unfold headT at h
    simp only [List.mem_append, List.mem_singleton] at h
    rcases h with (((((h | h) | h) | h) | h) | h) | h
    · exact numA_lt _ c h
    · omega
    · exact numA_lt _ c h
    · omega
    · exact numA_lt _ c h
    · omega
    · exact numA_lt _ c h
  · exact its_lt _ _ c h
section PW
variable {M : MEM} {G : GST} {B h nx : Nat} {a : SLT}
theorem CS.frL {M' : MEM} (hc : CS nx M h a) (hF : FrI (inL 10) M M') : CS nx M' h a := hc.of (fun b hb j => hF.1 b (by have := hc.h1; unfold inH at hb; unfold inL; omega) j)
theorem c_append (hc : CS nx M h a) (ha : sH a = true) (hL : Let M 10 []) {Q : MEM → Prop} (hQ : ∀ M', Let M' 10 (textA a) → FrI (inL 10) M M' → Q M') : wp_X4_appendTo h 10 M Q := by
  have hw := hc.2.1
  have hx := hc.2.2.2.2
  have hn := hc.n
  have hhd := head_len hw ha
  unfold headT at hhd
  simp only [List.length_append, List.length_cons, List.length_nil] at hhd
  refine ⟨hc.kd, rfl, ?_⟩
  obtain ⟨e1, e2, e3, e4, -⟩ := hc.1.2.2.2 ha
  rw [e1]
  refine l_addNumber hL (by simp) (fun M1 L1 F1 => l_add10 (c := 47) L1 (by simp; omega) (by decide) (fun M2 L2 F2 => ?_))
  have c2 := (hc.frL F1).frL F2
  rw [(c2.1.2.2.2 ha).2.1]
  refine l_addNumber L2 (by simp; omega) (fun M3 L3 F3 => l_add10 (c := 47) L3 (by simp; omega) (by decide) (fun M4 L4 F4 => ?_))
  have c4 := (c2.frL F3).frL F4
  rw [(c4.1.2.2.2 ha).2.2.1]
  refine l_addNumber L4 (by simp; omega) (fun M5 L5 F5 => l_add10 (c := 47) L5 (by simp; omega) (by decide) (fun M6 L6 F6 => ?_))
  have c6 := (c4.frL F5).frL F6
  rw [(c6.1.2.2.2 ha).2.2.2.1]
  refine l_addNumber L6 (by simp; omega) (fun M7 L7 F7 => ⟨sN a + 1, ?_⟩)
  have c7 := c6.frL F7
  have FF : FrI (inL 10) M M7 := (((((F1.trans F2).trans F3).trans F4).trans F5).trans F6).trans F7
  have hL7 : Let M7 10 (headT a ++ itsT a 0) := by
    have e : headT a ++ itsT a 0 = [] ++ numA (nI (sK a)) ++ [47] ++ numA (nI (sZ a)) ++ [47] ++ numA (sS a) ++ [47] ++ numA (nI (sP a)) := by
      unfold headT itsT; simp
    rw [e]; exact L7
  have lp : ∀ f i M1, i ≤ sN a → sN a - i < f → CS nx M1 h a → Let M1 10 (headT a ++ itsT a i) → FrI (inL 10) M M1 → wp_X4_appendTo_L52 h 10 Q f (nI i) M1 := by
    intro f
    induction f with
    | zero => intro i M1 _ h9; omega
    | succ f ih =>
      intro i M1 hi hf hc1 hL1 hF1
      unfold wp_X4_appendTo_L52
      by_cases c : i = sN a
      · subst c
        simp (disch := omega) only [hc1.cnt, nEF, nET, true_and, and_true, true_implies, false_implies, not_true_eq_false, not_false_eq_true, forall_const, false_or, or_false, if_true, if_false]
        exact hQ M1 hL1 hF1
      · simp (disch := omega) only [hc1.cnt, nEF, nET, true_and, and_true, true_implies, false_implies, not_true_eq_false, not_false_eq_true, forall_const, false_or, or_false, if_true, if_false]
        refine ⟨6, ?_⟩
        have hl1 := head_len hw ha
        have hl2 := its_len hx hw i (by omega)
        have lp2 : ∀ g m M2, m ≤ 5 → 5 - m < g → CS nx M2 h a → Let M2 10 (headT a ++ itsT a i ++ itT (it a i) m) → FrI (inL 10) M M2 → wp_X4_appendTo_L62 h 10 (wp_X4_appendTo_L52 h 10 Q f) (nI i) g (nI m) M2 := by
          intro g
          induction g with
          | zero => intro m M2 _ h9; omega
          | succ g ih2 =>
            intro m M2 hm hg hc2 hL2 hF2
            unfold wp_X4_appendTo_L62
            by_cases d : m = 5
            · subst d
              simp (disch := omega) only [n5, nEF, nET, n1, nA, true_and, and_true, true_implies, false_implies, not_true_eq_false, not_false_eq_true, forall_const, false_or, or_false, forall_eq, if_true, if_false]
              refine ih (i + 1) M2 (by omega) (by omega) hc2 ?_ hF2
              rw [List.append_assoc] at hL2
              exact hL2
            · have hok := hc.ok (i := i) (by omega)
              have hpl := part_len hx hok
              have hit := itT_len hx hok m hm
              have hlen : (headT a ++ itsT a i ++ itT (it a i) m).length ≤ 19 + 21 * 60 + 21 := by
                simp only [List.length_append]
                omega
              have go : ∀ c, c = (if m = 0 then 59 else 44) → wp_X4_appendTo_J79 h 10 (nI i) (wp_X4_appendTo_L62 h 10 (wp_X4_appendTo_L52 h 10 Q f) (nI i) g) (nI m) M2 (nI c) := by
                intro c hcc
                refine l_add10 hL2 (by omega) (by rw [hcc]; split <;> decide) (fun M3 L3 F3 => ?_)
                have c3 := hc2.frL F3
                refine c_part c3 (by omega) (by omega) (l_addNumber L3 (by simp only [List.length_append, List.length_cons, List.length_nil] at hlen ⊢; omega) (fun M4 L4 F4 x3 e3 => ?_))
                rw [e3, n1, nA]
                refine ih2 (m + 1) M4 (by omega) (by omega) (c3.frL F4) ?_ ((hF2.trans F3).trans F4)
                have : headT a ++ itsT a i ++ itT (it a i) (m + 1) = headT a ++ itsT a i ++ itT (it a i) m ++ [c] ++ numA (pt (it a i) m) := by
                  rw [hcc]; simp [itT]
                rw [this]; exact L4
              refine ⟨fun w => absurd ((nI_leI (a := 5) (by decide) (by omega)).mp w) (by omega), fun _ => ⟨fun w => ?_, fun w => ?_⟩⟩
              · have hm0 : m ≠ 0 := fun e => w (by rw [e]; rfl)
                exact go 44 (by rw [if_neg hm0])
              · have hm0 : m = 0 := (nI_eq (b := 0) (by omega) (by decide)).mp w
                exact go 59 (by rw [if_pos hm0])
        exact lp2 6 0 M1 (by omega) (by omega) hc1 (by rw [show itT (it a i) 0 = [] from rfl, List.append_nil]; exact hL1) hF1
  exact lp _ 0 M7 (Nat.zero_le _) (by omega) c7 hL7 FF
def outG (G : GST) (cs : List Nat) : GST := (G.1, G.2.1, G.2.2.1, G.2.2.2.1, cs)
def inpG (G : GST) (cs : List Nat) : GST := (G.1, G.2.1, G.2.2.1, cs, G.2.2.2.2)
theorem SIMC.inp (hS : SIMC M G) : Let M 8 (gInp G) := hS.2.2.2.2.2.1
theorem SIMC.out (hS : SIMC M G) : Let M 10 (gOut G) := hS.2.2.2.2.2.2
theorem SIMC.outSet {M' : MEM} (hS : SIMC M G) {cs : List Nat} (hL : Let M' 10 cs) (hF : FrI (inL 10) M M') : SIMC M' (outG G cs) := by
  have hrep : ∀ {h a}, 100 ≤ h → RepC M h a → RepC M' h a := fun h1 hr => hr.of (fun b hb j => hF.1 b (by unfold inH at hb; unfold inL; omega) j)
  have e : ∀ b, b < 10 → ∀ j, mI M' b j = mI M b j := fun b hb j => hF.1 b (by unfold inL; omega) j
  obtain ⟨h1, h2, h3, h4, ⟨h5, tp, ht, h6, h7⟩, h8, h9⟩ := hS
  refine ⟨fun i hi => hrep (by omega) (h1 i hi), by rw [e 1 (by decide)]; exact h2, by rw [e 1 (by decide)]; exact h3, fun F hF => ⟨fun i hi => hrep (by omega) ((h4 F hF).1 i hi), by rw [e 1 (by decide)]; exact (h4 F hF).2⟩, ⟨by rw [e 4 (by decide)]; exact h5, tp, ht, by rw [e 4 (by decide)]; exact h6, fun j hj => ?_⟩, ⟨by rw [e 8 (by decide)]; exact h8.1, fun k hk => by rw [e 9 (by decide)]; exact h8.2 k hk⟩, hL⟩
  obtain ⟨a, b, c⟩ := h7 j hj
  exact ⟨by rw [e 6 (by decide)]; exact a, hrep (by omega) b, by rw [e 7 (by decide)]; exact c⟩
theorem SIMC.inpSet {M' : MEM} (hS : SIMC M G) {cs : List Nat} (hL : Let M' 8 cs) (hF : ∀ b, liveC b → b ≠ 8 → b ≠ 9 → ∀ j, mI M' b j = mI M b j) : SIMC M' (inpG G cs) := by
  have hrep : ∀ {h a}, 100 ≤ h → h < 121 → h ≠ 108 → RepC M h a → RepC M' h a := fun h1 h2 h3 hr => hr.of (fun b hb j => hF b (by unfold inH at hb; unfold liveC; omega) (by unfold inH at hb; omega) (by unfold inH at hb; omega) j)
  have e : ∀ b, b = 1 ∨ b = 4 ∨ b = 6 ∨ b = 7 ∨ b = 10 ∨ b = 11 → ∀ j, mI M' b j = mI M b j := fun b hb j => hF b (by unfold liveC; omega) (by omega) (by omega) j
  obtain ⟨h1, h2, h3, h4, ⟨h5, tp, ht, h6, h7⟩, h8, h9⟩ := hS
  refine ⟨fun i hi => hrep (by omega) (by omega) (by omega) (h1 i hi), by rw [e 1 (by decide)]; exact h2, by rw [e 1 (by decide)]; exact h3, fun F hF => ⟨fun i hi => hrep (by omega) (by omega) (by omega) ((h4 F hF).1 i hi), by rw [e 1 (by decide)]; exact (h4 F hF).2⟩, ⟨by rw [e 4 (by decide)]; exact h5, tp, ht, by rw [e 4 (by decide)]; exact h6, fun j hj => ?_⟩, hL, ⟨by rw [e 10 (by decide)]; exact h9.1, fun k hk => by rw [e 11 (by decide)]; exact h9.2 k hk⟩⟩
  obtain ⟨a, b, c⟩ := h7 j hj
  have hx : rix tp j < 10 := Nat.mod_lt _ (by decide)
  exact ⟨by rw [e 6 (by decide)]; exact a, hrep (by omega) (by omega) (by omega) b, by rw [e 7 (by decide)]; exact c⟩
theorem c_write (hS : SIMC M G) (hW : WFG B G) (hB : B ≤ 1100000) {p1 : Int32} {Q : Int32 → MEM → Prop} {X : String → MEM → Prop}
    (x1 : ¬ rng p1 0 3 → X "java/lang/IndexOutOfBoundsException" M) (x2 : ∀ s, s < 4 → p1 = nI s → sH ((gCur G).1 s) = false → X "java/lang/IllegalStateException" M)
    (hQ : ∀ s, s < 4 → p1 = nI s → sH ((gCur G).1 s) = true → ∀ M', SIMC M' (outG G (textA ((gCur G).1 s))) → EqR M M' → Q (nI (textA ((gCur G).1 s)).length) M') : wp_X5_write 1 p1 M Q X := by
  refine ⟨rfl, s_slotAt (fun s hs e => ?_) x1⟩
  subst e
  have hc := hS.cs hW hB hs
  refine c_filled hc (fun ha => ⟨rfl, rfl, fun M6 e6 => ⟨hc.kd, ?_⟩⟩) (x2 s hs rfl)
  have e6' : M6 = uI M 10 1 0 := e6
  have F6 : FrI (inL 10) M M6 := by rw [e6']; exact FrI.uI (Or.inl rfl)
  have L6 : Let M6 10 [] := ⟨by rw [e6', rd_eq]; rfl, fun k hk => absurd hk (Nat.not_lt_zero _)⟩
  refine c_append (hc.frL F6) ha L6 (fun M9 L9 F9 => ⟨rfl, ?_⟩)
  rw [show mI M9 (RF 1 10) 1 = nI (textA ((gCur G).1 s)).length from L9.1]
  exact hQ s hs rfl ha M9 (hS.outSet L9 (F6.trans F9)) (EqR.fr (F6.trans F9) (fun b p q => by unfold inL; omega))
theorem c_text (hS : SIMC M G) (hW : WFG B G) {p1 : Int32} {Q : Int32 → Prop} {X : String → Prop} (x1 : ¬ rng p1 0 ((gOut G).length - 1 : Int) → X "java/lang/IndexOutOfBoundsException")
    (hQ : ∀ k (hk : k < (gOut G).length), p1 = nI k → Q (nI (gOut G)[k])) : wp_X5_text 1 p1 M Q X := by
  have hl := hW.2.2.2.2.2.2.1
  have hlt := hW.2.2.2.2.2.2.2
  obtain ⟨h1, h2⟩ := hS.out
  refine ⟨rfl, fun c => x1 (fun w => ?_), fun c => ⟨rfl, rfl, ?_⟩⟩
  · have := Int32.lt_iff_toInt_lt.mp c; have := w.1; simp at *; omega
  · rw [show mI M (RF 1 10) 1 = nI (gOut G).length from h1]
    have hc2 : ¬ p1.toInt < 0 := fun w => c (Int32.lt_iff_toInt_lt.mpr (by simpa using w))
    refine ⟨fun d => ?_, fun d => x1 (fun w => d (Int32.lt_iff_toInt_lt.mpr ?_))⟩
    · have d2 := Int32.lt_iff_toInt_lt.mp d
      rw [nI_toInt (by omega)] at d2
      obtain ⟨k, e, -, hk, -⟩ := rng_nI (x := p1) (l := 0) (u := (gOut G).length - 1) ⟨by omega, by omega⟩ (by decide)
      subst e
      have hk' : k < (gOut G).length := by omega
      have hch : (gOut G)[k] < 128 := hlt _ (List.getElem_mem hk')
      refine ⟨rfl, fun w => absurd w (nI_pos (by omega)), fun _ => ⟨fun w => ?_, fun _ => ⟨2048, rfl, fun _ => ⟨nV (by omega) (by decide), ?_⟩, fun w => absurd (nI_lt (b := 2048) (by omega) (by decide)) w⟩⟩⟩
      · rw [show mI M (RF 1 10) 1 = nI (gOut G).length from h1] at w
        exact absurd w (nI_ge hk' (by omega))
      · rw [nC (by omega), show mI M (RF (RF 1 10) 0) k = nI (gOut G)[k] from h2 k hk']
        exact ⟨gC_n (by omega), gC_n (by omega), hQ k hk' rfl⟩
    · rw [nI_toInt (by omega)]
      have := w.2; omega
theorem c_feed (hS : SIMC M G) (hW : WFG B G) {c : Nat} (hc : c < 65536) {Q : Int32 → MEM → Prop} {X : String → MEM → Prop} (x1 : (gInp G).length = 120 → X "java/lang/IllegalStateException" M)
    (hQ : (gInp G).length < 120 → ∀ M', SIMC M' (inpG G (gInp G ++ [c])) → EqR M M' → Q (nI ((gInp G).length + 1)) M') : wp_X5_feed 1 (nI c) M Q X := by
  have hl := hW.2.2.2.2.2.1.1
  have hL := hS.inp
  refine ⟨rfl, rfl, rfl, 120, rfl, ?_⟩
  rw [show mI M (RF 1 9) 1 = nI (gInp G).length from hL.1]
  refine ⟨fun q => ⟨fun _ => ?_, fun w => absurd rfl w⟩, fun q => ⟨fun w => absurd w (by decide), fun _ => ?_⟩⟩
  · have q' : (gInp G).length < 120 := (nI_ltI (by omega) (by decide)).mp q
    refine l_addG (o := 8) (cap := 120) rfl rfl rfl (by decide) hL q' hc (fun M1 L1 F1 => ⟨rfl, ?_⟩)
    rw [show mI M1 (RF 1 9) 1 = nI ((gInp G) ++ [c]).length from L1.1, List.length_append]
    exact hQ q' M1 (hS.inpSet L1 (fun b _ h8 h9 j => F1.1 b (by unfold inL; omega) j)) (EqR.fr F1 (fun b p q => by unfold inL; omega))
  · refine x1 ?_
    have : ¬ (gInp G).length < 120 := fun w => q (nI_lt w (by decide))
    omega
end PW
