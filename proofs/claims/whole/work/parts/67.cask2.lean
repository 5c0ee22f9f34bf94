-- PURE: what the class is asked: kept, sampled, mix, reason, needed, margin
section PQ2
variable {M : MEM} {o d h nx B : Nat} {a : SLT} {G : GST}
def keptA (a : SLT) (i w : Nat) : Int32 := if w = 5 then posA a i else pt (it a i) w
def reasonA (a : SLT) (i : Nat) : Int32 := if i ∈ CH a then 0 else if candA a i = true then (if sK a = 2 ∧ sQ a (stA a i) = 0 then 3 else 2) else 1
theorem CS.noL (hc : CS nx M h a) (h0 : sH a = false) : sN a = 0 := by
  have := hc.2.1.2.1 h0
  show (sL a).length = 0
  rw [this]; rfl
/-- the three ways in: a slot, an item, a summary -/
theorem c_item (hS : SIMC M G) (hW : WFG B G) (hB : B ≤ 1100000) {p1 p2 : Int32} {R : Nat → Prop} {X : String → MEM → Prop}
    (x1 : ¬ rng p1 0 3 → X "java/lang/IndexOutOfBoundsException" M)
    (x1b : ∀ s, s < 4 → p1 = nI s → sH ((gCur G).1 s) = true → ¬ rng p2 0 ((sN ((gCur G).1 s) : Int) - 1) → X "java/lang/IndexOutOfBoundsException" M)
    (hQ : ∀ s, s < 4 → p1 = nI s → (sH ((gCur G).1 s) = true → ∃ i, p2 = nI i ∧ i < sN ((gCur G).1 s)) → CS (gCur G).2 M (100 + s) ((gCur G).1 s) → R (100 + s)) : wp_X5_slotAt 1 p1 M (fun r_1 => wp_X5_needItem r_1 p2 M (R r_1) (fun En => X En M)) (fun En => X En M) := by
  refine s_slotAt (fun s hs e => ?_) x1
  have hc := hS.cs hW hB hs
  refine c_needItem hc (fun h0 => hQ s hs e (fun w => ?_) hc) (fun i ha e2 hi => hQ s hs e (fun _ => ⟨i, e2, hi⟩) hc) (fun ha r => x1b s hs e ha r)
  rw [h0] at w; exact absurd w (by decide)
theorem c_kept (hS : SIMC M G) (hW : WFG B G) (hB : B ≤ 1100000) {p1 p2 p3 : Int32} {Q : Int32 → MEM → Prop} {X : String → MEM → Prop}
    (x1 : ¬ rng p1 0 3 → X "java/lang/IndexOutOfBoundsException" M)
    (x1b : ∀ s, s < 4 → p1 = nI s → sH ((gCur G).1 s) = true → ¬ rng p2 0 ((sN ((gCur G).1 s) : Int) - 1) → X "java/lang/IndexOutOfBoundsException" M)
    (x2 : ∀ s, s < 4 → p1 = nI s → (sH ((gCur G).1 s) = true → ∃ i, p2 = nI i ∧ i < sN ((gCur G).1 s)) → ¬ rng p3 0 5 → X "java/lang/IllegalArgumentException" M)
    (x3 : ∀ s, s < 4 → p1 = nI s → rng p3 0 5 → sH ((gCur G).1 s) = false → X "java/lang/IllegalStateException" M)
    (hQ : ∀ s i w, s < 4 → p1 = nI s → p2 = nI i → i < sN ((gCur G).1 s) → p3 = nI w → w ≤ 5 → sH ((gCur G).1 s) = true → ∀ M', SIMC M' G → EqR M M' → Q (keptA ((gCur G).1 s) i w) M') : wp_X5_kept 1 p1 p2 p3 M Q X := by
  have sm : smp 16 15 := Or.inl ⟨rfl, rfl⟩
  refine ⟨rfl, c_item hS hW hB x1 x1b (fun s hs e hit hc => ?_)⟩
  refine s_w32 0 5 (by decide) (by decide) (fun r3 => s_need (fun _ => ?_) (fun e => absurd e (by decide))) (fun r3 => s_need (fun e => absurd rfl e) (fun _ => x2 s hs e hit r3))
  refine c_filled hc (fun ha => ?_) (x3 s hs e r3)
  obtain ⟨i, e2, hi⟩ := hit ha
  obtain ⟨w, e3, -, hw, -⟩ := rng_nI r3 (by decide)
  subst e2; subst e3
  have hn := hc.n
  have hQ' := hQ s i w hs e rfl hi rfl (by omega) ha
  unfold keptA at hQ'
  rw [n5, nI_leI (by decide) (by omega)]
  refine ⟨fun q => ?_, fun q => ?_⟩
  · rw [if_pos (by omega)] at hQ'
    exact s_find hS hc ha (fun M' hP hc' S' E' => ⟨rfl, f_pos sm hc' hP hi (hQ' M' S' E')⟩)
  · rw [if_neg (by omega)] at hQ'
    exact ⟨hc.kd, c_part hc (by omega) (by omega) (hQ' M hS (EqR.refl M))⟩
theorem c_mix (hS : SIMC M G) (hW : WFG B G) (hB : B ≤ 1100000) {p1 p2 : Int32} {Q : Int64 → Prop} {X : String → Prop}
    (x1 : ¬ rng p1 0 3 → X "java/lang/IndexOutOfBoundsException")
    (x1b : ∀ s, s < 4 → p1 = nI s → sH ((gCur G).1 s) = true → ¬ rng p2 0 ((sN ((gCur G).1 s) : Int) - 1) → X "java/lang/IndexOutOfBoundsException")
    (x3 : ∀ s, s < 4 → p1 = nI s → sH ((gCur G).1 s) = false → X "java/lang/IllegalStateException")
    (hQ : ∀ s i, s < 4 → p1 = nI s → p2 = nI i → i < sN ((gCur G).1 s) → sH ((gCur G).1 s) = true → Q (lN (mx ((gCur G).1 s) i))) : wp_X5_mix 1 p1 p2 M Q X := by
  refine ⟨rfl, c_item (X := fun E _ => X E) hS hW hB x1 x1b (fun s hs e hit hc => ?_)⟩
  refine c_filled hc (fun ha => ?_) (x3 s hs e)
  obtain ⟨i, e2, hi⟩ := hit ha
  subst e2
  have hn := hc.n
  have hk := (hc.2.1.2.2.1 ha).1
  exact ⟨hc.kd, s_mixAt hc.1 hc.h1 hc.h2 ha hn hk (by omega) (hQ s i hs e rfl hi ha)⟩
theorem c_lim (hc : CS nx M h a) (ha : sH a = true) {i : Nat} (hi : i < sN a) {Q : Int32 → Prop} (hQ : Q (nI (limA a i))) : wp_X4_limitFor h (nI i) M Q := by
  have hn := hc.n
  exact s_limitFor hc.1 hc.h1 hc.h2 ha hn (hc.2.1.2.2.1 ha).1 (by omega) (hc.str i) hQ
theorem c_reason (hS : SIMC M G) (hW : WFG B G) (hB : B ≤ 1100000) {p1 p2 : Int32} {Q : Int32 → MEM → Prop} {X : String → MEM → Prop}
    (x1 : ¬ rng p1 0 3 → X "java/lang/IndexOutOfBoundsException" M)
    (x1b : ∀ s, s < 4 → p1 = nI s → sH ((gCur G).1 s) = true → ¬ rng p2 0 ((sN ((gCur G).1 s) : Int) - 1) → X "java/lang/IndexOutOfBoundsException" M)
    (x3 : ∀ s, s < 4 → p1 = nI s → sH ((gCur G).1 s) = false → X "java/lang/IllegalStateException" M)
    (hQ : ∀ s i, s < 4 → p1 = nI s → p2 = nI i → i < sN ((gCur G).1 s) → sH ((gCur G).1 s) = true → ∀ M', SIMC M' G → EqR M M' → Q (reasonA ((gCur G).1 s) i) M') : wp_X5_reason 1 p1 p2 M Q X := by
  have sm : smp 16 15 := Or.inl ⟨rfl, rfl⟩
  refine ⟨rfl, c_item hS hW hB x1 x1b (fun s hs e hit hc => ?_)⟩
  refine c_filled hc (fun ha => ?_) (x3 s hs e)
  obtain ⟨i, e2, hi⟩ := hit ha
  subst e2
  have hn := hc.n
  refine s_find hS hc ha (fun M' hP hc' S' E' => ⟨rfl, f_pos sm hc' hP hi ?_⟩)
  have hQ' := hQ s i hs e rfl hi ha M' S' E'
  unfold reasonA at hQ'
  obtain ⟨pn, -⟩ := pos_neg hc' i
  have hrk := rnk_lt hc' i
  obtain ⟨v1, -, -, -, v5, -⟩ := hc'.2.1.2.2.1 ha
  rw [pn]
  refine ⟨fun q => ?_, fun q => ?_⟩
  · rw [if_neg q] at hQ'
    refine f_rank sm hc' hP hi ?_
    by_cases c : candA ((gCur G).1 s) i = true
    · rw [if_pos c] at hQ' ⊢
      refine ⟨fun _ => ⟨hc.kd, ?_⟩, fun w => absurd (nI_pos' (by omega)) w⟩
      rw [(hc'.1.2.2.2 ha).1, n2, nI_eq (by omega) (by decide)]
      refine ⟨fun k2 => ?_, fun k2 => c_lim hc' ha hi ?_⟩
      · rw [if_neg (fun w => k2 w.1)] at hQ'; exact hQ'
      · have hl : limA ((gCur G).1 s) i = sQ ((gCur G).1 s) (stA ((gCur G).1 s) i) := by unfold limA; rw [if_pos k2]
        have hq : sQ ((gCur G).1 s) (stA ((gCur G).1 s) i) ≤ 12 := v5 _ (hc'.str i)
        rw [hl, n0, nI_eq (by omega) (by decide)]
        refine ⟨fun z => ?_, fun z => ?_⟩
        · rw [if_neg (fun w => z w.2)] at hQ'; exact hQ'
        · rw [if_pos ⟨k2, z⟩] at hQ'; exact hQ'
    · rw [if_neg c] at hQ' ⊢
      exact ⟨fun w => absurd w (by decide), fun _ => hQ'⟩
  · rw [if_pos (Decidable.not_not.mp q)] at hQ'; exact hQ'
theorem c_needed (hS : SIMC M G) (hW : WFG B G) (hB : B ≤ 1100000) {p1 p2 : Int32} {Q : Int32 → MEM → Prop} {X : String → MEM → Prop}
    (x1 : ¬ rng p1 0 3 → X "java/lang/IndexOutOfBoundsException" M)
    (x1b : ∀ s, s < 4 → p1 = nI s → sH ((gCur G).1 s) = true → ¬ rng p2 0 ((sN ((gCur G).1 s) : Int) - 1) → X "java/lang/IndexOutOfBoundsException" M)
    (x3 : ∀ s, s < 4 → p1 = nI s → sH ((gCur G).1 s) = false → X "java/lang/IllegalStateException" M)
    (x4 : ∀ s i, s < 4 → p1 = nI s → p2 = nI i → i < sN ((gCur G).1 s) → sH ((gCur G).1 s) = true → ¬ candA ((gCur G).1 s) i = true → ∀ M', SIMC M' G → EqR M M' → X "java/util/NoSuchElementException" M')
    (hQ : ∀ s i, s < 4 → p1 = nI s → p2 = nI i → i < sN ((gCur G).1 s) → sH ((gCur G).1 s) = true → candA ((gCur G).1 s) i = true → ∀ M', SIMC M' G → EqR M M' → Q (nI (rnkA ((gCur G).1 s) i + 1)) M') : wp_X5_needed 1 p1 p2 M Q X := by
  have sm : smp 16 15 := Or.inl ⟨rfl, rfl⟩
  refine ⟨rfl, c_item hS hW hB x1 x1b (fun s hs e hit hc => ?_)⟩
  refine c_filled hc (fun ha => ?_) (x3 s hs e)
  obtain ⟨i, e2, hi⟩ := hit ha
  subst e2
  refine s_find hS hc ha (fun M' hP hc' S' E' => ⟨rfl, f_rank sm hc' hP hi ?_⟩)
  have hrk := rnk_lt hc' i
  by_cases c : candA ((gCur G).1 s) i = true
  · rw [if_pos c, n1, nA]
    exact ⟨fun _ => hQ s i hs e rfl hi ha c M' S' E', fun w => absurd (nI_pos' (by omega)) w⟩
  · rw [if_neg c]
    exact ⟨fun w => absurd w (by decide), fun _ => x4 s i hs e rfl hi ha c M' S' E'⟩
theorem CH_cand (hc : CS nx M h a) {i : Nat} (h1 : i ∈ CH a) : candA a i = true := (CH_mem hc.st h1).2
theorem c_margin (hS : SIMC M G) (hW : WFG B G) (hB : B ≤ 1100000) {p1 p2 : Int32} {Q : Int32 → MEM → Prop} {X : String → MEM → Prop}
    (x1 : ¬ rng p1 0 3 → X "java/lang/IndexOutOfBoundsException" M)
    (x1b : ∀ s, s < 4 → p1 = nI s → sH ((gCur G).1 s) = true → ¬ rng p2 0 ((sN ((gCur G).1 s) : Int) - 1) → X "java/lang/IndexOutOfBoundsException" M)
    (x3 : ∀ s, s < 4 → p1 = nI s → sH ((gCur G).1 s) = false → X "java/lang/IllegalStateException" M)
    (x4 : ∀ s i, s < 4 → p1 = nI s → p2 = nI i → i < sN ((gCur G).1 s) → sH ((gCur G).1 s) = true → i ∉ CH ((gCur G).1 s) → ∀ M', SIMC M' G → EqR M M' → X "java/util/NoSuchElementException" M')
    (hQ : ∀ s i, s < 4 → p1 = nI s → p2 = nI i → i < sN ((gCur G).1 s) → sH ((gCur G).1 s) = true → i ∈ CH ((gCur G).1 s) → ∀ M', SIMC M' G → EqR M M' → Q (nI (limA ((gCur G).1 s) i) - nI (rnkA ((gCur G).1 s) i)) M') : wp_X5_margin 1 p1 p2 M Q X := by
  have sm : smp 16 15 := Or.inl ⟨rfl, rfl⟩
  refine ⟨rfl, c_item hS hW hB x1 x1b (fun s hs e hit hc => ?_)⟩
  refine c_filled hc (fun ha => ?_) (x3 s hs e)
  obtain ⟨i, e2, hi⟩ := hit ha
  subst e2
  refine s_find hS hc ha (fun M' hP hc' S' E' => ⟨rfl, f_pos sm hc' hP hi ?_⟩)
  obtain ⟨-, pp⟩ := pos_neg hc' i
  rw [pp]
  refine ⟨fun c => ⟨hc.kd, c_lim hc' ha hi (f_rank sm hc' hP hi ?_)⟩, fun c => x4 s i hs e rfl hi ha c M' S' E'⟩
  rw [if_pos (CH_cand hc' c)]
  exact hQ s i hs e rfl hi ha c M' S' E'
theorem c_sampled (hS : SIMC M G) (hW : WFG B G) (hB : B ≤ 1100000) {p1 p2 p3 : Int32} {Q : Int32 → MEM → Prop} {X : String → MEM → Prop}
    (x1 : ¬ rng p1 0 3 → X "java/lang/IndexOutOfBoundsException" M)
    (x1b : ∀ s, s < 4 → p1 = nI s → sH ((gCur G).1 s) = true → ¬ rng p2 0 (((CH ((gCur G).1 s)).length : Int) - 1) → ∀ M', SIMC M' G → EqR M M' → X "java/lang/IndexOutOfBoundsException" M')
    (x2 : ∀ s, s < 4 → p1 = nI s → (sH ((gCur G).1 s) = true → ∃ i, p2 = nI i ∧ i < (CH ((gCur G).1 s)).length) → ¬ rng p3 0 4 → ∀ M', SIMC M' G → EqR M M' → X "java/lang/IllegalArgumentException" M')
    (x3 : ∀ s, s < 4 → p1 = nI s → rng p3 0 4 → sH ((gCur G).1 s) = false → ∀ M', SIMC M' G → EqR M M' → X "java/lang/IllegalStateException" M')
    (hQ : ∀ s i w, s < 4 → p1 = nI s → p2 = nI i → i < (CH ((gCur G).1 s)).length → p3 = nI w → w ≤ 4 → sH ((gCur G).1 s) = true → ∀ M', SIMC M' G → EqR M M' → Q (pt (it ((gCur G).1 s) (gd (CH ((gCur G).1 s)) i)) w) M') : wp_X5_sampled 1 p1 p2 p3 M Q X := by
  have sm : smp 16 15 := Or.inl ⟨rfl, rfl⟩
  refine ⟨rfl, s_slotAt (fun s hs e => ?_) x1⟩
  have hc := hS.cs hW hB hs
  cases hh : sH ((gCur G).1 s) with
  | false =>
    refine ⟨rfl, rfl, f_find0 sm hc (hc.noL hh) (fun M' hF => ?_)⟩
    obtain ⟨S', E'⟩ := hF.sim sm hS
    have hc' := FrS.cs hc sm hF
    refine ⟨hc.kd, s_isFilled hc'.1 hc'.h1 hc'.h2 ?_⟩
    rw [hh]
    refine ⟨fun _ => ?_, fun w => absurd rfl w⟩
    refine s_w32 0 4 (by decide) (by decide) (fun r3 => s_need (fun _ => ?_) (fun e => absurd e (by decide))) (fun r3 => s_need (fun e => absurd rfl e) (fun _ => x2 s hs e (fun w => by rw [hh] at w; exact absurd w (by decide)) r3 M' S' E'))
    exact c_filled hc' (fun ha => by rw [hh] at ha; exact absurd ha (by decide)) (fun _ => x3 s hs e r3 hh M' S' E')
  | true =>
    refine s_find hS hc hh (fun M' hP hc' S' E' => ⟨hc.kd, s_isFilled hc'.1 hc'.h1 hc'.h2 ?_⟩)
    rw [hh]
    have h60 := CH_60 hc'
    refine ⟨fun w => absurd w (by decide), fun _ => ⟨rfl, f_size sm hP ?_⟩⟩
    refine s_w32 0 (((CH ((gCur G).1 s)).length : Int) - 1) (by decide) ?_ (fun r => ⟨fun _ => ?_, fun e => absurd e (by decide)⟩) (fun r => ⟨fun e => absurd rfl e, fun _ => x1b s hs e hh r M' S' E'⟩)
    · rw [Int32.toInt_toInt64]
      exact pk_sub_toInt (a := (CH ((gCur G).1 s)).length) (b := 1) (by omega) (by decide)
    · obtain ⟨i, e2, -, hi, -⟩ := rng_nI r (by decide)
      subst e2
      have hi' : i < (CH ((gCur G).1 s)).length := by omega
      refine s_w32 0 4 (by decide) (by decide) (fun r3 => s_need (fun _ => ?_) (fun e => absurd e (by decide))) (fun r3 => s_need (fun e => absurd rfl e) (fun _ => x2 s hs e (fun w => ⟨i, rfl, hi'⟩) r3 M' S' E'))
      refine c_filled hc' (fun ha => ⟨rfl, ?_⟩) (fun w => by rw [hh] at w; exact absurd w (by decide))
      obtain ⟨w, e3, -, hw, -⟩ := rng_nI r3 (by decide)
      subst e3
      exact f_part sm hc' hP hi' (by omega) (hQ s i w hs e rfl hi' rfl (by omega) hh M' S' E')
end PQ2
