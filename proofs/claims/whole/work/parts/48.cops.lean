-- PURE: the class's calls that change a slot
def EqR (M M' : MEM) : Prop := ∀ b, 40 ≤ b → b < 60 → ∀ j, mI M' b j = mI M b j
theorem EqR.refl (M : MEM) : EqR M M := fun _ _ _ _ => rfl
theorem EqR.trans {M M1 M2 : MEM} (h1 : EqR M M1) (h2 : EqR M1 M2) : EqR M M2 := fun b p q j => (h2 b p q j).trans (h1 b p q j)
theorem EqR.fr {S : Nat → Prop} {M M' : MEM} (h : FrI S M M') (hs : ∀ b, 40 ≤ b → b < 60 → ¬ S b) : EqR M M' := fun b p q j => h.1 b (hs b p q) j
theorem not_inHis {b : Nat} (h : 40 ≤ b) (h2 : b < 60) : ¬ inHis b := by unfold inHis; omega
theorem not_inHs {s b : Nat} (h : 40 ≤ b) (h2 : b < 60) (hs : 100 ≤ s) : ¬ inH s b := by unfold inH; omega
theorem WFG.rem {B : Nat} {G : GST} (h : WFG B G) {s : Nat} (hs : s < 4) : WFG B (remG G s) := by
  have h9 := h.chg (Nat.le_refl _) hs (h.1.2 s hs) (Nat.le_refl _) h.1.1
  refine ⟨h.1, h.2.1, h9.2.2.1, ?_, h9.2.2.2.2.1, h.2.2.2.2.2⟩
  exact chain_take 10 ⟨hs, fun _ _ => rfl, h.2.2.2.1⟩
theorem rng_slot {s : Nat} (h : s < 4) : rng (nI s) 0 3 := (rng_of (by omega)).mpr ⟨by omega, by omega⟩
theorem slot_rng {p : Int32} (h : rng p 0 3) : ∃ s, s < 4 ∧ p = nI s := by
  obtain ⟨n, h1, h2, h3, h4⟩ := rng_nI h (by decide); exact ⟨n, by omega, h1⟩
theorem not_rng {n m : Nat} (hn : n < 2147483648) {u : Int} (h : ¬ rng (nI n) 0 u) : ¬ (n : Int) ≤ u := fun w => h ((rng_of hn).mpr ⟨by omega, w⟩)
section PC
variable {M : MEM} {G : GST} {B : Nat}
theorem SIMC.nx (hS : SIMC M G) : mI M 1 4 = nI (gCur G).2 := hS.2.1
theorem s_need {x : Int32} {Q : Prop} {X : String → Prop} (h1 : x ≠ 0 → Q) (h0 : x = 0 → X "java/lang/IllegalArgumentException") : wp_X5_needRange x M Q X := ⟨h1, h0⟩
theorem c_filled {nx h : Nat} {a : SLT} (hc : CS nx M h a) {Q : Prop} {X : String → Prop} (h1 : sH a = true → Q) (h0 : sH a = false → X "java/lang/IllegalStateException") : wp_X5_needFilled h M Q X := by
  refine ⟨hc.kd, s_isFilled hc.1 hc.h1 hc.h2 ⟨fun c => ?_, fun c => ?_⟩⟩
  · by_cases q : sH a = true
    · exact h1 q
    · rw [if_neg q] at c; exact absurd rfl c
  · by_cases q : sH a = true
    · rw [if_pos q] at c; exact absurd c (by decide)
    · exact h0 (by simpa using q)
theorem c_needRoom {nx h : Nat} {a : SLT} (hc : CS nx M h a) (ha : sH a = true) {m : Nat} (hm : m ≤ 60) {Q : Prop} {X : String → Prop} (h1 : ¬ (sP a = 0 ∧ 60 < sN a + m) → Q) (h0 : sP a = 0 ∧ 60 < sN a + m → X "java/lang/IllegalStateException") : wp_X5_needRoom h (nI m) M Q X := by
  refine ⟨hc.kd, c_room hc ha hm ⟨fun c => ?_, fun c => ?_⟩⟩
  · by_cases q : sP a = 0 ∧ 60 < sN a + m
    · rw [if_pos q] at c; exact absurd rfl c
    · exact h1 q
  · by_cases q : sP a = 0 ∧ 60 < sN a + m
    · exact h0 q
    · rw [if_neg q] at c; exact absurd c (by decide)
theorem c_define (hS : SIMC M G) (hW : WFG B G) (hB : B ≤ 1100000) {p1 p2 p3 p4 p5 : Int32} {Q : Int32 → MEM → Prop} {X : String → MEM → Prop}
    (x1 : ¬ rng p1 0 3 → X "java/lang/IndexOutOfBoundsException" M) (x2 : rng p1 0 3 → ¬ setOk p2 p3 p5 → X "java/lang/IllegalArgumentException" M)
    (hQ : ∀ s k z p, s < 4 → p1 = nI s → p2 = nI k → p3 = nI z → p5 = nI p → k ≤ 3 → 1 ≤ z → z ≤ 12 → p ≤ 40 → ∀ M', SIMC M' (chgG G s (beginA k z p4 p) (gCur G).2) → EqR M M' → Q (nI (sN ((gCur G).1 s))) M') : wp_X5_define 1 p1 p2 p3 p4 p5 M Q X := by
  refine ⟨rfl, s_slotAt (fun s hs e => ?_) x1⟩
  subst e
  have hc := hS.cs hW hB hs
  refine s_settings (fun ok => s_need (fun _ => ?_) (fun e => absurd e (by decide))) (fun ok => s_need (fun e => absurd rfl e) (fun _ => x2 (rng_slot hs) ok))
  obtain ⟨k, e2, -, k3, -⟩ := rng_nI ok.1 (by decide)
  obtain ⟨z, e3, z1, z2, -⟩ := rng_nI ok.2.1 (by decide)
  obtain ⟨p, e5, -, p2, -⟩ := rng_nI ok.2.2 (by decide)
  subst e2; subst e3; subst e5
  refine ⟨hc.kd, s_count hc.1 hc.h1 hc.h2 ⟨rfl, c_remember hS hW hB hs (fun M1 S1 F1 => ?_)⟩⟩
  refine c_begin (nx := (gCur G).2) hc.h1 hc.h2 hc.2.2.2.2 (by omega) (by omega) (by omega) (by omega) (fun M2 c2 F2 => ?_)
  exact hQ s k z p hs rfl rfl rfl rfl (by omega) (by omega) (by omega) (by omega) M2 (S1.set1 hs c2.1 F2) ((EqR.fr F1 (fun b p q => not_inHis p q)).trans (EqR.fr F2 (fun b p q => not_inHs p q hc.h1)))
theorem c_drop (hS : SIMC M G) (hW : WFG B G) (hB : B ≤ 1100000) {p1 : Int32} {Q : Int32 → MEM → Prop} {X : String → MEM → Prop}
    (x1 : ¬ rng p1 0 3 → X "java/lang/IndexOutOfBoundsException" M)
    (hQ : ∀ s, s < 4 → p1 = nI s → ∀ M', SIMC M' (chgG G s (emptyA ((gCur G).1 s)) (gCur G).2) → EqR M M' → Q (nI (sN ((gCur G).1 s))) M') : wp_X5_drop 1 p1 M Q X := by
  refine ⟨rfl, s_slotAt (fun s hs e => ?_) x1⟩
  subst e
  have hc := hS.cs hW hB hs
  refine ⟨hc.kd, s_count hc.1 hc.h1 hc.h2 ⟨rfl, c_remember hS hW hB hs (fun M1 S1 F1 => ?_)⟩⟩
  refine c_empty (S1.cs (hW.rem hs) hB hs) (fun M2 c2 F2 => ?_)
  exact hQ s hs rfl M2 (S1.set1 hs c2.1 F2) ((EqR.fr F1 (fun b p q => not_inHis p q)).trans (EqR.fr F2 (fun b p q => not_inHs p q hc.h1)))
theorem c_setQuota (hS : SIMC M G) (hW : WFG B G) (hB : B ≤ 1100000) {p1 p2 p3 : Int32} {Q : Int32 → MEM → Prop} {X : String → MEM → Prop}
    (x1 : ¬ (rng p1 0 3 ∧ rng p2 0 3) → X "java/lang/IndexOutOfBoundsException" M) (x2 : rng p1 0 3 ∧ rng p2 0 3 → ¬ rng p3 0 12 → X "java/lang/IllegalArgumentException" M)
    (x3 : ∀ s, s < 4 → p1 = nI s → rng p2 0 3 → rng p3 0 12 → sH ((gCur G).1 s) = false → X "java/lang/IllegalStateException" M)
    (hQ : ∀ s t q, s < 4 → p1 = nI s → t < 4 → p2 = nI t → q ≤ 12 → p3 = nI q → sH ((gCur G).1 s) = true → ∀ M', SIMC M' (chgG G s (putQA ((gCur G).1 s) t q) (gCur G).2) → EqR M M' → Q (nI (sQ ((gCur G).1 s) t)) M') : wp_X5_setQuota 1 p1 p2 p3 M Q X := by
  refine ⟨rfl, s_slotAt (fun s hs e => ?_) (fun w => x1 (fun q => w q.1))⟩
  subst e
  have hc := hS.cs hW hB hs
  refine s_w32 0 3 (by decide) (by decide) (fun r2 => ⟨fun _ => ?_, fun e => absurd e (by decide)⟩) (fun r2 => ⟨fun e => absurd rfl e, fun _ => x1 (fun q => r2 q.2)⟩)
  refine s_w32 0 12 (by decide) (by decide) (fun r3 => s_need (fun _ => ?_) (fun e => absurd e (by decide))) (fun r3 => s_need (fun e => absurd rfl e) (fun _ => x2 ⟨rng_slot hs, r2⟩ r3))
  refine c_filled hc (fun ha => ?_) (x3 s hs rfl r2 r3)
  obtain ⟨t, ht, e2⟩ := slot_rng r2
  obtain ⟨q, e3, -, q2, -⟩ := rng_nI r3 (by decide)
  subst e2; subst e3
  refine ⟨hc.kd, s_quotaOf hc.1 hc.h1 hc.h2 ha ht ⟨rfl, c_remember hS hW hB hs (fun M1 S1 F1 => ?_)⟩⟩
  refine c_putQ (S1.cs (hW.rem hs) hB hs) ha ht (by omega) (fun M2 c2 F2 => ?_)
  exact hQ s t q hs rfl ht rfl (by omega) rfl ha M2 (S1.set1 hs c2.1 F2) ((EqR.fr F1 (fun b p q => not_inHis p q)).trans (EqR.fr F2 (fun b p q => not_inHs p q hc.h1)))
theorem c_quota (hS : SIMC M G) (hW : WFG B G) (hB : B ≤ 1100000) {p1 p2 : Int32} {Q : Int32 → Prop} {X : String → Prop}
    (x1 : ¬ (rng p1 0 3 ∧ rng p2 0 3) → X "java/lang/IndexOutOfBoundsException")
    (x3 : ∀ s, s < 4 → p1 = nI s → rng p2 0 3 → sH ((gCur G).1 s) = false → X "java/lang/IllegalStateException")
    (hQ : ∀ s t, s < 4 → p1 = nI s → t < 4 → p2 = nI t → sH ((gCur G).1 s) = true → Q (nI (sQ ((gCur G).1 s) t))) : wp_X5_quota 1 p1 p2 M Q X := by
  refine ⟨rfl, s_slotAt (fun s hs e => ?_) (fun w => x1 (fun q => w q.1))⟩
  subst e
  have hc := hS.cs hW hB hs
  refine s_w32 0 3 (by decide) (by decide) (fun r2 => ⟨fun _ => ?_, fun e => absurd e (by decide)⟩) (fun r2 => ⟨fun e => absurd rfl e, fun _ => x1 (fun q => r2 q.2)⟩)
  refine c_filled hc (fun ha => ?_) (x3 s hs rfl r2)
  obtain ⟨t, ht, e2⟩ := slot_rng r2
  subst e2
  exact ⟨hc.kd, s_quotaOf hc.1 hc.h1 hc.h2 ha ht (hQ s t hs rfl ht rfl ha)⟩
theorem c_copy (hS : SIMC M G) (hW : WFG B G) (hB : B ≤ 1100000) {p1 p2 : Int32} {Q : Int32 → MEM → Prop} {X : String → MEM → Prop}
    (x1 : ¬ (rng p1 0 3 ∧ rng p2 0 3) → X "java/lang/IndexOutOfBoundsException" M)
    (x3 : ∀ s, s < 4 → p1 = nI s → rng p2 0 3 → sH ((gCur G).1 s) = false → X "java/lang/IllegalStateException" M)
    (hQ : ∀ s t, s < 4 → p1 = nI s → t < 4 → p2 = nI t → sH ((gCur G).1 s) = true → ∀ M', SIMC M' (chgG G t ((gCur G).1 s) (gCur G).2) → EqR M M' → Q (nI (sN ((gCur G).1 s))) M') : wp_X5_copy 1 p1 p2 M Q X := by
  refine ⟨rfl, s_slotAt (fun s hs e => s_slotAt (fun t ht e2 => ?_) (fun w => x1 (fun q => w q.2))) (fun w => x1 (fun q => w q.1))⟩
  subst e; subst e2
  have hc := hS.cs hW hB hs
  have hc2 := hS.cs hW hB ht
  refine c_filled hc (fun ha => ⟨rfl, c_remember hS hW hB ht (fun M1 S1 F1 => ⟨hc2.kd, ?_⟩)⟩) (x3 s hs rfl (rng_slot ht))
  refine c_become hc2.h1 hc2.h2 (S1.cs (hW.rem ht) hB hs) (fun M2 c2 F2 => ?_)
  exact s_count c2.1 c2.h1 c2.h2 (hQ s t hs rfl ht rfl ha M2 (S1.set1 ht c2.1 F2) ((EqR.fr F1 (fun b p q => not_inHis p q)).trans (EqR.fr F2 (fun b p q => not_inHs p q hc2.h1))))
end PC
