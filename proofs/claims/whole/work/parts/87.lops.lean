-- PURE: each call of the law (written by gen/lops.py)
section PLO
variable {M : MEM} {G : GST} {B : Nat} {N : Int32 → MEM → Prop} {x : Int32}
theorem l_define (hS : SIMC M G) (hR : SIMR M G) (hW : WFG B G) (hB : B + 60 ≤ 1090000) (hB2 : 1000000 ≤ B) (next : NXT N x B) {p1 p2 p3 p4 p5 : Int32} {Q : Int32 → MEM → Prop} (hQ : ∀ k M1, wp_X6_define 40 p1 p2 p3 p4 p5 M1 (fun r M2 => tlI N x k r.toInt64 M2) → Q k M1) : wp_L_define 1 p1 p2 p3 p4 p5 60 M Q := by
  refine ⟨rfl, c_define hS hW (by omega)
    (fun h => by exact Or.inl (⟨rfl, hQ 1 M (q_define_1 hR h (fun M' E => tl_k (k := 1) ⟨by decide, by decide⟩ E hS (hW.mono (by omega)) next))⟩))
    (fun h1 h2 => by exact Or.inr (⟨rfl, hQ 2 M (q_define_2 hR h1 h2 (fun M' E => tl_k (k := 2) ⟨by decide, by decide⟩ E hS (hW.mono (by omega)) next))⟩))
    (fun s k z p hs e1 e2 e3 e5 k3 z1 z2 p40 M' S' E' => ⟨rfl, fun M5 em => by
      subst e1; subst e2; subst e3; subst e5; obtain ⟨S5, R5, L5⟩ := pk5 S' E' hR em
      exact hQ 0 M5 (q_define_0 R5 hW (R5.rs hW (by omega) hs) k3 z1 z2 p40 (fun M'' E'' => tl_0 E'' S5 L5 (hW.chg (by omega) hs (beginA_ok k3 z1 z2 p40) (Nat.le_refl _) (Nat.le_trans hW.1.1 (by omega))) next))⟩)⟩
theorem l_drop (hS : SIMC M G) (hR : SIMR M G) (hW : WFG B G) (hB : B + 60 ≤ 1090000) (hB2 : 1000000 ≤ B) (next : NXT N x B) {p1 : Int32} {Q : Int32 → MEM → Prop} (hQ : ∀ k M1, wp_X6_drop 40 p1 M1 (fun r M2 => tlI N x k r.toInt64 M2) → Q k M1) : wp_L_drop 1 p1 60 M Q := by
  refine ⟨rfl, c_drop hS hW (by omega)
    (fun h => by exact ⟨rfl, hQ 1 M (q_drop_1 hR h (fun M' E => tl_k (k := 1) ⟨by decide, by decide⟩ E hS (hW.mono (by omega)) next))⟩)
    (fun s hs e M' S' E' => ⟨rfl, fun M5 em => by
      subst e; obtain ⟨S5, R5, L5⟩ := pk5 S' E' hR em
      exact hQ 0 M5 (q_drop_0 R5 hW (R5.rs hW (by omega) hs) (fun M'' E'' => tl_0 E'' S5 L5 (hW.chg (by omega) hs emptyA_ok (Nat.le_refl _) (Nat.le_trans hW.1.1 (by omega))) next))⟩)⟩
theorem l_offer (hS : SIMC M G) (hR : SIMR M G) (hW : WFG B G) (hB : B + 60 ≤ 1090000) (hB2 : 1000000 ≤ B) (next : NXT N x B) {p1 p2 p3 p4 p5 : Int32} {Q : Int32 → MEM → Prop} (hQ : ∀ k M1, wp_X6_offer 40 p1 p2 p3 p4 p5 M1 (fun r M2 => tlI N x k r.toInt64 M2) → Q k M1) : wp_L_offer 1 p1 p2 p3 p4 p5 60 M Q := by
  refine ⟨rfl, c_offer hS hW (by omega)
    (fun h => by exact Or.inl (⟨rfl, hQ 1 M (q_offer_1 hR h (fun M' E => tl_k (k := 1) ⟨by decide, by decide⟩ E hS (hW.mono (by omega)) next))⟩))
    (fun h1 h2 => by exact Or.inr (Or.inl (⟨rfl, hQ 2 M (q_offer_2 hR h1 h2 (fun M' E => tl_k (k := 2) ⟨by decide, by decide⟩ E hS (hW.mono (by omega)) next))⟩)))
    (fun s hs e hp h3 => by subst e; exact Or.inr (Or.inr (⟨rfl, hQ 3 M (q_offer_3 hR (hR.rs hW (by omega) hs) hp h3 (fun M' E => tl_k (k := 3) ⟨by decide, by decide⟩ E hS (hW.mono (by omega)) next))⟩)))
    (fun s k t w hs e1 e2 e3 e4 hok ha h3 M' S' E' => ⟨rfl, fun M5 em => by
      subst e1; subst e2; subst e3; subst e4; obtain ⟨S5, R5, L5⟩ := pk5 S' E' hR em
      exact hQ 0 M5 (q_offer_0 R5 hW (R5.rs hW (by omega) hs) hok ha h3 (fun M'' E'' => tl_0 E'' S5 L5 (hW.chg (by omega) hs ((hW.1.2 s hs).push ha (fun c => by omega) hok (Nat.le_succ _) (fun i hi => ((hW.1.2 s hs).2.2.2.1 i hi).1)) (Nat.le_succ _) (by have := hW.1.1; omega)) next))⟩)⟩
theorem l_offerDrawn (hS : SIMC M G) (hR : SIMR M G) (hW : WFG B G) (hB : B + 60 ≤ 1090000) (hB2 : 1000000 ≤ B) (next : NXT N x B) {p1 p2 p3 : Int32} {Q : Int32 → MEM → Prop} (hQ : ∀ k M1, wp_X6_offerDrawn 40 p1 p2 p3 M1 (fun r M2 => tlI N x k r.toInt64 M2) → Q k M1) : wp_L_offerDrawn 1 p1 p2 p3 60 M Q := by
  refine ⟨rfl, c_offerDrawn hS hW (by omega)
    (fun h => by exact Or.inl (⟨rfl, hQ 1 M (q_offerD_1 hR h (fun M' E => tl_k (k := 1) ⟨by decide, by decide⟩ E hS (hW.mono (by omega)) next))⟩))
    (fun h1 h2 => by exact Or.inr (Or.inl (⟨rfl, hQ 2 M (q_offerD_2 hR h1 h2 (fun M' E => tl_k (k := 2) ⟨by decide, by decide⟩ E hS (hW.mono (by omega)) next))⟩)))
    (fun s c hs e e3 hc h3 => by subst e; subst e3; exact Or.inr (Or.inr (⟨rfl, hQ 3 M (q_offerD_3 hR (hR.rs hW (by omega) hs) hc h3 (fun M' E => tl_k (k := 3) ⟨by decide, by decide⟩ E hS (hW.mono (by omega)) next))⟩)))
    (fun s c hs e e3 hc ha h3 M' S' E' => ⟨rfl, fun M5 em => by
      subst e; subst e3; obtain ⟨S5, R5, L5⟩ := pk5 S' E' hR em
      exact hQ 0 M5 (q_offerD_0 R5 hW (by omega) (R5.rs hW (by omega) hs) hc ha h3 (fun M'' E'' => tl_0 E'' S5 L5 (hW.chg (by omega) hs (drwA_ok c p2 _ _ (hW.1.2 s hs) ha (fun w => by omega)).1 (Nat.le_add_right _ _) (by have := hW.1.1; omega)) next))⟩)⟩
theorem l_summary (hS : SIMC M G) (hR : SIMR M G) (hW : WFG B G) (hB : B + 60 ≤ 1090000) (hB2 : 1000000 ≤ B) (next : NXT N x B) {p1 p2 : Int32} {Q : Int32 → MEM → Prop} (hQ : ∀ k M1, wp_X6_summary 40 p1 p2 M1 (fun r M2 => tlI N x k r.toInt64 M2) → Q k M1) : wp_L_summary 1 p1 p2 60 M Q := by
  refine ⟨rfl, c_summary hS hW (by omega)
    (fun h => by exact Or.inl (⟨rfl, hQ 1 M (q_summary_1 hR h (fun M' E => tl_k (k := 1) ⟨by decide, by decide⟩ E hS (hW.mono (by omega)) next))⟩))
    (fun h1 h2 => by exact Or.inr (Or.inl (⟨rfl, hQ 2 M (q_summary_2 hR h1 h2 (fun M' E => tl_k (k := 2) ⟨by decide, by decide⟩ E hS (hW.mono (by omega)) next))⟩)))
    (fun s hs e r2 ha => by subst e; exact Or.inr (Or.inr (⟨rfl, hQ 3 M (q_summary_3 hR (hR.rs hW (by omega) hs) r2 ha (fun M' E => tl_k (k := 3) ⟨by decide, by decide⟩ E hS (hW.mono (by omega)) next))⟩)))
    (fun s w hs e e2 hw ha M' S' E' => ⟨rfl, fun M5 em => by
      subst e; subst e2; obtain ⟨S5, R5, L5⟩ := pk5 S' E' hR em
      exact hQ 0 M5 (q_summary_0 R5 (R5.rs hW (by omega) hs) hw ha (fun M'' E'' => tl_0 E'' S5 L5 (hW.mono (by omega)) next))⟩)⟩
theorem l_setQuota (hS : SIMC M G) (hR : SIMR M G) (hW : WFG B G) (hB : B + 60 ≤ 1090000) (hB2 : 1000000 ≤ B) (next : NXT N x B) {p1 p2 p3 : Int32} {Q : Int32 → MEM → Prop} (hQ : ∀ k M1, wp_X6_setQuota 40 p1 p2 p3 M1 (fun r M2 => tlI N x k r.toInt64 M2) → Q k M1) : wp_L_setQuota 1 p1 p2 p3 60 M Q := by
  refine ⟨rfl, c_setQuota hS hW (by omega)
    (fun h => by exact Or.inl (⟨rfl, hQ 1 M (q_setQuota_1 hR h (fun M' E => tl_k (k := 1) ⟨by decide, by decide⟩ E hS (hW.mono (by omega)) next))⟩))
    (fun h1 h2 => by exact Or.inr (Or.inl (⟨rfl, hQ 2 M (q_setQuota_2 hR h1 h2 (fun M' E => tl_k (k := 2) ⟨by decide, by decide⟩ E hS (hW.mono (by omega)) next))⟩)))
    (fun s hs e r2 r3 ha => by subst e; exact Or.inr (Or.inr (⟨rfl, hQ 3 M (q_setQuota_3 hR (hR.rs hW (by omega) hs) r2 r3 ha (fun M' E => tl_k (k := 3) ⟨by decide, by decide⟩ E hS (hW.mono (by omega)) next))⟩)))
    (fun s t q hs e1 ht e2 hq e3 ha M' S' E' => ⟨rfl, fun M5 em => by
      subst e1; subst e2; subst e3; obtain ⟨S5, R5, L5⟩ := pk5 S' E' hR em
      exact hQ 0 M5 (q_setQuota_0 R5 hW (R5.rs hW (by omega) hs) ht hq ha (fun M'' E'' => tl_0 E'' S5 L5 (hW.chg (by omega) hs (putQA_ok (hW.1.2 s hs) hq) (Nat.le_refl _) (Nat.le_trans hW.1.1 (by omega))) next))⟩)⟩
theorem l_allocate (hS : SIMC M G) (hR : SIMR M G) (hW : WFG B G) (hB : B + 60 ≤ 1090000) (hB2 : 1000000 ≤ B) (next : NXT N x B) {p1 p2 p3 : Int32} {Q : Int32 → MEM → Prop} (hQ : ∀ k M1, wp_X6_allocate 40 p1 p2 p3 M1 (fun r M2 => tlI N x k r.toInt64 M2) → Q k M1) : wp_L_allocate 1 p1 p2 p3 60 M Q := by
  refine ⟨rfl, c_allocate hS hW (by omega)
    (fun h => by exact Or.inl (⟨rfl, hQ 1 M (q_alloc_1 hR h (fun M' E => tl_k (k := 1) ⟨by decide, by decide⟩ E hS (hW.mono (by omega)) next))⟩))
    (fun h1 h2 => by exact Or.inr (Or.inl (⟨rfl, hQ 2 M (q_alloc_2 hR h1 h2 (fun M' E => tl_k (k := 2) ⟨by decide, by decide⟩ E hS (hW.mono (by omega)) next))⟩)))
    (fun s hs e r2 ha => by subst e; exact Or.inr (Or.inr (Or.inl (⟨rfl, hQ 3 M (q_alloc_3 hR (hR.rs hW (by omega) hs) r2 ha (fun M' E => tl_k (k := 3) ⟨by decide, by decide⟩ E hS (hW.mono (by omega)) next))⟩))))
    (fun s hs e r2 ha hn M' S' E' => by subst e; exact Or.inr (Or.inr (Or.inr (⟨rfl, hQ 4 M' (q_alloc_4 (hR.eq E') ((hR.eq E').rs hW (by omega) hs) r2 ha hn (fun M'' E'' => tl_k (k := 4) ⟨by decide, by decide⟩ (E'') S' (hW.mono (by omega)) next))⟩))))
    (fun s T hs e e2 hT ha hn M' S' E' => ⟨rfl, fun M5 em => by
      subst e; subst e2; obtain ⟨S5, R5, L5⟩ := pk5 S' E' hR em
      exact hQ 0 M5 (q_alloc_0 R5 hW (R5.rs hW (by omega) hs) hT ha hn (fun M'' E'' => tl_0 E'' S5 L5 (hW.chg (by omega) hs (allocA_ok (hW.1.2 s hs) (hR.rs hW (by omega) hs) hT hn) (Nat.le_refl _) (Nat.le_trans hW.1.1 (by omega))) next))⟩)⟩
theorem l_quota (hS : SIMC M G) (hR : SIMR M G) (hW : WFG B G) (hB : B + 60 ≤ 1090000) (hB2 : 1000000 ≤ B) (next : NXT N x B) {p1 p2 : Int32} {Q : Int32 → MEM → Prop} (hQ : ∀ k M1, wp_X6_quota 40 p1 p2 M1 (fun r M2 => tlI N x k r.toInt64 M2) → Q k M1) : wp_L_quota 1 p1 p2 60 M Q := by
  refine ⟨rfl, c_quota hS hW (by omega)
    (fun h => by exact Or.inl (⟨rfl, hQ 1 M (q_quota_1 hR h (fun M' E => tl_k (k := 1) ⟨by decide, by decide⟩ E hS (hW.mono (by omega)) next))⟩))
    (fun s hs e r2 ha => by subst e; exact Or.inr (⟨rfl, hQ 2 M (q_quota_2 hR (hR.rs hW (by omega) hs) r2 ha (fun M' E => tl_k (k := 2) ⟨by decide, by decide⟩ E hS (hW.mono (by omega)) next))⟩))
    (fun s t hs e ht e2 ha => ⟨rfl, fun M5 em => by
      subst e; subst e2; obtain ⟨S5, R5, L5⟩ := pk5 hS (EqR.refl M) hR em
      exact hQ 0 M5 (q_quota_0 R5 (R5.rs hW (by omega) hs) ht ha (fun M'' E'' => tl_0 E'' S5 L5 (hW.mono (by omega)) next))⟩)⟩
theorem l_merge (hS : SIMC M G) (hR : SIMR M G) (hW : WFG B G) (hB : B + 60 ≤ 1090000) (hB2 : 1000000 ≤ B) (next : NXT N x B) {p1 p2 : Int32} {Q : Int32 → MEM → Prop} (hQ : ∀ k M1, wp_X6_merge 40 p1 p2 M1 (fun r M2 => tlI N x k r.toInt64 M2) → Q k M1) : wp_L_merge 1 p1 p2 60 M Q := by
  refine ⟨rfl, c_merge hS hW (by omega)
    (fun h => by exact Or.inl (⟨rfl, hQ 1 M (q_merge_1 hR h (fun M' E => tl_k (k := 1) ⟨by decide, by decide⟩ E hS (hW.mono (by omega)) next))⟩))
    (fun s t hs e ht e2 h => by subst e; subst e2; exact Or.inr (Or.inl (⟨rfl, hQ 2 M (q_merge_2 hR (hR.rs hW (by omega) hs) (hR.rs hW (by omega) ht) h (fun M' E => tl_k (k := 2) ⟨by decide, by decide⟩ E hS (hW.mono (by omega)) next))⟩)))
    (fun s t hs e ht e2 ha hb h => by subst e; subst e2; exact Or.inr (Or.inr (⟨rfl, hQ 3 M (q_merge_3 hR (hR.rs hW (by omega) hs) (hR.rs hW (by omega) ht) ha hb h (fun M' E => tl_k (k := 3) ⟨by decide, by decide⟩ E hS (hW.mono (by omega)) next))⟩)))
    (fun s t hs e ht e2 ha hb hl h60 M' S' E' => ⟨rfl, fun M5 em => by
      subst e; subst e2; obtain ⟨S5, R5, L5⟩ := pk5 S' E' hR em
      exact hQ 0 M5 (q_merge_0 R5 hW (R5.rs hW (by omega) hs) (R5.rs hW (by omega) ht) ha hb hl h60 (fun M'' E'' => tl_0 E'' S5 L5 (hW.chg (by omega) ht (joinA_ok (hW.1.2 s hs) (hW.1.2 t ht) hb h60) (Nat.le_refl _) (Nat.le_trans hW.1.1 (by omega))) next))⟩)⟩
theorem l_copy (hS : SIMC M G) (hR : SIMR M G) (hW : WFG B G) (hB : B + 60 ≤ 1090000) (hB2 : 1000000 ≤ B) (next : NXT N x B) {p1 p2 : Int32} {Q : Int32 → MEM → Prop} (hQ : ∀ k M1, wp_X6_copy 40 p1 p2 M1 (fun r M2 => tlI N x k r.toInt64 M2) → Q k M1) : wp_L_copy 1 p1 p2 60 M Q := by
  refine ⟨rfl, c_copy hS hW (by omega)
    (fun h => by exact Or.inl (⟨rfl, hQ 1 M (q_copy_1 hR h (fun M' E => tl_k (k := 1) ⟨by decide, by decide⟩ E hS (hW.mono (by omega)) next))⟩))
    (fun s hs e r2 ha => by subst e; exact Or.inr (⟨rfl, hQ 2 M (q_copy_2 hR (hR.rs hW (by omega) hs) r2 ha (fun M' E => tl_k (k := 2) ⟨by decide, by decide⟩ E hS (hW.mono (by omega)) next))⟩))
    (fun s t hs e ht e2 ha M' S' E' => ⟨rfl, fun M5 em => by
      subst e; subst e2; obtain ⟨S5, R5, L5⟩ := pk5 S' E' hR em
      exact hQ 0 M5 (q_copy_0 R5 hW (R5.rs hW (by omega) hs) ht ha (fun M'' E'' => tl_0 E'' S5 L5 (hW.chg (by omega) ht (hW.1.2 s hs) (Nat.le_refl _) (Nat.le_trans hW.1.1 (by omega))) next))⟩)⟩
theorem l_kept (hS : SIMC M G) (hR : SIMR M G) (hW : WFG B G) (hB : B + 60 ≤ 1090000) (hB2 : 1000000 ≤ B) (next : NXT N x B) {p1 p2 p3 : Int32} {Q : Int32 → MEM → Prop} (hQ : ∀ k M1, wp_X6_kept 40 p1 p2 p3 M1 (fun r M2 => tlI N x k r.toInt64 M2) → Q k M1) : wp_L_kept 1 p1 p2 p3 60 M Q := by
  refine ⟨rfl, c_kept hS hW (by omega)
    (fun h => by exact Or.inl (⟨rfl, hQ 1 M (q_kept_1 hR h (fun M' E => tl_k (k := 1) ⟨by decide, by decide⟩ E hS (hW.mono (by omega)) next))⟩))
    (fun s hs e ha h => by subst e; exact Or.inl (⟨rfl, hQ 1 M (q_kept_1b hR (hR.rs hW (by omega) hs) ha h (fun M' E => tl_k (k := 1) ⟨by decide, by decide⟩ E hS (hW.mono (by omega)) next))⟩))
    (fun s hs e hit h => by subst e; exact Or.inr (Or.inl (⟨rfl, hQ 2 M (q_kept_2 hR (hR.rs hW (by omega) hs) hit h (fun M' E => tl_k (k := 2) ⟨by decide, by decide⟩ E hS (hW.mono (by omega)) next))⟩)))
    (fun s hs e r3 ha => by subst e; exact Or.inr (Or.inr (⟨rfl, hQ 3 M (q_kept_3 hR (hR.rs hW (by omega) hs) r3 ha (fun M' E => tl_k (k := 3) ⟨by decide, by decide⟩ E hS (hW.mono (by omega)) next))⟩)))
    (fun s i w hs e e2 hi e3 hw ha M' S' E' => ⟨rfl, fun M5 em => by
      subst e; subst e2; subst e3; obtain ⟨S5, R5, L5⟩ := pk5 S' E' hR em
      exact hQ 0 M5 (q_kept_0 R5 (R5.rs hW (by omega) hs) hi hw ha (fun M'' E'' => tl_0 E'' S5 L5 (hW.mono (by omega)) next))⟩)⟩
theorem l_sampled (hS : SIMC M G) (hR : SIMR M G) (hW : WFG B G) (hB : B + 60 ≤ 1090000) (hB2 : 1000000 ≤ B) (next : NXT N x B) {p1 p2 p3 : Int32} {Q : Int32 → MEM → Prop} (hQ : ∀ k M1, wp_X6_sampled 40 p1 p2 p3 M1 (fun r M2 => tlI N x k r.toInt64 M2) → Q k M1) : wp_L_sampled 1 p1 p2 p3 60 M Q := by
  refine ⟨rfl, c_sampled hS hW (by omega)
    (fun h => by exact Or.inl (⟨rfl, hQ 1 M (q_sampled_1 hR h (fun M' E => tl_k (k := 1) ⟨by decide, by decide⟩ E hS (hW.mono (by omega)) next))⟩))
    (fun s hs e ha h M' S' E' => by subst e; exact Or.inl (⟨rfl, hQ 1 M' (q_sampled_1b (hR.eq E') ((hR.eq E').rs hW (by omega) hs) ha h (fun M'' E'' => tl_k (k := 1) ⟨by decide, by decide⟩ (E'') S' (hW.mono (by omega)) next))⟩))
    (fun s hs e hit h M' S' E' => by subst e; exact Or.inr (Or.inl (⟨rfl, hQ 2 M' (q_sampled_2 (hR.eq E') ((hR.eq E').rs hW (by omega) hs) hit h (fun M'' E'' => tl_k (k := 2) ⟨by decide, by decide⟩ (E'') S' (hW.mono (by omega)) next))⟩)))
    (fun s hs e h ha M' S' E' => by subst e; exact Or.inr (Or.inr (⟨rfl, hQ 3 M' (q_sampled_3 (hR.eq E') ((hR.eq E').rs hW (by omega) hs) h ha (fun M'' E'' => tl_k (k := 3) ⟨by decide, by decide⟩ (E'') S' (hW.mono (by omega)) next))⟩)))
    (fun s i w hs e e2 hi e3 hw ha M' S' E' => ⟨rfl, fun M5 em => by
      subst e; subst e2; subst e3; obtain ⟨S5, R5, L5⟩ := pk5 S' E' hR em
      exact hQ 0 M5 (q_sampled_0 R5 (R5.rs hW (by omega) hs) hi hw ha (fun M'' E'' => tl_0 E'' S5 L5 (hW.mono (by omega)) next))⟩)⟩
theorem l_mix (hS : SIMC M G) (hR : SIMR M G) (hW : WFG B G) (hB : B + 60 ≤ 1090000) (hB2 : 1000000 ≤ B) (next : NXT N x B) {p1 p2 : Int32} {Q : Int32 → MEM → Prop} (hQ : ∀ k M1, wp_X6_mix 40 p1 p2 M1 (fun r M2 => tlI N x k r M2) → Q k M1) : wp_L_mix 1 p1 p2 60 M Q := by
  refine ⟨rfl, c_mix hS hW (by omega)
    (fun h => by exact Or.inl (⟨rfl, hQ 1 M (q_mix_1 hR h (fun M' E => tl_k (k := 1) ⟨by decide, by decide⟩ E hS (hW.mono (by omega)) next))⟩))
    (fun s hs e ha h => by subst e; exact Or.inl (⟨rfl, hQ 1 M (q_mix_1b hR (hR.rs hW (by omega) hs) ha h (fun M' E => tl_k (k := 1) ⟨by decide, by decide⟩ E hS (hW.mono (by omega)) next))⟩))
    (fun s hs e ha => by subst e; exact Or.inr (⟨rfl, hQ 2 M (q_mix_2 hR (hR.rs hW (by omega) hs) ha (fun M' E => tl_k (k := 2) ⟨by decide, by decide⟩ E hS (hW.mono (by omega)) next))⟩))
    (fun s i hs e e2 hi ha => ⟨rfl, fun M5 em => by
      subst e; subst e2; obtain ⟨S5, R5, L5⟩ := pk5 hS (EqR.refl M) hR em
      exact hQ 0 M5 (q_mix_0 R5 (R5.rs hW (by omega) hs) hi ha (fun M'' E'' => tl_0 E'' S5 L5 (hW.mono (by omega)) next))⟩)⟩
theorem l_commonKey (hS : SIMC M G) (hR : SIMR M G) (hW : WFG B G) (hB : B + 60 ≤ 1090000) (hB2 : 1000000 ≤ B) (next : NXT N x B) {p1 : Int32} {Q : Int32 → MEM → Prop} (hQ : ∀ k M1, wp_X6_commonKey 40 p1 M1 (fun r M2 => tlI N x k r.toInt64 M2) → Q k M1) : wp_L_commonKey 1 p1 60 M Q := by
  refine ⟨rfl, c_commonKey hS hW (by omega)
    (fun h => by exact Or.inl (⟨rfl, hQ 1 M (q_commonKey_1 hR h (fun M' E => tl_k (k := 1) ⟨by decide, by decide⟩ E hS (hW.mono (by omega)) next))⟩))
    (fun s hs e ha => by subst e; exact Or.inr (Or.inl (⟨rfl, hQ 2 M (q_commonKey_2 hR (hR.rs hW (by omega) hs) ha (fun M' E => tl_k (k := 2) ⟨by decide, by decide⟩ E hS (hW.mono (by omega)) next))⟩)))
    (fun s hs e ha h M' S' E' => by subst e; exact Or.inr (Or.inr (⟨rfl, hQ 3 M' (q_commonKey_3 (hR.eq E') ((hR.eq E').rs hW (by omega) hs) ha h (fun M'' E'' => tl_k (k := 3) ⟨by decide, by decide⟩ (E'') S' (hW.mono (by omega)) next))⟩)))
    (fun s b hs e ha hpos hb M' S' E' => ⟨rfl, fun M5 em => by
      subst e; obtain ⟨S5, R5, L5⟩ := pk5 S' E' hR em
      exact hQ 0 M5 (q_commonKey_0 R5 (R5.rs hW (by omega) hs) ha hpos hb (fun M'' E'' => tl_0 E'' S5 L5 (hW.mono (by omega)) next))⟩)⟩
theorem l_reason (hS : SIMC M G) (hR : SIMR M G) (hW : WFG B G) (hB : B + 60 ≤ 1090000) (hB2 : 1000000 ≤ B) (next : NXT N x B) {p1 p2 : Int32} {Q : Int32 → MEM → Prop} (hQ : ∀ k M1, wp_X6_reason 40 p1 p2 M1 (fun r M2 => tlI N x k r.toInt64 M2) → Q k M1) : wp_L_reason 1 p1 p2 60 M Q := by
  refine ⟨rfl, c_reason hS hW (by omega)
    (fun h => by exact Or.inl (⟨rfl, hQ 1 M (q_reason_1 hR h (fun M' E => tl_k (k := 1) ⟨by decide, by decide⟩ E hS (hW.mono (by omega)) next))⟩))
    (fun s hs e ha h => by subst e; exact Or.inl (⟨rfl, hQ 1 M (q_reason_1b hR (hR.rs hW (by omega) hs) ha h (fun M' E => tl_k (k := 1) ⟨by decide, by decide⟩ E hS (hW.mono (by omega)) next))⟩))
    (fun s hs e ha => by subst e; exact Or.inr (⟨rfl, hQ 2 M (q_reason_2 hR (hR.rs hW (by omega) hs) ha (fun M' E => tl_k (k := 2) ⟨by decide, by decide⟩ E hS (hW.mono (by omega)) next))⟩))
    (fun s i hs e e2 hi ha M' S' E' => ⟨rfl, fun M5 em => by
      subst e; subst e2; obtain ⟨S5, R5, L5⟩ := pk5 S' E' hR em
      exact hQ 0 M5 (q_reason_0 R5 (R5.rs hW (by omega) hs) hi ha (fun M'' E'' => tl_0 E'' S5 L5 (hW.mono (by omega)) next))⟩)⟩
theorem l_needed (hS : SIMC M G) (hR : SIMR M G) (hW : WFG B G) (hB : B + 60 ≤ 1090000) (hB2 : 1000000 ≤ B) (next : NXT N x B) {p1 p2 : Int32} {Q : Int32 → MEM → Prop} (hQ : ∀ k M1, wp_X6_needed 40 p1 p2 M1 (fun r M2 => tlI N x k r.toInt64 M2) → Q k M1) : wp_L_needed 1 p1 p2 60 M Q := by
  refine ⟨rfl, c_needed hS hW (by omega)
    (fun h => by exact Or.inl (⟨rfl, hQ 1 M (q_needed_1 hR h (fun M' E => tl_k (k := 1) ⟨by decide, by decide⟩ E hS (hW.mono (by omega)) next))⟩))
    (fun s hs e ha h => by subst e; exact Or.inl (⟨rfl, hQ 1 M (q_needed_1b hR (hR.rs hW (by omega) hs) ha h (fun M' E => tl_k (k := 1) ⟨by decide, by decide⟩ E hS (hW.mono (by omega)) next))⟩))
    (fun s hs e ha => by subst e; exact Or.inr (Or.inl (⟨rfl, hQ 2 M (q_needed_2 hR (hR.rs hW (by omega) hs) ha (fun M' E => tl_k (k := 2) ⟨by decide, by decide⟩ E hS (hW.mono (by omega)) next))⟩)))
    (fun s i hs e e2 hi ha hc M' S' E' => by subst e; subst e2; exact Or.inr (Or.inr (⟨rfl, hQ 3 M' (q_needed_3 (hR.eq E') ((hR.eq E').rs hW (by omega) hs) hi ha hc (fun M'' E'' => tl_k (k := 3) ⟨by decide, by decide⟩ (E'') S' (hW.mono (by omega)) next))⟩)))
    (fun s i hs e e2 hi ha hc M' S' E' => ⟨rfl, fun M5 em => by
      subst e; subst e2; obtain ⟨S5, R5, L5⟩ := pk5 S' E' hR em
      exact hQ 0 M5 (q_needed_0 R5 (R5.rs hW (by omega) hs) hi ha hc (fun M'' E'' => tl_0 E'' S5 L5 (hW.mono (by omega)) next))⟩)⟩
theorem l_margin (hS : SIMC M G) (hR : SIMR M G) (hW : WFG B G) (hB : B + 60 ≤ 1090000) (hB2 : 1000000 ≤ B) (next : NXT N x B) {p1 p2 : Int32} {Q : Int32 → MEM → Prop} (hQ : ∀ k M1, wp_X6_margin 40 p1 p2 M1 (fun r M2 => tlI N x k r.toInt64 M2) → Q k M1) : wp_L_margin 1 p1 p2 60 M Q := by
  refine ⟨rfl, c_margin hS hW (by omega)
    (fun h => by exact Or.inl (⟨rfl, hQ 1 M (q_margin_1 hR h (fun M' E => tl_k (k := 1) ⟨by decide, by decide⟩ E hS (hW.mono (by omega)) next))⟩))
    (fun s hs e ha h => by subst e; exact Or.inl (⟨rfl, hQ 1 M (q_margin_1b hR (hR.rs hW (by omega) hs) ha h (fun M' E => tl_k (k := 1) ⟨by decide, by decide⟩ E hS (hW.mono (by omega)) next))⟩))
    (fun s hs e ha => by subst e; exact Or.inr (Or.inl (⟨rfl, hQ 2 M (q_margin_2 hR (hR.rs hW (by omega) hs) ha (fun M' E => tl_k (k := 2) ⟨by decide, by decide⟩ E hS (hW.mono (by omega)) next))⟩)))
    (fun s i hs e e2 hi ha hc M' S' E' => by subst e; subst e2; exact Or.inr (Or.inr (⟨rfl, hQ 3 M' (q_margin_3 (hR.eq E') ((hR.eq E').rs hW (by omega) hs) hi ha hc (fun M'' E'' => tl_k (k := 3) ⟨by decide, by decide⟩ (E'') S' (hW.mono (by omega)) next))⟩)))
    (fun s i hs e e2 hi ha hc M' S' E' => ⟨rfl, fun M5 em => by
      subst e; subst e2; obtain ⟨S5, R5, L5⟩ := pk5 S' E' hR em
      exact hQ 0 M5 (q_margin_0 R5 (R5.rs hW (by omega) hs) hi ha hc (fun M'' E'' => tl_0 E'' S5 L5 (hW.mono (by omega)) next))⟩)⟩
theorem l_stratum (hS : SIMC M G) (hR : SIMR M G) (hW : WFG B G) (hB : B + 60 ≤ 1090000) (hB2 : 1000000 ≤ B) (next : NXT N x B) {p1 p2 p3 : Int32} {Q : Int32 → MEM → Prop} (hQ : ∀ k M1, wp_X6_stratum 40 p1 p2 p3 M1 (fun r M2 => tlI N x k r.toInt64 M2) → Q k M1) : wp_L_stratum 1 p1 p2 p3 60 M Q := by
  refine ⟨rfl, c_stratum hS hW (by omega)
    (fun h => by exact Or.inl (⟨rfl, hQ 1 M (q_stratum_1 hR h (fun M' E => tl_k (k := 1) ⟨by decide, by decide⟩ E hS (hW.mono (by omega)) next))⟩))
    (fun h1 h2 => by exact Or.inr (Or.inl (⟨rfl, hQ 2 M (q_stratum_2 hR h1 h2 (fun M' E => tl_k (k := 2) ⟨by decide, by decide⟩ E hS (hW.mono (by omega)) next))⟩)))
    (fun s hs e r2 r3 ha => by subst e; exact Or.inr (Or.inr (⟨rfl, hQ 3 M (q_stratum_3 hR (hR.rs hW (by omega) hs) r2 r3 ha (fun M' E => tl_k (k := 3) ⟨by decide, by decide⟩ E hS (hW.mono (by omega)) next))⟩)))
    (fun s t w hs e ht e2 hw e3 ha M' S' E' => ⟨rfl, fun M5 em => by
      subst e; subst e2; subst e3; obtain ⟨S5, R5, L5⟩ := pk5 S' E' hR em
      exact hQ 0 M5 (q_stratum_0 R5 (R5.rs hW (by omega) hs) ht hw ha (fun M'' E'' => tl_0 E'' S5 L5 (hW.mono (by omega)) next))⟩)⟩
theorem l_estimateKeys (hS : SIMC M G) (hR : SIMR M G) (hW : WFG B G) (hB : B + 60 ≤ 1090000) (hB2 : 1000000 ≤ B) (next : NXT N x B) {p1 p2 p3 p4 : Int32} (h01 : p4 = 0 ∨ p4 = 1) {Q : Int32 → MEM → Prop} (hQ : ∀ k M1, wp_X6_estimateKeys 40 p1 p2 p3 p4 M1 (fun r M2 => tlI N x k r M2) → Q k M1) : wp_L_estimateKeys 1 p1 p2 p3 p4 60 M Q := by
  refine ⟨rfl, c_estimateKeys hS hW (by omega)
    (fun h => by exact Or.inl (⟨rfl, hQ 1 M (q_estK_1 hR h (fun M' E => tl_k (k := 1) ⟨by decide, by decide⟩ E hS (hW.mono (by omega)) next))⟩))
    (fun s hs e ha => by subst e; exact Or.inr (⟨rfl, hQ 2 M (q_estK_2 hR (hR.rs hW (by omega) hs) ha (fun M' E => tl_k (k := 2) ⟨by decide, by decide⟩ E hS (hW.mono (by omega)) next))⟩))
    (fun s hs e ha M' S' E' => ⟨rfl, fun M5 em => by
      subst e; obtain ⟨S5, R5, L5⟩ := pk5 S' E' hR em
      exact hQ 0 M5 (q_estK_0 R5 (R5.rs hW (by omega) hs) h01 ha (fun M'' E'' => tl_0 E'' S5 L5 (hW.mono (by omega)) next))⟩)⟩
theorem l_estimate (hS : SIMC M G) (hR : SIMR M G) (hW : WFG B G) (hB : B + 60 ≤ 1090000) (hB2 : 1000000 ≤ B) (next : NXT N x B) {p1 p2 : Int32} {Q : Int32 → MEM → Prop} (hQ : ∀ k M1, wp_X6_estimate 40 p1 p2 M1 (fun r M2 => tlI N x k r M2) → Q k M1) : wp_L_estimate 1 p1 p2 60 M Q := by
  refine ⟨rfl, c_estimate hS hW (by omega)
    (fun h => by exact Or.inl (⟨rfl, hQ 1 M (q_est_1 hR h (fun M' E => tl_k (k := 1) ⟨by decide, by decide⟩ E hS (hW.mono (by omega)) next))⟩))
    (fun h1 h2 => by exact Or.inr (Or.inl (⟨rfl, hQ 2 M (q_est_2 hR h1 h2 (fun M' E => tl_k (k := 2) ⟨by decide, by decide⟩ E hS (hW.mono (by omega)) next))⟩)))
    (fun s hs e r2 ha => by subst e; exact Or.inr (Or.inr (⟨rfl, hQ 3 M (q_est_3 hR (hR.rs hW (by omega) hs) r2 ha (fun M' E => tl_k (k := 3) ⟨by decide, by decide⟩ E hS (hW.mono (by omega)) next))⟩)))
    (fun s w hs e e2 hw ha M' S' E' => ⟨rfl, fun M5 em => by
      subst e; subst e2; obtain ⟨S5, R5, L5⟩ := pk5 S' E' hR em
      exact hQ 0 M5 (q_est_0 R5 (R5.rs hW (by omega) hs) hw ha (fun M'' E'' => tl_0 E'' S5 L5 (hW.mono (by omega)) next))⟩)⟩
theorem l_truth (hS : SIMC M G) (hR : SIMR M G) (hW : WFG B G) (hB : B + 60 ≤ 1090000) (hB2 : 1000000 ≤ B) (next : NXT N x B) {p1 p2 : Int32} {Q : Int32 → MEM → Prop} (hQ : ∀ k M1, wp_X6_truth 40 p1 p2 M1 (fun r M2 => tlI N x k r M2) → Q k M1) : wp_L_truth 1 p1 p2 60 M Q := by
  refine ⟨rfl, c_truth hS hW (by omega)
    (fun h => by exact Or.inl (⟨rfl, hQ 1 M (q_truth_1 hR h (fun M' E => tl_k (k := 1) ⟨by decide, by decide⟩ E hS (hW.mono (by omega)) next))⟩))
    (fun h1 h2 => by exact Or.inr (Or.inl (⟨rfl, hQ 2 M (q_truth_2 hR h1 h2 (fun M' E => tl_k (k := 2) ⟨by decide, by decide⟩ E hS (hW.mono (by omega)) next))⟩)))
    (fun s hs e r2 ha => by subst e; exact Or.inr (Or.inr (⟨rfl, hQ 3 M (q_truth_3 hR (hR.rs hW (by omega) hs) r2 ha (fun M' E => tl_k (k := 3) ⟨by decide, by decide⟩ E hS (hW.mono (by omega)) next))⟩)))
    (fun s w hs e e2 hw ha M' S' E' => ⟨rfl, fun M5 em => by
      subst e; subst e2; obtain ⟨S5, R5, L5⟩ := pk5 S' E' hR em
      exact hQ 0 M5 (q_truth_0 R5 (R5.rs hW (by omega) hs) hw ha (fun M'' E'' => tl_0 E'' S5 L5 (hW.mono (by omega)) next))⟩)⟩
theorem l_quantile (hS : SIMC M G) (hR : SIMR M G) (hW : WFG B G) (hB : B + 60 ≤ 1090000) (hB2 : 1000000 ≤ B) (next : NXT N x B) {p1 p2 : Int32} {Q : Int32 → MEM → Prop} (hQ : ∀ k M1, wp_X6_quantile 40 p1 p2 M1 (fun r M2 => tlI N x k r.toInt64 M2) → Q k M1) : wp_L_quantile 1 p1 p2 60 M Q := by
  refine ⟨rfl, c_quantile hS hW (by omega)
    (fun h => by exact Or.inl (⟨rfl, hQ 1 M (q_quantile_1 hR h (fun M' E => tl_k (k := 1) ⟨by decide, by decide⟩ E hS (hW.mono (by omega)) next))⟩))
    (fun h1 h2 => by exact Or.inr (Or.inl (⟨rfl, hQ 2 M (q_quantile_2 hR h1 h2 (fun M' E => tl_k (k := 2) ⟨by decide, by decide⟩ E hS (hW.mono (by omega)) next))⟩)))
    (fun s hs e r2 ha => by subst e; exact Or.inr (Or.inr (Or.inl (⟨rfl, hQ 3 M (q_quantile_3 hR (hR.rs hW (by omega) hs) r2 ha (fun M' E => tl_k (k := 3) ⟨by decide, by decide⟩ E hS (hW.mono (by omega)) next))⟩))))
    (fun s hs e r2 ha h M' S' E' => by subst e; exact Or.inr (Or.inr (Or.inr (⟨rfl, hQ 4 M' (q_quantile_4 (hR.eq E') ((hR.eq E').rs hW (by omega) hs) r2 ha h (fun M'' E'' => tl_k (k := 4) ⟨by decide, by decide⟩ (E'') S' (hW.mono (by omega)) next))⟩))))
    (fun s q hs e e2 hq ha hpos M' S' E' => ⟨rfl, fun M5 em => by
      subst e; subst e2; obtain ⟨S5, R5, L5⟩ := pk5 S' E' hR em
      exact hQ 0 M5 (q_quantile_0 R5 (R5.rs hW (by omega) hs) hq ha hpos (fun M'' E'' => tl_0 E'' S5 L5 (hW.mono (by omega)) next))⟩)⟩
theorem l_resampled (hS : SIMC M G) (hR : SIMR M G) (hW : WFG B G) (hB : B + 60 ≤ 1090000) (hB2 : 1000000 ≤ B) (next : NXT N x B) {p1 p2 p3 : Int32} {Q : Int32 → MEM → Prop} (hQ : ∀ k M1, wp_X6_resampled 40 p1 p2 p3 M1 (fun r M2 => tlD N x k r M2) → Q k M1) : wp_L_resampled 1 p1 p2 p3 61 M Q := by
  refine ⟨rfl, c_resampled hS hW (by omega)
    (fun h => by exact Or.inl (⟨rfl, hQ 1 M (q_resampled_1 hR h (fun M' E => tlD_k (k := 1) ⟨by decide, by decide⟩ E hS (hW.mono (by omega)) next))⟩))
    (fun h1 h2 => by exact Or.inr (Or.inl (⟨rfl, hQ 2 M (q_resampled_2 hR h1 h2 (fun M' E => tlD_k (k := 2) ⟨by decide, by decide⟩ E hS (hW.mono (by omega)) next))⟩)))
    (fun s hs e r2 ha => by subst e; exact Or.inr (Or.inr (Or.inl (⟨rfl, hQ 3 M (q_resampled_3 hR (hR.rs hW (by omega) hs) r2 ha (fun M' E => tlD_k (k := 3) ⟨by decide, by decide⟩ E hS (hW.mono (by omega)) next))⟩))))
    (fun s hs e r2 ha h M' S' E' => by subst e; exact Or.inr (Or.inr (Or.inr (⟨rfl, hQ 4 M' (q_resampled_4 (hR.eq E') ((hR.eq E').rs hW (by omega) hs) r2 ha h (fun M'' E'' => tlD_k (k := 4) ⟨by decide, by decide⟩ (E'') S' (hW.mono (by omega)) next))⟩))))
    (fun s n hs e e3 hn1 hn2 ha hpos M' S' E' v hv => ⟨rfl, fun M5 em => by
      subst e; subst e3; obtain ⟨S5, R5, L5⟩ := pkD S' E' hR em
      exact hQ 0 M5 (q_resampled_0 R5 (R5.rs hW (by omega) hs) hn1 hn2 ha hpos (fun M'' E'' f hf => tlD_0 E'' S5 L5 hv hf (hW.mono (by omega)) next))⟩)⟩
theorem l_distance (hS : SIMC M G) (hR : SIMR M G) (hW : WFG B G) (hB : B + 60 ≤ 1090000) (hB2 : 1000000 ≤ B) (next : NXT N x B) {p1 p2 : Int32} {Q : Int32 → MEM → Prop} (hQ : ∀ k M1, wp_X6_distance 40 p1 p2 M1 (fun r M2 => tlF N x k r M2) → Q k M1) : wp_L_distance 1 p1 p2 61 M Q := by
  refine ⟨rfl, c_distance hS hW (by omega)
    (fun h => by exact Or.inl (⟨rfl, hQ 1 M (q_distance_1 hR h (fun M' E => tlF_k (k := 1) ⟨by decide, by decide⟩ E hS (hW.mono (by omega)) next))⟩))
    (fun s t hs e ht e2 h => by subst e; subst e2; exact Or.inr (Or.inl (⟨rfl, hQ 2 M (q_distance_2 hR (hR.rs hW (by omega) hs) (hR.rs hW (by omega) ht) h (fun M' E => tlF_k (k := 2) ⟨by decide, by decide⟩ E hS (hW.mono (by omega)) next))⟩)))
    (fun s t hs e ht e2 ha hb h M' S' E' => by subst e; subst e2; exact Or.inr (Or.inr (⟨rfl, hQ 3 M' (q_distance_3 (hR.eq E') ((hR.eq E').rs hW (by omega) hs) ((hR.eq E').rs hW (by omega) ht) ha hb h (fun M'' E'' => tlF_k (k := 3) ⟨by decide, by decide⟩ (E'') S' (hW.mono (by omega)) next))⟩)))
    (fun s t hs e ht e2 ha hb h1 h2 M' S' E' v hv => ⟨rfl, fun M5 em => by
      subst e; subst e2; obtain ⟨S5, R5, L5⟩ := pkD S' E' hR em
      exact hQ 0 M5 (q_distance_0 R5 (R5.rs hW (by omega) hs) (R5.rs hW (by omega) ht) ha hb h1 h2 (fun M'' E'' => tlF_0 E'' S5 L5 hv (dstA_N h1 h2 (R5.rs hW (by omega) hs).CH60 (R5.rs hW (by omega) ht).CH60) (hW.mono (by omega)) next))⟩)⟩
theorem l_common (hS : SIMC M G) (hR : SIMR M G) (hW : WFG B G) (hB : B + 60 ≤ 1090000) (hB2 : 1000000 ≤ B) (next : NXT N x B) {p1 p2 : Int32} {Q : Int32 → MEM → Prop} (hQ : ∀ k M1, wp_X6_common 40 p1 p2 M1 (fun r M2 => tlI N x k r.toInt64 M2) → Q k M1) : wp_L_common 1 p1 p2 60 M Q := by
  refine ⟨rfl, c_common hS hW (by omega)
    (fun h => by exact Or.inl (⟨rfl, hQ 1 M (q_common_1 hR h (fun M' E => tl_k (k := 1) ⟨by decide, by decide⟩ E hS (hW.mono (by omega)) next))⟩))
    (fun s t hs e ht e2 h => by subst e; subst e2; exact Or.inr (⟨rfl, hQ 2 M (q_common_2 hR (hR.rs hW (by omega) hs) (hR.rs hW (by omega) ht) h (fun M' E => tl_k (k := 2) ⟨by decide, by decide⟩ E hS (hW.mono (by omega)) next))⟩))
    (fun s t hs e ht e2 ha hb M' S' E' => ⟨rfl, fun M5 em => by
      subst e; subst e2; obtain ⟨S5, R5, L5⟩ := pk5 S' E' hR em
      exact hQ 0 M5 (q_common_0 R5 (R5.rs hW (by omega) hs) (R5.rs hW (by omega) ht) ha hb (fun M'' E'' => tl_0 E'' S5 L5 (hW.mono (by omega)) next))⟩)⟩
theorem l_feed (hS : SIMC M G) (hR : SIMR M G) (hW : WFG B G) (hB : B + 60 ≤ 1090000) (hB2 : 1000000 ≤ B) (next : NXT N x B) {c : Nat} (hc : c < 65536) {Q : Int32 → MEM → Prop} (hQ : ∀ k M1, wp_X6_feed 40 (nI c) M1 (fun r M2 => tlI N x k r.toInt64 M2) → Q k M1) : wp_L_feed 1 (nI c) 60 M Q := by
  refine ⟨rfl, c_feed hS hW hc
    (fun h => by exact ⟨rfl, hQ 1 M (q_feed_1 hR h (fun M' E => tl_k (k := 1) ⟨by decide, by decide⟩ E hS (hW.mono (by omega)) next))⟩)
    (fun h M' S' E' => ⟨rfl, fun M5 em => by
      obtain ⟨S5, R5, L5⟩ := pk5 S' E' hR em
      exact hQ 0 M5 (q_feed_0 R5 hc h (fun M'' E'' => tl_0 E'' S5 L5 ((hW.ip (by rw [List.length_append]; show (gInp G).length + 1 ≤ 120; omega) (fun d hd => by
        rcases List.mem_append.mp hd with hd | hd
        · exact hW.2.2.2.2.2.1.2 d hd
        · rw [List.mem_singleton.mp hd]; exact hc)).mono (by omega)) next))⟩)⟩
theorem l_read (hS : SIMC M G) (hR : SIMR M G) (hW : WFG B G) (hB : B + 60 ≤ 1090000) (hB2 : 1000000 ≤ B) (next : NXT N x B) {p1 : Int32} {Q : Int32 → MEM → Prop} (hQ : ∀ k M1, wp_X6_read 40 p1 M1 (fun r M2 => tlI N x k r.toInt64 M2) → Q k M1) : wp_L_read 1 p1 60 M Q := by
  refine ⟨rfl, c_read hS hW (by omega) hB2
    (fun h => by exact Or.inl (⟨rfl, hQ 1 M (q_read_1 hR h (fun M' E => tl_k (k := 1) ⟨by decide, by decide⟩ E hS (hW.mono (by omega)) next))⟩))
    (fun s p hs e hp hp2 M' S' E' => ⟨rfl, fun M5 em => by
      subst e; obtain ⟨S5, R5, L5⟩ := pk5 S' E' hR em
      exact hQ 0 M5 (q_read_E R5 hW hs hp (fun M'' E'' => tl_0 E'' S5 L5 ((hW.ip (Nat.zero_le _) (fun c hc => absurd hc List.not_mem_nil)).mono (by omega)) next))⟩)
    (fun s m hs e hp hN hT M' S' E' => by subst e; exact Or.inr (Or.inl (⟨rfl, hQ 2 M' (q_read_2 (hR.eq E') hW hs hp hN hT (fun M'' E'' => tl_k (k := 2) ⟨by decide, by decide⟩ (E'') S' ((hW.ip (Nat.zero_le _) (fun c hc => absurd hc List.not_mem_nil)).mono (by omega)) next))⟩)))
    (fun s m hs e hp hN hT hf M' S' E' => by subst e; exact Or.inr (Or.inr (⟨rfl, hQ 3 M' (q_read_3 (hR.eq E') hW hs hp hN hT hf (fun M'' E'' => tl_k (k := 3) ⟨by decide, by decide⟩ (E'') S' ((hW.ip (Nat.zero_le _) (fun c hc => absurd hc List.not_mem_nil)).mono (by omega)) next))⟩)))
    (fun s m hs e hp hN hT hf M' S' E' => ⟨rfl, fun M5 em => by
      subst e; obtain ⟨S5, R5, L5⟩ := pk5 S' E' hR em
      exact hQ 0 M5 (q_read_0 R5 hW (by omega) hB2 hs hp hN hT hf (fun M'' E'' => tl_0 E'' S5 L5 ((hW.ip (cs := []) (Nat.zero_le _) (fun c hc => absurd hc List.not_mem_nil)).chg (by omega) hs (read_ok hN.2.1 hT hf) (nxR_le hT hW.1.1 hB2).1 (Nat.le_trans (nxR_le hT hW.1.1 hB2).2 (by omega))) next))⟩)⟩
theorem l_write (hS : SIMC M G) (hR : SIMR M G) (hW : WFG B G) (hB : B + 60 ≤ 1090000) (hB2 : 1000000 ≤ B) (next : NXT N x B) {p1 : Int32} {Q : Int32 → MEM → Prop} (hQ : ∀ k M1, wp_X6_write 40 p1 M1 (fun r M2 => tlI N x k r.toInt64 M2) → Q k M1) : wp_L_write 1 p1 60 M Q := by
  refine ⟨rfl, c_write hS hW (by omega)
    (fun h => by exact Or.inl (⟨rfl, hQ 1 M (q_write_1 hR h (fun M' E => tl_k (k := 1) ⟨by decide, by decide⟩ E hS (hW.mono (by omega)) next))⟩))
    (fun s hs e ha => by subst e; exact Or.inr (⟨rfl, hQ 2 M (q_write_2 hR (hR.rs hW (by omega) hs) ha (fun M' E => tl_k (k := 2) ⟨by decide, by decide⟩ E hS (hW.mono (by omega)) next))⟩))
    (fun s hs e ha M' S' E' => ⟨rfl, fun M5 em => by
      subst e; obtain ⟨S5, R5, L5⟩ := pk5 S' E' hR em
      exact hQ 0 M5 (q_write_0 R5 (R5.rs hW (by omega) hs) ha (fun M'' E'' => tl_0 E'' S5 L5 ((hW.ou (text_len (Nat.le_trans hW.1.1 (by omega)) (hW.1.2 s hs) ha) (text_lt _)).mono (by omega)) next))⟩)⟩
theorem l_text (hS : SIMC M G) (hR : SIMR M G) (hW : WFG B G) (hB : B + 60 ≤ 1090000) (hB2 : 1000000 ≤ B) (next : NXT N x B) {p1 : Int32} {Q : Int32 → MEM → Prop} (hQ : ∀ k M1, wp_X6_text 40 p1 M1 (fun r M2 => tlI N x k r.toInt64 M2) → Q k M1) : wp_L_text 1 p1 60 M Q := by
  refine ⟨rfl, c_text hS hW
    (fun h => by exact ⟨rfl, hQ 1 M (q_text_1 hR hW h (fun M' E => tl_k (k := 1) ⟨by decide, by decide⟩ E hS (hW.mono (by omega)) next))⟩)
    (fun k hk e => ⟨rfl, fun M5 em => by
      subst e; obtain ⟨S5, R5, L5⟩ := pk5 hS (EqR.refl M) hR em
      exact hQ 0 M5 (q_text_0 R5 hW hk (fun M'' E'' => tl_0 E'' S5 L5 (hW.mono (by omega)) next))⟩)⟩
theorem l_undo (hS : SIMC M G) (hR : SIMR M G) (hW : WFG B G) (hB : B + 60 ≤ 1090000) (hB2 : 1000000 ≤ B) (next : NXT N x B) {Q : Int32 → MEM → Prop} (hQ : ∀ k M1, wp_X6_undo 40  M1 (fun r M2 => tlI N x k r.toInt64 M2) → Q k M1) : wp_L_undo 1  60 M Q := by
  refine ⟨rfl, c_undo hS hW (by omega)
    (fun h => by exact ⟨rfl, hQ 1 M (q_undo_1 hR h (fun M' E => tl_k (k := 1) ⟨by decide, by decide⟩ E hS (hW.mono (by omega)) next))⟩)
    (fun s F r h M' S' E' => ⟨rfl, fun M5 em => by
      obtain ⟨S5, R5, L5⟩ := pk5 S' E' hR em
      exact hQ 0 M5 (q_undo_0 R5 hW h (fun M'' E'' => tl_0 E'' S5 L5 ((hW.un h).mono (by omega)) next))⟩)⟩
theorem l_restore (hS : SIMC M G) (hR : SIMR M G) (hW : WFG B G) (hB : B + 60 ≤ 1090000) (hB2 : 1000000 ≤ B) (next : NXT N x B) {Q : Int32 → MEM → Prop} (hQ : ∀ k M1, wp_X6_restore 40  M1 (fun r M2 => tlI N x k r.toInt64 M2) → Q k M1) : wp_L_restore 1  60 M Q := by
  refine ⟨rfl, c_restore hS hW (by omega)
    (fun h => by exact ⟨rfl, hQ 1 M (q_restore_1 hR h (fun M' E => tl_k (k := 1) ⟨by decide, by decide⟩ E hS (hW.mono (by omega)) next))⟩)
    (fun F h M' S' E' => ⟨rfl, fun M5 em => by
      obtain ⟨S5, R5, L5⟩ := pk5 S' E' hR em
      exact hQ 0 M5 (q_restore_0 R5 hW h (fun M'' E'' => tl_0 E'' S5 L5 ((hW.rs h).mono (by omega)) next))⟩)⟩
theorem l_save (hS : SIMC M G) (hR : SIMR M G) (hW : WFG B G) (hB : B + 60 ≤ 1090000) (next : NXT N x B) : wp_X5_save 1 M (fun r M1 => KD 40 = (16, 0) ∧ wp_X6_save 40 M1 (fun r2 M2 => (r = r2 → (∀ y : Int32, y = x + 6 → N y M2)) ∧ (¬ r = r2 → False))) :=
  c_save hS hW (by omega) (fun M' S' E' => ⟨rfl, q_save (hR.eq E') hW (fun M'' F'' R'' => ⟨fun _ y e => by rw [e]; exact next _ M'' (F''.simc S') R'' (hW.sv.mono (by omega)), fun w => absurd rfl w⟩)⟩)
theorem l_feedG (hS : SIMC M G) (hR : SIMR M G) (hW : WFG B G) (hB : B + 60 ≤ 1090000) (hB2 : 1000000 ≤ B) (next : NXT N x B) {z : Int32} {Q : Int32 → MEM → Prop} (hQ : ∀ k M1, wp_X6_feed 40 (gch z) M1 (fun r M2 => tlI N x k r.toInt64 M2) → Q k M1) : wp_L_feed 1 (gch z) 60 M Q := by
  have e : gch z = nI (z.toBitVec.toNat % 65536) := by unfold gch; exact pk_char z
  rw [e] at hQ ⊢
  exact l_feed hS hR hW hB hB2 next (Nat.mod_lt _ (by decide)) hQ
end PLO
