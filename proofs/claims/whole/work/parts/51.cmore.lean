-- PURE: the class's merge, undo, save and restore
def likeA (t g : SLT) : Prop := sK t = sK g ∧ sZ t = sZ g ∧ sS t = sS g
section PM
variable {M : MEM} {G : GST} {B : Nat}
theorem c_merge (hS : SIMC M G) (hW : WFG B G) (hB : B ≤ 1100000) {p1 p2 : Int32} {Q : Int32 → MEM → Prop} {X : String → MEM → Prop}
    (x1 : ¬ (rng p1 0 3 ∧ rng p2 0 3) → X "java/lang/IndexOutOfBoundsException" M)
    (x2 : ∀ s t, s < 4 → p1 = nI s → t < 4 → p2 = nI t → ¬ (sH ((gCur G).1 s) = true ∧ sH ((gCur G).1 t) = true) → X "java/lang/IllegalStateException" M)
    (x3 : ∀ s t, s < 4 → p1 = nI s → t < 4 → p2 = nI t → sH ((gCur G).1 s) = true → sH ((gCur G).1 t) = true → ¬ (likeA ((gCur G).1 t) ((gCur G).1 s) ∧ (sP ((gCur G).1 t) = 0 → (mrg (sL ((gCur G).1 s)) (sL ((gCur G).1 t))).length ≤ 60)) → X "java/lang/UnsupportedOperationException" M)
    (hQ : ∀ s t, s < 4 → p1 = nI s → t < 4 → p2 = nI t → sH ((gCur G).1 s) = true → sH ((gCur G).1 t) = true → likeA ((gCur G).1 t) ((gCur G).1 s) → (sP ((gCur G).1 t) = 0 → (mrg (sL ((gCur G).1 s)) (sL ((gCur G).1 t))).length ≤ 60) → ∀ M', SIMC M' (chgG G t (joinA ((gCur G).1 s) ((gCur G).1 t)) (gCur G).2) → EqR M M' → Q (nI (sN (joinA ((gCur G).1 s) ((gCur G).1 t)))) M') : wp_X5_merge 1 p1 p2 M Q X := by
  refine ⟨rfl, s_slotAt (fun s hs e => s_slotAt (fun t ht e2 => ?_) (fun w => x1 (fun q => w q.2))) (fun w => x1 (fun q => w q.1))⟩
  subst e; subst e2
  have hg := hS.cs hW hB hs
  have hc := hS.cs hW hB ht
  refine c_filled hg (fun ha => c_filled hc (fun hb => ⟨hc.kd, c_like hc hg hb ha ⟨fun q => ?_, fun q => ?_⟩⟩) (fun w => x2 s t hs rfl ht rfl (fun q => by rw [w] at q; exact absurd q.2 (by decide)))) (fun w => x2 s t hs rfl ht rfl (fun q => by rw [w] at q; exact absurd q.1 (by decide)))
  · have hl : likeA ((gCur G).1 t) ((gCur G).1 s) := by
      split at q
      · rename_i w; exact w
      · exact absurd rfl q
    have hml := missing_len hg.2.1 hc.2.1
    have hmn := cntF_le (fun i => !hasN ((gCur G).1 t) (it ((gCur G).1 s) i).1) (sN ((gCur G).1 s))
    have hgn := hg.n
    refine c_missing hc hg (c_room hc hb (by omega) ⟨fun q2 => ?_, fun q2 => ?_⟩)
    · have hr : sP ((gCur G).1 t) = 0 → (mrg (sL ((gCur G).1 s)) (sL ((gCur G).1 t))).length ≤ 60 := fun w => by
        refine Nat.not_lt.mp (fun w2 => ?_)
        rw [if_pos ⟨w, by omega⟩] at q2
        exact q2 rfl
      refine ⟨rfl, c_join (o := 108) (by omega) (by omega) (by decide) (by decide) hg hc hb hr (fun M1 r1 F1 => ⟨rfl, ?_⟩)⟩
      have S1 : SIMC M1 G := hS.of (fun b hb j => F1.1 b (by unfold liveC at hb; unfold inH; omega) j)
      refine c_remember S1 hW hB ht (fun M2 S2 F2 => ?_)
      have hj : CS (gCur G).2 M2 108 (joinA ((gCur G).1 s) ((gCur G).1 t)) := ⟨r1.of (fun b hb j => F2.1 b (by unfold inH at hb; unfold inHis; omega) j), joinA_ok hg.2.1 hc.2.1 hb hr, by decide, by decide, hc.2.2.2.2⟩
      refine c_become hc.h1 hc.h2 hj (fun M3 c3 F3 => s_count c3.1 hc.h1 hc.h2 ?_)
      exact hQ s t hs rfl ht rfl ha hb hl hr M3 (S2.set1 ht c3.1 F3) (((EqR.fr F1 (fun b p q => not_inHs p q (by decide))).trans (EqR.fr F2 (fun b p q => not_inHis p q))).trans (EqR.fr F3 (fun b p q => not_inHs p q hc.h1)))
    · refine x3 s t hs rfl ht rfl ha hb (fun w => ?_)
      by_cases c : sP ((gCur G).1 t) = 0 ∧ 60 < sN ((gCur G).1 t) + cntF (fun i => !hasN ((gCur G).1 t) (it ((gCur G).1 s) i).1) (sN ((gCur G).1 s))
      · have := w.2 c.1; omega
      · rw [if_neg c] at q2; exact absurd q2 (by decide)
  · refine x3 s t hs rfl ht rfl ha hb (fun w => ?_)
    split at q
    · exact absurd q (by decide)
    · rename_i w2; exact w2 w.1
theorem rix_back {tp j : Nat} (h : tp < 10) (hj : j < 9) : rix (rix tp 0) j = rix tp (j + 1) := by unfold rix; omega
def undoG (G : GST) (s : Nat) (F : FULL) (r : List (Nat × FULL)) : GST := (F, G.2.1, r, G.2.2.2)
theorem c_undo (hS : SIMC M G) (hW : WFG B G) (hB : B ≤ 1100000) {Q : Int32 → MEM → Prop} {X : String → MEM → Prop}
    (x1 : gHis G = [] → X "java/lang/IllegalStateException" M)
    (hQ : ∀ s F r, gHis G = (s, F) :: r → ∀ M', SIMC M' (undoG G s F r) → EqR M M' → Q (nI r.length) M') : wp_X5_undo 1 M Q X := by
  obtain ⟨h1, h2, h3, h4, ⟨h5, tp, ht, h6, h7⟩, h8, h9⟩ := hS
  have hl := hW.2.2.2.2.1
  have hch := hW.2.2.2.1
  have hok := hW.2.2.1
  refine ⟨rfl, rfl, rfl, ?_⟩
  show (¬ mI M 4 3 = 0 → _) ∧ (mI M 4 3 = 0 → _)
  rw [h5]
  cases hh : gHis G with
  | nil =>
    refine ⟨fun w => absurd rfl w, fun _ => x1 hh⟩
  | cons q r =>
    obtain ⟨s, F⟩ := q
    rw [hh] at hl hch
    have hr9 : r.length ≤ 9 := by rw [List.length_cons] at hl; omega
    refine ⟨fun _ => ?_, fun w => absurd ((nI_eq (b := 0) (by rw [List.length_cons]; omega) (by decide)).mp w) (by simp)⟩
    obtain ⟨hs4, hsame, hch2⟩ := hch
    have h70 := h7 0 (by rw [hh]; simp)
    have h7s : ∀ j (hj : j < r.length), mI M 6 (rix tp (j + 1)) = nI (r[j]).1 ∧ RepC M (111 + rix tp (j + 1)) ((r[j]).2.1 (r[j]).1) ∧ mI M 7 (rix tp (j + 1)) = nI (r[j]).2.2 := by
      intro j hj
      have := h7 (j + 1) (by rw [hh, List.length_cons]; omega)
      simp only [hh, List.getElem_cons_succ] at this
      exact this
    simp only [hh, List.getElem_cons_zero] at h70
    obtain ⟨g1, g2, g3⟩ := h70
    have hx : rix tp 0 < 10 := Nat.mod_lt _ (by decide)
    refine ⟨rfl, s_topIndex ht h6 (fun M3 e3 v4 e4 M5 e5 => ?_)⟩
    have et : ((nI tp + 10) - 1) - ((nI tp + 10) - 1) / 10 * 10 = nI (rix tp 0) := by
      rw [n10, nA, n1, nS (by omega), pk_rem (by omega) (by decide) (by decide)]
      congr 1
    rw [r1_5] at e3 e5 e4
    rw [et] at e3
    have k3 : mI M3 4 3 = nI (r.length + 1) := by rw [e3, rd_ne (by omega), h5, hh, List.length_cons]
    rw [k3, n1, nm1, if_neg (nI_pos (by omega))] at e4
    subst e4
    have ho : ∀ b, b ≠ 4 → ∀ j, mI M5 b j = mI M b j := fun b hb j => by rw [e5, rd_ne (by omega), e3, rd_ne (by omega)]
    have hrep : ∀ {h a}, 100 ≤ h → h < 121 → RepC M h a → RepC M5 h a := fun q1 q2 hr => hr.of (fun b hb j => ho b (by unfold inH at hb; omega) j)
    have t5 : mI M5 4 4 = nI (rix tp 0) := by rw [e5, rd_ne (by omega), e3, rd_eq]
    have c5 : mI M5 4 3 = nI r.length := by rw [e5, rd_eq]
    refine ⟨rfl, s_topIndex hx t5 ⟨rfl, nV hx (by decide), ?_⟩⟩
    rw [nC (by omega), show mI M5 (RF (RF 1 5) 1) (rix tp 0) = nI s from (ho 6 (by decide) _).trans g1]
    refine s_slotAt (fun s' hs' es => ?_) (fun w => absurd (rng_slot hs4) w)
    have ess : s = s' := (nI_eq (by omega) (by omega)).mp es
    subst ess
    refine ⟨rfl, s_topIndex hx t5 ⟨rfl, nV hx (by decide), ?_⟩⟩
    rw [nC (by omega)]
    have hF2 := hok (s, F) (by rw [hh]; exact List.mem_cons_self)
    have hsrc : CS F.2 M5 (111 + rix tp 0) (F.1 s) := ⟨hrep (by omega) (by omega) g2, hF2.2 s hs4, by omega, by omega, Nat.le_trans hF2.1 hB⟩
    refine ⟨kS (by omega) (by omega), c_become (by omega) (by omega) hsrc (fun M6 c6 F6 => ?_)⟩
    have o6 : ∀ b, b < 100 → ∀ j, mI M6 b j = mI M5 b j := fun b hb j => F6.1 b (by unfold inH; omega) j
    refine ⟨rfl, s_topIndex hx (by rw [o6 4 (by decide)]; exact t5) ⟨rfl, nV hx (by decide), ?_⟩⟩
    rw [nC (by omega), show mI M6 (RF (RF 1 5) 2) (rix tp 0) = nI F.2 from (o6 7 (by decide) _).trans ((ho 7 (by decide) _).trans g3)]
    intro M7 e7
    have o7 : ∀ b, b < 100 → b ≠ 1 → b ≠ 4 → ∀ j, mI M7 b j = mI M b j := fun b hb h1 h4 j => by rw [e7, rd_ne (by omega), o6 b hb, ho b h4]
    have o74 : ∀ j, mI M7 4 j = mI M5 4 j := fun j => by rw [e7, rd_ne (by omega), o6 4 (by decide)]
    have hrep7 : ∀ {h a}, 100 ≤ h → h < 121 → h ≠ 100 + s → RepC M h a → RepC M7 h a := fun q1 q2 q3 hr => hr.of (fun b hb j => by
      rw [e7, rd_ne (by unfold inH at hb; omega), F6.1 b (not_inH (by omega) (by omega) q1 q2 q3 b hb), ho b (by unfold inH at hb; omega)])
    refine ⟨rfl, ?_⟩
    rw [show mI M7 (RF 1 5) 3 = nI r.length from (o74 3).trans c5]
    refine hQ s F r hh M7 ⟨fun i hi => ?_, by rw [e7, rd_eq]; rfl, ?_, fun F' hF' => ⟨fun i hi => hrep7 (by omega) (by omega) (by omega) ((h4 F' hF').1 i hi), ?_⟩, ⟨(o74 3).trans c5, rix tp 0, hx, (o74 4).trans t5, fun j hj => ?_⟩, ?_, ?_⟩ ?_
    · by_cases c : i = s
      · subst c
        exact c6.1.of (fun b hb j => by rw [e7, rd_ne (by unfold inH at hb; omega)])
      · have := hrep7 (by omega) (by omega) (by omega) (h1 i hi)
        show RepC M7 (100 + i) (F.1 i)
        rw [hsame i c]
        exact this
    · rw [e7, rd_ne (by omega), o6 1 (by decide), ho 1 (by decide)]; exact h3
    · rw [e7, rd_ne (by omega), o6 1 (by decide), ho 1 (by decide)]; exact (h4 F' hF').2
    · have hj' : j < r.length := hj
      obtain ⟨a, b, c⟩ := h7s j hj'
      have hy : rix tp (j + 1) < 10 := Nat.mod_lt _ (by decide)
      rw [rix_back ht (by omega)]
      exact ⟨by rw [o7 6 (by decide) (by decide) (by decide)]; exact a, hrep7 (by omega) (by omega) (by omega) b, by rw [o7 7 (by decide) (by decide) (by decide)]; exact c⟩
    · exact ⟨by rw [o7 8 (by decide) (by decide) (by decide)]; exact h8.1, fun k hk => by rw [o7 9 (by decide) (by decide) (by decide)]; exact h8.2 k hk⟩
    · exact ⟨by rw [o7 10 (by decide) (by decide) (by decide)]; exact h9.1, fun k hk => by rw [o7 11 (by decide) (by decide) (by decide)]; exact h9.2 k hk⟩
    · exact fun b p q j => o7 b (by omega) (by omega) (by omega) j
end PM
