-- PURE: the class reads a text, whole
section PRE
variable {M : MEM} {G : GST} {B : Nat} {ns : List Int} {m p : Nat}
theorem Par.of {M' : MEM} (hP : Par M ns p) {S : Nat → Prop} (hF : FrI S M M') (hS : ¬ S 12) : Par M' ns p := by
  obtain ⟨g1, g2, g3⟩ := hP
  refine ⟨by rw [hF.1 12 hS]; exact g1, by rw [hF.1 12 hS]; exact g2, fun k hk => ?_⟩
  have : mL M' = mL M := by unfold mL; rw [hF.2]
  rw [this]; exact g3 k hk
theorem readA_s (ns : List Int) (m : Nat) : readA ns (m + 1) = (true, (readA ns m).2.1, (readA ns m).2.2.1, sL (readA ns m) ++ [itmR ns m]) := by
  unfold readA
  rw [List.range_succ, List.map_append]; rfl
theorem p_fill {h : Nat} (h1 : 100 ≤ h) (h2 : h < 121) {nx : Nat} (hx : nxR ns m nx ≤ 1100000) (hP : Par M ns p) (hN : okN ns m) (hT : okT ns m) (hfit : fitsS ns m) {Q : MEM → Prop} (hQ : ∀ M', CS (nxR ns m nx) M' h (readA ns m) → FrI (inH h) M M' → Q M') : wp_X2_fill 12 h M Q := by
  obtain ⟨s0, s1, s3, s2⟩ := hT.1
  have hm := hN.2.1
  refine ⟨rfl, p_num hP hN (i := 0) (by decide) (p_num hP hN (i := 1) (by decide) (p_num hP hN (i := 2) (by decide) (p_num hP hN (i := 3) (by decide) ⟨kS h1 h2, ?_⟩)))⟩
  rw [iL32 s0.1 (by omega), iL32 (by omega) (by omega), iL32i, iL32 s3.1 (by omega)]
  refine c_begin (nx := nxR ns m nx) h1 h2 hx (by omega) (by omega) (by omega) (by omega) (fun M1 c1 F1 => ⟨m + 1, ?_⟩)
  have lp : ∀ f i M2, i ≤ m → m - i < f → RepC M2 h (readA ns i) → FrI (inH h) M M2 → wp_X2_fill_L30 12 h Q f (nI i) M2 := by
    intro f
    induction f with
    | zero => intro i M2 _ h9; omega
    | succ f ih =>
      intro i M2 hi hf r2 F2
      have hP2 := hP.of F2 (by unfold inH; omega)
      refine p_items hP2 hN ⟨fun w => ?_, fun w => ?_⟩
      · have : i = m := by have := (nI_leI (by omega) (by omega)).mp w; omega
        subst this
        exact hQ M2 ⟨r2, read_ok hm hT hfit, h1, h2, hx⟩ F2
      · have him : i < m := Nat.not_le.mp (fun q => w (nI_le q (by omega)))
        obtain ⟨a, b, c, d, e⟩ := hT.2 i him
        have hn0 := okT_nn hT him
        refine p_partAt hP2 hN (q := 0) (by omega) (by decide) (p_partAt hP2 hN (q := 1) (by omega) (by decide) (p_partAt hP2 hN (q := 2) (by omega) (by decide) (p_partAt hP2 hN (q := 3) (by omega) (by decide) (p_partAt hP2 hN (q := 4) (by omega) (by decide) ?_))))
        rw [Nat.add_zero, iL32 hn0 (by omega), iL32 b.1 (by omega), iL32 c.1 (by omega), iL32 (by omega) (by omega), iL32i]
        have hsp : sP (readA ns i) = (nAt ns 3).toNat := rfl
        have hfit' : (m : Int) ≤ if nAt ns 3 = 0 then 60 else nAt ns 3 := hfit
        have hle : sP (readA ns i) ≠ 0 → i < sP (readA ns i) := fun w => by
          rw [hsp] at w ⊢
          rw [if_neg (by omega)] at hfit'
          omega
        refine s_push r2 rfl h1 h2 (by rw [sN_read]; omega) (by rw [hsp]; omega) (fun w => by rw [sN_read]; exact Nat.le_of_lt (hle w)) (fun w => by rw [sN_read]; omega) (itmR ns i) (fun M3 r3 F3 x2 e2 => ?_)
        rw [e2, n1, nA]
        refine ih (i + 1) M3 (by omega) (by omega) ?_ (F2.trans F3)
        rw [readA_s]
        unfold pushA at r3
        rw [if_neg (fun w => by have := hle w.1; have := w.2; rw [sN_read] at this; omega)] at r3
        exact r3
  refine lp (m + 1) 0 M1 (Nat.zero_le _) (by omega) c1.1 F1
theorem SIMC.setNx (hS : SIMC M G) {s : Nat} {a : SLT} {nx : Nat} {M' : MEM} (h : SIMC M (setG G s a nx)) : True := trivial
theorem c_read (hS : SIMC M G) (hW : WFG B G) (hB : B ≤ 1090000) (hB2 : 1000000 ≤ B) {p1 : Int32} {Q : Int32 → MEM → Prop} {X : String → MEM → Prop}
    (x1 : ¬ rng p1 0 3 → X "java/lang/IndexOutOfBoundsException" M)
    (hE : ∀ s p, s < 4 → p1 = nI s → (prsR (gInp G)).1 = some p → p ≤ 120 → ∀ M', SIMC M' (inpG G []) → EqR M M' → Q (-100 - nI p) M')
    (x2 : ∀ s m, s < 4 → p1 = nI s → (prsR (gInp G)).1 = none → okN (prsR (gInp G)).2 m → ¬ okT (prsR (gInp G)).2 m → ∀ M', SIMC M' (inpG G []) → EqR M M' → X "java/lang/IllegalArgumentException" M')
    (x3 : ∀ s m, s < 4 → p1 = nI s → (prsR (gInp G)).1 = none → okN (prsR (gInp G)).2 m → okT (prsR (gInp G)).2 m → ¬ fitsS (prsR (gInp G)).2 m → ∀ M', SIMC M' (inpG G []) → EqR M M' → X "java/lang/IllegalStateException" M')
    (hQ : ∀ s m, s < 4 → p1 = nI s → (prsR (gInp G)).1 = none → okN (prsR (gInp G)).2 m → okT (prsR (gInp G)).2 m → fitsS (prsR (gInp G)).2 m → ∀ M', SIMC M' (chgG (inpG G []) s (readA (prsR (gInp G)).2 m) (nxR (prsR (gInp G)).2 m (gCur G).2)) → EqR M M' → Q (nI m) M') : wp_X5_read 1 p1 M Q X := by
  refine ⟨rfl, s_slotAt (fun s hs e => ⟨rfl, ?_⟩) x1⟩
  subst e
  have hl := hW.2.2.2.2.2.1.1
  have hlt := hW.2.2.2.2.2.1.2
  have hW' : WFG B (inpG G []) := ⟨hW.1, hW.2.1, hW.2.2.1, hW.2.2.2.1, hW.2.2.2.2.1, ⟨Nat.zero_le _, fun c hc => absurd hc List.not_mem_nil⟩, hW.2.2.2.2.2.2⟩
  have clr : ∀ M1 M2, FrP M M1 → M2 = uI M1 8 1 0 → SIMC M2 (inpG G []) ∧ EqR M M2 := fun M1 M2 hF e2 => by
    refine ⟨hS.inpSet ⟨by rw [e2, rd_eq]; rfl, fun k hk => absurd hk (Nat.not_lt_zero _)⟩ (fun b hb h8 h9 j => ?_), fun b p q j => by rw [e2, rd_ne (by omega)]; exact hF b (by omega) j⟩
    rw [e2, rd_ne (by omega)]
    exact hF b (by unfold liveC at hb; omega) j
  refine p_find hS.inp hlt hl (fun M1 p hF1 hpr hp => ⟨rfl, rfl, fun M2 e2 => ?_⟩) (fun M1 p hF1 hpr hP1 => ⟨rfl, rfl, fun M2 e2 => ?_⟩)
  · obtain ⟨S2, E2⟩ := clr M1 M2 hF1 e2
    exact ⟨fun w => absurd w (nI_pos (by omega)), fun _ => hE s p hs rfl hpr (by omega) M2 S2 E2⟩
  · obtain ⟨S2, E2⟩ := clr M1 M2 hF1 e2
    refine ⟨fun _ => ?_, fun w => absurd (by decide) w⟩
    obtain ⟨m, hN⟩ := prs_okN hl hpr
    have e2' : M2 = uI M1 8 1 0 := e2
    have hP2 : Par M2 (prsR (gInp G)).2 p := by
      have : Par M1 (prsR (gInp G)).2 p := hP1
      rw [e2']
      exact this.of (FrI.uI (S := fun b => b = 8) rfl) (by decide)
    refine p_range hP2 hN (fun hT => s_need (fun _ => ?_) (fun e => absurd e (by decide))) (fun hT => s_need (fun e => absurd rfl e) (fun _ => x2 s m hs rfl hpr hN hT M2 S2 E2))
    refine p_fits hP2 hN (fun hf => ⟨fun _ => ?_, fun e => absurd e (by decide)⟩) (fun hf => ⟨fun e => absurd rfl e, fun _ => x3 s m hs rfl hpr hN hT hf M2 S2 E2⟩)
    obtain ⟨hnx1, hnx2⟩ := nxR_le hT hW.1.1 hB2
    have hc := S2.cs hW' (by omega) hs
    refine ⟨rfl, c_remember S2 hW' (by omega) hs (fun M3 S3 F3 => ?_)⟩
    refine p_fill (nx := (gCur G).2) hc.h1 hc.h2 (by omega) (hP2.of F3 (by unfold inHis; decide)) hN hT hf (fun M4 c4 F4 => ⟨hc.kd, ?_⟩)
    have n4 : mI M4 1 4 = nI (gCur G).2 := by rw [F4.1 1 (by unfold inH; omega)]; exact S3.nx
    have hnb := hW.1.1
    have fin : ∀ M5, M5 = uI M4 1 4 (nI (nxR (prsR (gInp G)).2 m (gCur G).2)) → wp_X4_count (100 + s) M5 (fun r_25 => Q r_25 M5) := fun M5 e5 => by
      have F5 : ∀ b, b ≠ 1 → ∀ j, mI M5 b j = mI M4 b j := fun b hb j => by rw [e5, rd_ne (by omega)]
      have r5 : RepC M5 (100 + s) (readA (prsR (gInp G)).2 m) := c4.1.of (fun b hb j => F5 b (by unfold inH at hb; omega) j)
      refine s_count r5 hc.h1 hc.h2 ?_
      rw [sN_read]
      refine hQ s m hs rfl hpr hN hT hf M5 (S3.set hs r5 (fun b h1 h2 _ j => (F5 b h1 j).trans (F4.1 b h2 j)) ?_ ?_ ?_) ((E2.trans (EqR.fr F3 (fun b p q => not_inHis p q))).trans ((EqR.fr F4 (fun b p q => not_inHs p q hc.h1)).trans (fun b p q j => F5 b (by omega) j)))
      · rw [e5, rd_ne (by omega)]; exact F4.1 1 (by unfold inH; omega) 2
      · rw [e5, rd_ne (by omega)]; exact F4.1 1 (by unfold inH; omega) 3
      · rw [e5, rd_eq]
    refine c_last c4 (fun hm0 v ev M5 e5 => fin M5 ?_) (fun hm0 v ev M5 e5 => fin M5 ?_)
    · rw [sN_read] at hm0
      subst hm0
      rw [n4, show (-1 : Int32) + 1 = nI 0 by decide, if_neg (nI_nlt (Nat.zero_le _) (by omega))] at ev
      rw [e5, ev]; rfl
    · rw [sN_read] at hm0 ev
      rw [it_read (by omega), n4, n1, nA] at ev
      have hb := (hT.2 (m - 1) (by omega)).1.2
      have hnum : (itmR (prsR (gInp G)).2 (m - 1)).1 = (nAt (prsR (gInp G)).2 (4 + 5 * (m - 1))).toNat := rfl
      rw [hnum] at ev
      rw [e5, ev]
      congr 1
      unfold nxR
      rw [if_neg hm0]
      by_cases q : (gCur G).2 < (nAt (prsR (gInp G)).2 (4 + 5 * (m - 1))).toNat + 1
      · rw [if_pos (nI_lt q (by omega)), Nat.max_eq_right (by omega)]
      · rw [if_neg (nI_nlt (Nat.not_lt.mp q) (by omega)), Nat.max_eq_left (by omega)]
end PRE
