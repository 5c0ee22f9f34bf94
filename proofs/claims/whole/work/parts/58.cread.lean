-- PURE: the class reads a text
theorem n_rem5 {n : Nat} (h : n < 2147483648) : nI n - nI n / 5 * 5 = nI (n % 5) := pk_rem (d := 5) h (by decide) (by decide)
section PR
variable {M : MEM} {cs : List Nat}
theorem p_last {k : Nat} (hk : k < 1000) {Q : Int32 → Prop} (hQ : Q (if lastP k = true then 1 else 0)) : wp_X2_isLastOfPart (nI k) M Q := by
  unfold wp_X2_isLastOfPart
  unfold lastP at hQ
  refine ⟨fun w => ?_, fun w => ?_⟩
  · have h4 : 4 ≤ k := (nI_leI (a := 4) (by decide) (by omega)).mp w
    rw [n4, pk_sub h4, n_rem5 (by omega)]
    rw [if_neg (show ¬ k < 4 by omega)] at hQ
    refine ⟨fun q => ?_, fun q => ?_⟩
    · rw [if_neg (by simp; exact fun e => q (by rw [e])), ] at hQ; exact hQ
    · have := (nI_eq (b := 4) (by omega) (by decide)).mp q
      rw [if_pos (by simp [this])] at hQ; exact hQ
  · have h4 : k < 4 := Nat.not_le.mp (fun q => w (nI_le (a := 4) q (by omega)))
    rw [if_pos h4] at hQ
    refine ⟨fun q => ?_, fun q => ?_⟩
    · rw [if_neg (by simp; exact fun e => q (by rw [e]; rfl))] at hQ; exact hQ
    · have := (nI_eq (b := 3) (by omega) (by decide)).mp q
      rw [if_pos (by simp [this])] at hQ; exact hQ
theorem p_sep {k : Nat} (hk : k < 1000) {Q : Int32 → Prop} (hQ : Q (nI (sepP k))) : wp_X2_separatorAfter (nI k) M Q := by
  unfold wp_X2_separatorAfter
  unfold sepP at hQ
  refine p_last hk ⟨fun w => ?_, fun w => ?_⟩
  · have h : ¬ lastP k = true := fun z => by rw [if_pos z] at w; exact absurd w (by decide)
    rw [if_neg h] at hQ
    refine ⟨fun q => ?_, fun q => ?_⟩
    · have h4 : 4 ≤ k := (nI_leI (a := 4) (by decide) (by omega)).mp q
      rw [if_neg (by omega)] at hQ; exact hQ
    · have h4 : k < 4 := Nat.not_le.mp (fun z => q (nI_le (a := 4) z (by omega)))
      rw [if_pos h4] at hQ; exact hQ
  · have h : lastP k = true := Decidable.byContradiction (fun z => by rw [if_neg z] at w; exact w rfl)
    rw [if_pos h] at hQ; exact hQ
theorem p_find (hL : Let M 8 cs) (hc : ∀ c ∈ cs, c < 65536) (hl : cs.length ≤ 120) {Q : Int32 → MEM → Prop}
    (hQ : ∀ M' p, FrP M M' → (prs cs 61 0 0 []).1 = some p → p ≤ cs.length → Q (nI p) M') (hQ1 : ∀ M' p, FrP M M' → (prs cs 61 0 0 []).1 = none → Par M' (prs cs 61 0 0 []).2 p → Q (-1) M') : wp_X2_findError 12 8 M Q := by
  refine ⟨rfl, fun M1 e1 M2 e2 => ⟨61, ?_⟩⟩
  have lp : ∀ f k p ns M1, ns.length = k → 2 * k ≤ p → p ≤ cs.length → 60 - k < f → k ≤ 60 → Par M1 ns p → FrP M M1 → prs cs f k p ns = prs cs 61 0 0 [] → wp_X2_findError_L12 12 8 Q f (nI k) M1 := by
    intro f
    induction f with
    | zero => intro k p ns M1 _ _ _ h9; omega
    | succ f ih =>
      intro k p ns M1 hnk hkp hp hf hk60 hP1 hF1 hpr
      have hL1 := hL.fp hF1
      have hE := numE_le hp
      unfold wp_X2_findError_L12
      refine ⟨fun w => absurd ((nI_ltI (a := 120) (by decide) (by omega)).mp w) (by omega), fun _ => ?_⟩
      refine p_take hL1 hc hl hP1 hp (by omega) (fun h0 M3 hP3 hF3 => ?_) (fun h1 hlt M3 hP3 hF3 => ?_)
      · have hd0 : numD cs p = 0 := by
          rcases h0 with h0 | h0
          · exact h0
          · have : numE cs p ≤ cs.length := hE
            refine Nat.eq_zero_of_not_pos (fun q => ?_)
            have := numE_gt hp (by omega)
            omega
        have : prs cs (f + 1) k p ns = (some (numE cs p), ns) := by rw [prs, if_pos hd0]
        refine ⟨fun e => absurd rfl e, fun _ => ?_⟩
        rw [hP3.2.1]
        exact hQ M3 _ (hF1.trans hF3) (by rw [← hpr, this]) hE
      · have hgt := numE_gt hp h1
        have hlen : (ns ++ [numV cs p]).length = k + 1 := by rw [List.length_append, hnk]; rfl
        have k3 : mI M3 12 1 - 1 = nI k := by rw [hP3.1, hlen, n1, nm1]
        have hL3 := hL1.fp hF3
        refine ⟨fun _ => ?_, fun e => absurd e (by decide)⟩
        rw [k3]
        refine p_last (by omega) ⟨rfl, rfl, ?_⟩
        rw [hP3.2.1, hL3.1]
        rw [prs, if_neg h1] at hpr
        refine ⟨fun w => ?_, fun w => ?_⟩
        · have w' : numE cs p < cs.length := (nI_ltI (by omega) (by omega)).mp w
          rw [if_neg (by omega)] at hpr
          have hch := chr_lt hc (numE cs p)
          refine p_letter hL3 hc hl w' (p_sep (by omega) ⟨fun q M16 e16 x2 e2 => ?_, fun q => ?_⟩)
          · have hsl : sepP k < 65536 := by unfold sepP; split; decide; split <;> decide
            rw [if_pos ((nI_eq (by omega) (by omega)).mp q)] at hpr
            rw [n1, nA] at e16
            rw [e2, n1, nA]
            refine ih (k + 1) (numE cs p + 1) (ns ++ [numV cs p]) M16 hlen (by omega) (by omega) (by omega) (by omega) ⟨by rw [e16, rd_ne (by omega)]; exact hP3.1, by rw [e16, rd_eq], fun j hj => by rw [e16, mL_uI]; exact hP3.2.2 j hj⟩ (fun b hb j => by rw [e16, rd_ne (by omega)]; exact (hF1.trans hF3) b hb j) hpr
          · rw [if_neg (fun e => q (by rw [e]))] at hpr
            exact hQ M3 _ (hF1.trans hF3) (by rw [← hpr]) hE
        · have w' : ¬ numE cs p < cs.length := fun q => w (nI_lt q (by omega))
          rw [if_pos (by omega)] at hpr
          refine ⟨fun q => ?_, fun q => ?_⟩
          · have hz : ¬ lastP k = true := fun z => by rw [if_pos z] at q; exact absurd q (by decide)
            rw [if_neg hz] at hpr
            exact hQ M3 _ (hF1.trans hF3) (by rw [← hpr]) hE
          · have hz : lastP k = true := Decidable.byContradiction (fun z => by rw [if_neg z] at q; exact q rfl)
            rw [if_pos hz] at hpr
            exact hQ1 M3 (numE cs p) (hF1.trans hF3) (by rw [← hpr]) (by rw [← hpr]; exact hP3)
  have hP2 : Par M2 [] 0 := ⟨by rw [e2, rd_ne (by omega), e1, rd_eq]; rfl, by rw [e2, rd_eq]; rfl, fun k hk => absurd hk (Nat.not_lt_zero _)⟩
  exact lp 61 0 0 [] M2 rfl (by omega) (Nat.zero_le _) (by omega) (by omega) hP2 (fun b hb j => by rw [e2, rd_ne (by omega), e1, rd_ne (by omega)]) rfl
end PR
