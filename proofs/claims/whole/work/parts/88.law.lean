-- PURE: the law's loop, from the start
def sl0 : SLT := (false, (0, 0, 0, 0), fun _ => 0, [])
def G0 : GST := ((fun _ => sl0, 0), none, [], [], [])
theorem simc0 : SIMC M0 G0 :=
  ⟨fun i _ => ⟨rfl, rfl, fun i hi => absurd hi (Nat.not_lt_zero _), fun w => absurd (show false = true from w) (by decide)⟩, rfl, rfl, fun F hF => absurd hF (by simp [G0]), ⟨rfl, 0, by decide, rfl, fun j hj => absurd hj (Nat.not_lt_zero _)⟩, ⟨rfl, fun k hk => absurd hk (Nat.not_lt_zero _)⟩, rfl, fun k hk => absurd hk (Nat.not_lt_zero _)⟩
theorem simr0 : SIMR M0 G0 :=
  ⟨⟨fun i _ => ⟨rfl, fun w => absurd (show false = true from w) (by decide)⟩, rfl⟩, rfl, fun F hF => absurd hF (by simp [G0]), ⟨rfl, fun j hj => absurd hj (Nat.not_lt_zero _)⟩, ⟨rfl, fun k hk => absurd hk (Nat.not_lt_zero _)⟩, rfl, fun k hk => absurd hk (Nat.not_lt_zero _)⟩
theorem wfg0 : WFG 1000000 G0 :=
  ⟨⟨Nat.zero_le _, fun i _ => ⟨Nat.zero_le _, fun _ => rfl, fun w => absurd (show false = true from w) (by decide), fun i hi => absurd hi (Nat.not_lt_zero _), fun i j _ hj => absurd hj (Nat.not_lt_zero _)⟩⟩, fun F hF => absurd hF (by simp [G0]), fun q hq => absurd hq List.not_mem_nil, trivial, Nat.zero_le _, ⟨Nat.zero_le _, fun c hc => absurd hc List.not_mem_nil⟩, Nat.zero_le _, fun c hc => absurd hc List.not_mem_nil⟩
set_option maxHeartbeats 4000000 in
theorem law_pure {L : Nat} (hL : L ≤ 3072) (xs : Nat → Int32) : ∃ n, n ≤ 600 ∧ wp_L_law_L28 L xs n 0 M0 := by
  refine ⟨513, by decide, ?_⟩
  have lp : ∀ f i M G, i ≤ 512 → 512 - i < f → SIMC M G → SIMR M G → WFG (1000000 + 60 * i) G → wp_L_law_L28 L xs f (nI (6 * i)) M := by
    intro f
    induction f with
    | zero => intro i M G _ h9; omega
    | succ f ih =>
      intro i M G hi hf hS hR hW
      unfold wp_L_law_L28
      refine ⟨fun _ => trivial, fun c => ?_⟩
      have hle : 6 * i + 6 ≤ L := by
        have h1 := mt Int32.lt_iff_toInt_lt.mpr c
        have h2 : (nI L - 6).toInt = (L : Int) - 6 := pk_sub_toInt (a := L) (b := 6) (by omega) (by decide)
        rw [h2, nI_toInt (by omega)] at h1
        omega
      have hv : ∀ k, k < 6 → vp_in (nI (6 * i) + nI k) L := fun k hk => by rw [nA]; exact nV (by omega) (by omega)
      have v0 : vp_in (nI (6 * i)) L := nV (by omega) (by omega)
      have v1 : vp_in (nI (6 * i) + 1) L := hv 1 (by decide)
      have v2 : vp_in (nI (6 * i) + 2) L := hv 2 (by decide)
      have v3 : vp_in (nI (6 * i) + 3) L := hv 3 (by decide)
      have v4 : vp_in (nI (6 * i) + 4) L := hv 4 (by decide)
      have v5 : vp_in (nI (6 * i) + 5) L := hv 5 (by decide)
      have hB : 1000000 + 60 * i + 60 ≤ 1090000 := by omega
      have hB2 : 1000000 ≤ 1000000 + 60 * i := by omega
      have next : NXT (wp_L_law_L28 L xs f) (nI (6 * i)) (1000000 + 60 * i) := fun G' M' a b w => by
        have e6 : nI (6 * i) + 6 = nI (6 * (i + 1)) := nA (6 * i) 6
        rw [e6]
        exact ih (i + 1) M' G' (by omega) (by omega) a b (by rw [show 1000000 + 60 * (i + 1) = 1000000 + 60 * i + 60 by omega]; exact w)
      generalize nI (6 * i) = x at *
      refine ⟨v0, fun w _ => ⟨fun _ y e => by rw [e]; exact next G M hS hR (hW.mono (by omega)),
        fun _ => ⟨v1, v2, v3, v4, v5, l_define hS hR hW hB hB2 next (fun k M1 h => ⟨v1, v2, v3, v4, v5, rfl, h⟩)⟩,
        fun _ => ⟨v1, l_drop hS hR hW hB hB2 next (fun k M1 h => ⟨v1, rfl, h⟩)⟩,
        fun _ => ⟨v1, v2, v3, v4, v5, l_offer hS hR hW hB hB2 next (fun k M1 h => ⟨v1, v2, v3, v4, v5, rfl, h⟩)⟩,
        fun _ => ⟨v1, v2, v3, l_offerDrawn hS hR hW hB hB2 next (fun k M1 h => ⟨v1, v2, v3, rfl, h⟩)⟩,
        fun _ => ⟨v1, v2, l_summary hS hR hW hB hB2 next (fun k M1 h => ⟨v1, v2, rfl, h⟩)⟩,
        fun _ => ⟨v1, v2, v3, l_setQuota hS hR hW hB hB2 next (fun k M1 h => ⟨v1, v2, v3, rfl, h⟩)⟩,
        fun _ => ⟨v1, v2, v3, fun c => l_allocate hS hR hW hB hB2 next (fun k M1 h => ⟨v1, v2, v3, fun _ => ⟨rfl, h⟩, fun w => absurd c w⟩), fun c => l_allocate hS hR hW hB hB2 next (fun k M1 h => ⟨v1, v2, v3, fun w => absurd w c, fun _ => ⟨rfl, h⟩⟩)⟩,
        fun _ => ⟨v1, v2, l_quota hS hR hW hB hB2 next (fun k M1 h => ⟨v1, v2, rfl, h⟩)⟩,
        fun _ => ⟨v1, v2, l_merge hS hR hW hB hB2 next (fun k M1 h => ⟨v1, v2, rfl, h⟩)⟩,
        fun _ => ⟨v1, v2, l_copy hS hR hW hB hB2 next (fun k M1 h => ⟨v1, v2, rfl, h⟩)⟩,
        fun _ => ⟨v1, v2, v3, l_kept hS hR hW hB hB2 next (fun k M1 h => ⟨v1, v2, v3, rfl, h⟩)⟩,
        fun _ => ⟨v1, v2, v3, l_sampled hS hR hW hB hB2 next (fun k M1 h => ⟨v1, v2, v3, rfl, h⟩)⟩,
        fun _ => ⟨v1, v2, l_mix hS hR hW hB hB2 next (fun k M1 h => ⟨v1, v2, rfl, h⟩)⟩,
        fun _ => ⟨v1, l_commonKey hS hR hW hB hB2 next (fun k M1 h => ⟨v1, rfl, h⟩)⟩,
        fun _ => ⟨v1, v2, l_reason hS hR hW hB hB2 next (fun k M1 h => ⟨v1, v2, rfl, h⟩)⟩,
        fun _ => ⟨v1, v2, l_needed hS hR hW hB hB2 next (fun k M1 h => ⟨v1, v2, rfl, h⟩)⟩,
        fun _ => ⟨v1, v2, l_margin hS hR hW hB hB2 next (fun k M1 h => ⟨v1, v2, rfl, h⟩)⟩,
        fun _ => ⟨v1, v2, v3, l_stratum hS hR hW hB hB2 next (fun k M1 h => ⟨v1, v2, v3, rfl, h⟩)⟩,
        fun _ => ⟨v1, v2, v3, v4, fun c => l_estimateKeys hS hR hW hB hB2 next (Or.inl rfl) (fun k M1 h => ⟨v1, v2, v3, v4, fun _ => ⟨rfl, h⟩, fun w => absurd c w⟩), fun c => l_estimateKeys hS hR hW hB hB2 next (Or.inr rfl) (fun k M1 h => ⟨v1, v2, v3, v4, fun w => absurd w c, fun _ => ⟨rfl, h⟩⟩)⟩,
        fun _ => ⟨v1, v2, l_estimate hS hR hW hB hB2 next (fun k M1 h => ⟨v1, v2, rfl, h⟩)⟩,
        fun _ => ⟨v1, v2, l_truth hS hR hW hB hB2 next (fun k M1 h => ⟨v1, v2, rfl, h⟩)⟩,
        fun _ => ⟨v1, v2, l_quantile hS hR hW hB hB2 next (fun k M1 h => ⟨v1, v2, rfl, h⟩)⟩,
        fun _ => ⟨v1, v2, v3, l_resampled hS hR hW hB hB2 next (fun k M1 h => ⟨v1, v2, v3, rfl, h⟩)⟩,
        fun _ => ⟨v1, v2, l_distance hS hR hW hB hB2 next (fun k M1 h => ⟨v1, v2, rfl, h⟩)⟩,
        fun _ => ⟨v1, v2, l_common hS hR hW hB hB2 next (fun k M1 h => ⟨v1, v2, rfl, h⟩)⟩,
        fun _ => ⟨v1, l_feedG hS hR hW hB hB2 next (fun k M1 h => ⟨v1, rfl, h⟩)⟩,
        fun _ => ⟨v1, l_read hS hR hW hB hB2 next (fun k M1 h => ⟨v1, rfl, h⟩)⟩,
        fun _ => ⟨v1, l_write hS hR hW hB hB2 next (fun k M1 h => ⟨v1, rfl, h⟩)⟩,
        fun _ => ⟨v1, l_text hS hR hW hB hB2 next (fun k M1 h => ⟨v1, rfl, h⟩)⟩,
        fun _ => l_undo hS hR hW hB hB2 next (fun k M1 h => ⟨rfl, h⟩),
        fun _ => ⟨rfl, l_save hS hR hW hB next⟩,
        fun _ => l_restore hS hR hW hB hB2 next (fun k M1 h => ⟨rfl, h⟩)⟩⟩
  exact lp 513 0 M0 G0 (by decide) (by decide) simc0 simr0 wfg0
