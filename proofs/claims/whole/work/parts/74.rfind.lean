-- PURE: the reference finds the sample
/-- only the ints of the search -/
def FrT (M M' : MEM) : Prop := (∀ b j, b ≠ 42 → b ≠ 43 → b ≠ 44 → (b ≠ 40 ∨ (j ≠ 5 ∧ j ≠ 6)) → mI M' b j = mI M b j) ∧ M'.2 = M.2
theorem FrT.refl (M : MEM) : FrT M M := ⟨fun _ _ _ _ _ _ => rfl, rfl⟩
theorem FrT.trans {M M1 M2 : MEM} (h1 : FrT M M1) (h2 : FrT M1 M2) : FrT M M2 := ⟨fun b j p q r t => (h2.1 b j p q r t).trans (h1.1 b j p q r t), h2.2.trans h1.2⟩
theorem FrT.R {M M' : MEM} (h : FrT M M') : FrR M M' := ⟨fun b p j => h.1 b j (by omega) (by omega) (by omega) (by omega), by show M'.2.1 60 0 = M.2.1 60 0; rw [h.2], by rw [h.2]⟩
theorem FrT.sim {M M' : MEM} {G : GST} (h : FrT M M') (hR : SIMR M G) : SIMR M' G := hR.of (fun b j k => h.1 b j (by unfold keepR at k; omega) (by unfold keepR at k; omega) (by unfold keepR at k; omega) (by unfold keepR at k; omega))
theorem FrT.rs {M M' : MEM} {s nx : Nat} {a : SLT} (h : FrT M M') (hr : RS M s a nx) : RS M' s a nx := hr.of (fun j => h.1 41 j (by decide) (by decide) (by decide) (Or.inl (by decide)))
/-- the sample so far, the places -/
def SMT (M : MEM) (S : List Nat) : Prop := mI M 40 6 = nI S.length ∧ Arr M 43 S ∧ ∀ i, i < 60 → mI M 44 i = if i ∈ S then nI (S.idxOf i) else -1
def SMR (M : MEM) (a : SLT) : Prop := (mI M 40 5 = nI (ordR a).length ∧ Arr M 42 (ordR a)) ∧ SMT M (CH a)
section PR2
variable {M : MEM} {G : GST} {B s nx : Nat} {a : SLT}
theorem q_findC (hr : RS M s a nx) (ha : sH a = true) {Q : MEM → Prop} (hQ : ∀ M', mI M' 40 5 = nI (ordR a).length → Arr M' 42 (ordR a) → FrT M M' → Q M') : wp_X6_findCandidates 40 (nI s) M Q := by
  have hn := hr.n
  refine ⟨rfl, fun M1 e1 => ⟨sN a + 1, ?_⟩⟩
  have F1 : FrT M M1 := ⟨fun b j p q r t => by rw [e1, rd_ne (by omega)], by rw [e1]; rfl⟩
  have lp : ∀ f m M2, m ≤ sN a → sN a - m < f → FrT M M2 → mI M2 40 5 = nI (ordB (befA a) (candA a) m).length → Arr M2 42 (ordB (befA a) (candA a) m) → wp_X6_findCandidates_L7 40 (nI s) Q f (nI m) M2 := by
    intro f
    induction f with
    | zero => intro m M2 _ h9; omega
    | succ f ih =>
      intro m M2 hm hf hF hc hA
      have hr2 := hF.rs hr
      refine q_many hr2 ha ?_
      rw [nI_leI (by omega) (by omega)]
      refine ⟨fun q => ?_, fun q => q_cand hr2 ha (i := m) (by omega) ?_⟩
      · rw [show m = sN a by omega] at hc hA
        exact hQ M2 hc hA hF
      · have ho : ordB (befA a) (candA a) (m + 1) = if candA a m = true then insB (befA a m) (ordB (befA a) (candA a) m) m else ordB (befA a) (candA a) m := rfl
        have hlen : (ordB (befA a) (candA a) m).length ≤ m := by rw [ordB_len]; exact cntF_le _ _
        have hmem : ∀ x ∈ ordB (befA a) (candA a) m, x < m := fun x hx => (ordB_mem.mp hx).1
        by_cases hcd : candA a m = true
        · rw [if_pos hcd] at ho ⊢
          refine ⟨fun _ x3 e3 => ⟨(ordB (befA a) (candA a) m).length + 1, ?_⟩, fun w => absurd w (by decide)⟩
          rw [hc] at e3
          subst e3
          generalize ordB (befA a) (candA a) m = l at *
          have lp2 : ∀ g t M3, t ≤ l.length → t < g → (∀ k, k < t → mI M3 42 k = nI (gd l k)) → (∀ k, t ≤ k → k < l.length → mI M3 42 (k + 1) = nI (gd l k)) → FrT M M3 → mI M3 40 5 = nI l.length → cut (befA a m) l t = cut (befA a m) l l.length → wp_X6_findCandidates_L33 40 (nI s) (wp_X6_findCandidates_L7 40 (nI s) Q f) (nI m) g (nI t) M3 := by
            intro g
            induction g with
            | zero => intro t M3 _ h9; omega
            | succ g ih2 =>
              intro t M3 ht hg h1 h2 h3 h4 hct
              have fin : cut (befA a m) l t = t → wp_X6_findCandidates_J74 40 (wp_X6_findCandidates_L7 40 (nI s) Q f) (nI m) (nI t) M3 := fun hcut => by
                refine ⟨rfl, nV (by omega) (by decide), fun M4 e4 M5 e5 x e => ?_⟩
                rw [nC (by omega), show RF 40 2 = 42 from rfl] at e4
                have c4 : mI M4 40 5 = nI l.length := by rw [e4, rd_ne (by omega)]; exact h4
                rw [c4, n1, nA] at e5
                rw [e, n1, nA]
                refine ih (m + 1) M5 (by omega) (by omega) (h3.trans ⟨fun b j p q r t => by rw [e5, rd_ne (by omega), e4, rd_ne (by omega)], by rw [e5, e4]; rfl⟩) ?_ (fun k hk => ?_)
                · rw [ho, insB_len, e5, rd_eq]
                · rw [ho, insB_len] at hk
                  rw [ho, e5, rd_ne (by omega)]
                  unfold insB
                  rw [← hct, hcut, gd_ins ht, e4]
                  by_cases c : k < t
                  · rw [if_pos c, rd_ne (by omega)]; exact h1 k c
                  · rw [if_neg c]
                    by_cases e : k = t
                    · rw [if_pos e, e, rd_eq]
                    · rw [if_neg e, rd_ne (by omega)]
                      have := h2 (k - 1) (by omega) (by omega)
                      rw [show k - 1 + 1 = k by omega] at this
                      exact this
              unfold wp_X6_findCandidates_L33
              cases t with
              | zero => exact ⟨fun _ => fin rfl, fun w => absurd (by decide) w⟩
              | succ t =>
                refine ⟨fun w => absurd w (nI_nle (Nat.succ_pos _) (by omega)), fun _ => ?_⟩
                rw [n1, nm1]
                refine ⟨rfl, nV (by omega) (by decide), ?_⟩
                rw [nC (by omega), show RF 40 2 = 42 from rfl, h1 t (by omega)]
                have hm2 : gd l t ∈ l := by rw [gd_eq (by omega)]; exact List.getElem_mem _
                have hcs : cut (befA a m) l (t + 1) = if befA a m (gd l t) = true then cut (befA a m) l t else t + 1 := rfl
                refine q_ahead (h3.rs hr) ha (by omega) (hmem _ hm2) ⟨fun w => ?_, fun w => ⟨nV (by omega) (by decide), nV (by omega) (by decide), fun M14 e14 x2 e2 => ?_⟩⟩
                · have hb : ¬ befA a m (gd l t) = true := fun z => by rw [if_pos z] at w; exact absurd w (by decide)
                  exact fin (by rw [hcs, if_neg hb])
                · have hb : befA a m (gd l t) = true := Decidable.byContradiction (fun z => by rw [if_neg z] at w; exact w rfl)
                  rw [nC (by omega)] at e14
                  rw [e2, show nI (t + 1) + -nI 1 = nI t from pk_m1 t]
                  rw [hcs, if_pos hb] at hct
                  refine ih2 t M14 (by omega) (by omega) (fun k hk => by rw [e14, rd_ne (by omega)]; exact h1 k (by omega)) (fun k hk1 hk2 => ?_) (h3.trans ⟨fun b j p q r t => by rw [e14, rd_ne (by omega)], by rw [e14]; rfl⟩) (by rw [e14, rd_ne (by omega)]; exact h4) hct
                  by_cases e : k = t
                  · subst e; rw [e14, rd_eq]
                  · rw [e14, rd_ne (by omega)]; exact h2 k (by omega) hk2
          exact lp2 _ l.length M2 (Nat.le_refl _) (Nat.lt_succ_self _) (fun k hk => hA k hk) (fun k h1 h2 => by omega) hF hc rfl
        · rw [if_neg hcd] at ho ⊢
          refine ⟨fun w => absurd rfl w, fun _ x e => ?_⟩
          rw [e, n1, nA]
          exact ih (m + 1) M2 (by omega) (by omega) hF (by rw [ho]; exact hc) (by rw [ho]; exact hA)
  exact lp _ 0 M1 (Nat.zero_le _) (Nat.lt_succ_self _) F1 (by rw [e1, rd_eq]; rfl) (fun k hk => absurd hk (Nat.not_lt_zero _))
/-- a filter, and one more -/
theorem flt_s {P : Nat → Bool} {l : List Nat} {k : Nat} (h : k < l.length) : (l.take (k + 1)).filter P = (l.take k).filter P ++ (if P (gd l k) = true then [gd l k] else []) := by
  rw [take_s h, List.filter_append]
  by_cases c : P (gd l k) = true <;> simp [c]
theorem q_samples (hr : RS M s a nx) (ha : sH a = true) {P : Nat → Bool} {t : Int32} (hP : (t < 0 ∧ ∀ x, P x = true) ∨ ∃ u, u < 4 ∧ t = nI u ∧ P = fun x => stA a x == u) {mo : Nat} (hmo : mo ≤ 12) {S0 : List Nat} (hS0 : ∀ x ∈ S0, x ∈ ordR a ∧ P x = false) (hS60 : S0.length + mo ≤ 60) (hc : mI M 40 5 = nI (ordR a).length) (hA : Arr M 42 (ordR a)) (hT : SMT M S0) {Q : MEM → Prop} (hQ : ∀ M', SMT M' (S0 ++ ((ordR a).filter P).take mo) → mI M' 40 5 = nI (ordR a).length → Arr M' 42 (ordR a) → FrT M M' → Q M') : wp_X6_samples 40 (nI s) t (nI mo) M Q := by
  have hn := hr.n
  have hol := Nat.le_trans (ordR_le (a := a)) hn
  have hnd : (ordR a).Nodup := ordB_nd _
  refine ⟨rfl, (ordR a).length + 1, ?_⟩
  have lp : ∀ f k M1, k ≤ (ordR a).length → (ordR a).length - k < f → (((ordR a).take k).filter P).length ≤ mo → SMT M1 (S0 ++ ((ordR a).take k).filter P) → mI M1 40 5 = nI (ordR a).length → Arr M1 42 (ordR a) → FrT M M1 → wp_X6_samples_L6 40 (nI s) t (nI mo) Q f (nI (((ordR a).take k).filter P).length) (nI k) M1 := by
    intro f
    induction f with
    | zero => intro k M1 _ h9; omega
    | succ f ih =>
      intro k M1 hk hf hle hT1 hc1 hA1 hF1
      unfold wp_X6_samples_L6
      rw [hc1, nI_leI (by omega) (by omega), nI_leI (by omega) (by omega)]
      refine ⟨fun q => ?_, fun q => ⟨fun q2 => ?_, fun q2 => ?_⟩⟩
      · have ek : k = (ordR a).length := by omega
        subst ek
        rw [List.take_length] at hT1 hle
        exact hQ M1 (by rw [List.take_of_length_le hle]; exact hT1) hc1 hA1 hF1
      · have hpre : ((ordR a).filter P).take mo = ((ordR a).take k).filter P := by
          have e : (ordR a).filter P = ((ordR a).take k).filter P ++ ((ordR a).drop k).filter P := by rw [← List.filter_append, List.take_append_drop]
          rw [e, List.take_append_of_le_length (by omega), List.take_of_length_le (by omega)]
        exact hQ M1 (by rw [hpre]; exact hT1) hc1 hA1 hF1
      · have hk' : k < (ordR a).length := by omega
        have hx : gd (ordR a) k ∈ ordR a := by rw [gd_eq hk']; exact List.getElem_mem _
        have hxn := (ordR_mem.mp hx).1
        have hfs := flt_s (P := P) hk'
        have hnt : gd (ordR a) k ∉ (ordR a).take k := fun w => by
          have h2 := hnd.sublist (List.take_sublist (k + 1) (ordR a))
          rw [take_s hk'] at h2
          exact (List.nodup_append.mp h2).2.2 _ w _ (List.mem_singleton.mpr rfl) rfl
        have j45 : P (gd (ordR a) k) = true → wp_X6_samples_J45 40 (wp_X6_samples_L6 40 (nI s) t (nI mo) Q f) (nI (((ordR a).take k).filter P).length) (nI k) M1 := fun hp => by
          rw [if_pos hp] at hfs
          obtain ⟨t1, t2, t3⟩ := hT1
          have hnS : gd (ordR a) k ∉ S0 ++ ((ordR a).take k).filter P := fun w => by
            rcases List.mem_append.mp w with w | w
            · have := (hS0 _ w).2; rw [hp] at this; exact absurd this (by decide)
            · exact hnt (List.mem_filter.mp w).1
          have hSl : (S0 ++ ((ordR a).take k).filter P).length < 60 := by rw [List.length_append]; omega
          have ih' := ih (k + 1)
          rw [hfs, List.length_append, ← List.append_assoc] at ih'
          generalize hSS : S0 ++ ((ordR a).take k).filter P = SS at *
          generalize (((ordR a).take k).filter P).length = m at *
          generalize hgx : gd (ordR a) k = x at *
          refine ⟨rfl, nV (by omega) (by decide), rfl, ?_⟩
          rw [nC (by omega), show RF 40 2 = 42 from rfl, hA1 k hk', hgx, t1]
          refine ⟨nV (by omega) (by decide), fun M8 e8 => ⟨nV (by omega) (by decide), rfl, ?_⟩⟩
          rw [nC (by omega), show RF 40 4 = 44 from rfl] at e8
          have c8 : mI M8 40 6 = nI SS.length := by rw [e8, rd_ne (by omega)]; exact t1
          have a8 : mI M8 42 k = nI x := by rw [e8, rd_ne (by omega), hA1 k hk', hgx]
          rw [c8, a8]
          refine ⟨nV (by omega) (by decide), fun M12 e12 M13 e13 x4 e4 x5 e5 => ?_⟩
          rw [nC (by omega), show RF 40 3 = 43 from rfl] at e12
          have c12 : mI M12 40 6 = nI SS.length := by rw [e12, rd_ne (by omega)]; exact c8
          rw [c12, n1, nA] at e13
          have hO : ∀ b j, b ≠ 43 → b ≠ 44 → (b ≠ 40 ∨ j ≠ 6) → mI M13 b j = mI M1 b j := fun b j h1 h2 h3 => by rw [e13, rd_ne (by omega), e12, rd_ne (by omega), e8, rd_ne (by omega)]
          rw [e4, e5, n1, nA, nA]
          refine ih' M13 (by omega) (by omega) (by show m + 1 ≤ mo; omega) ⟨?_, arr_app (fun j hj => ?_) ?_, fun i hi => ?_⟩ (by rw [hO 40 5 (by decide) (by decide) (by decide)]; exact hc1) (fun j hj => by rw [hO 42 j (by decide) (by decide) (Or.inl (by decide))]; exact hA1 j hj) (hF1.trans ⟨fun b j p q r w => hO b j (by omega) (by omega) (by omega), by rw [e13, e12, e8]; rfl⟩)
          · rw [e13, rd_eq, List.length_append]; rfl
          · rw [e13, rd_ne (by omega), e12, rd_ne (by omega), e8, rd_ne (by omega)]; exact t2 j hj
          · rw [e13, rd_ne (by omega), e12, rd_eq]
          · rw [e13, rd_ne (by omega), e12, rd_ne (by omega), e8]
            by_cases c : i = x
            · subst c
              rw [rd_eq, if_pos (List.mem_append.mpr (Or.inr (List.mem_singleton.mpr rfl))), idx_app hnS, if_neg hnS, if_pos rfl]
            · rw [rd_ne (by omega), t3 i hi, idx_app hnS]
              by_cases c2 : i ∈ SS
              · rw [if_pos c2, if_pos (List.mem_append.mpr (Or.inl c2)), if_pos c2]
              · rw [if_neg c2, if_neg (fun w => (List.mem_append.mp w).elim c2 (fun w => c (List.mem_singleton.mp w)))]
        rcases hP with ⟨h0, hall⟩ | ⟨u, hu, hut, hPu⟩
        · exact ⟨fun _ => j45 (hall _), fun w => absurd h0 w⟩
        · refine ⟨fun w => absurd w (by rw [hut]; exact nI_pos (by omega)), fun _ => ⟨rfl, nV (by omega) (by decide), ?_⟩⟩
          rw [nC (by omega), show RF 40 2 = 42 from rfl, hA1 k hk']
          have hs4 : stA a (gd (ordR a) k) < 4 := hr.str _
          refine q_item (hF1.rs hr) ha (p := 2) hxn (by decide) ?_
          show (nI (stA a (gd (ordR a) k)) = t → _) ∧ (¬ nI (stA a (gd (ordR a) k)) = t → _)
          rw [hut, nI_eq (by omega) (by omega)]
          refine ⟨fun c => by rw [← hut]; exact j45 (by rw [hPu]; simpa using c), fun c x e => ?_⟩
          have hp : ¬ P (gd (ordR a) k) = true := by rw [hPu]; simpa using c
          rw [if_neg hp, List.append_nil] at hfs
          rw [e, n1, nA, ← hut]
          have := ih (k + 1) M1 (by omega) (by omega) (by rw [hfs]; exact hle) (by rw [hfs]; exact hT1) hc1 hA1 hF1
          rw [hfs] at this
          exact this
  have := lp _ 0 M (Nat.zero_le _) (Nat.lt_succ_self _) (by simp) (by simpa using hT) hc hA (FrT.refl M)
  exact this
theorem q_finds (hr : RS M s a nx) (ha : sH a = true) {Q : MEM → Prop} (hQ : ∀ M', SMR M' a → FrT M M' → Q M') : wp_X6_finds 40 (nI s) M Q := by
  obtain ⟨v1, v2, v3, v4, v5, v6⟩ := hr.2.1.2.2.1 ha
  refine ⟨rfl, q_findC hr ha (fun M2 c2 A2 F2 => ⟨61, ?_⟩)⟩
  have lp : ∀ f i M3, i ≤ 60 → 60 - i < f → (∀ j, j < i → mI M3 44 j = -1) → mI M3 40 5 = nI (ordR a).length → Arr M3 42 (ordR a) → FrT M M3 → wp_X6_finds_L7 40 (nI s) Q f (nI i) M3 := by
    intro f
    induction f with
    | zero => intro i M3 _ h9; omega
    | succ f ih =>
      intro i M3 hi hf h44 h5 hA hF
      unfold wp_X6_finds_L7
      rw [n60, nI_leI (by omega) (by omega)]
      refine ⟨fun q M5 e5 => ?_, fun q => ⟨rfl, nV (by omega) (by decide), fun M21 e21 x e => ?_⟩⟩
      · have T5 : SMT M5 [] := ⟨by rw [e5, rd_eq]; rfl, fun k hk => absurd hk (Nat.not_lt_zero _), fun j hj => by rw [e5, rd_ne (by omega), if_neg (by simp)]; exact h44 j (by omega)⟩
        have F5 : FrT M M5 := hF.trans ⟨fun b j p q r t => by rw [e5, rd_ne (by omega)], by rw [e5]; rfl⟩
        have c5 : mI M5 40 5 = nI (ordR a).length := by rw [e5, rd_ne (by omega)]; exact h5
        have A5 : Arr M5 42 (ordR a) := fun k hk => by rw [e5, rd_ne (by omega)]; exact hA k hk
        have hr5 := F5.rs hr
        refine q_kind hr5 ha ?_
        rw [n2, nI_eq (by omega) (by decide)]
        refine ⟨fun k2 => ⟨5, ?_⟩, fun k2 => q_size hr5 ha (q_samples hr5 ha (P := fun _ => true) (Or.inl ⟨by decide, fun _ => rfl⟩) v3 (S0 := []) (fun x hx => absurd hx (by simp)) (by simp; omega) c5 A5 T5 (fun M' T' c' A' F' => hQ M' ⟨⟨c', A'⟩, ?_⟩ (F5.trans F')))⟩
        · have step : ∀ t (S : List Nat) M6, t < 4 → S.length ≤ 12 * t → (∀ x ∈ S, x ∈ ordR a ∧ stA a x < t) → SMT M6 S → mI M6 40 5 = nI (ordR a).length → Arr M6 42 (ordR a) → FrT M M6 → ∀ {Q2 : MEM → Prop}, (∀ M7, (S ++ (grpA a t).take (sQ a t)).length ≤ 12 * (t + 1) → (∀ x ∈ S ++ (grpA a t).take (sQ a t), x ∈ ordR a ∧ stA a x < t + 1) → SMT M7 (S ++ (grpA a t).take (sQ a t)) → mI M7 40 5 = nI (ordR a).length → Arr M7 42 (ordR a) → FrT M M7 → Q2 M7) → wp_X6_of 40 (nI s) (5 + nI t) M6 (fun r_10 => wp_X6_samples 40 (nI s) (nI t) r_10 M6 Q2) := fun t S M6 ht hl hS T6 c6 A6 F6 Q2 hQ2 => by
            have hq := v5 t ht
            refine q_quo (F6.rs hr) ha ht (q_samples (F6.rs hr) ha (P := fun x => stA a x == t) (Or.inr ⟨t, ht, rfl, rfl⟩) hq (fun x hx => ⟨(hS x hx).1, by have := (hS x hx).2; simp; omega⟩) (by omega) c6 A6 T6 (fun M7 T7 c7 A7 F7 => hQ2 M7 ?_ ?_ T7 c7 A7 (F6.trans F7)))
            · rw [List.length_append, List.length_take]; omega
            · intro x hx
              rcases List.mem_append.mp hx with hx | hx
              · exact ⟨(hS x hx).1, by have := (hS x hx).2; omega⟩
              · have h1 := List.mem_filter.mp (List.mem_of_mem_take hx)
                exact ⟨h1.1, by have := h1.2; simp at this; omega⟩
          refine ⟨fun w => absurd w (by decide), fun _ => step 0 [] M5 (by decide) (by simp) (fun x hx => absurd hx (by simp)) T5 c5 A5 F5 (fun M6 l6 S6 T6 c6 A6 F6 x e => ?_)⟩
          rw [e, n0, n1, nA]
          refine ⟨fun w => absurd w (by decide), fun _ => step 1 _ M6 (by decide) l6 S6 T6 c6 A6 F6 (fun M7 l7 S7 T7 c7 A7 F7 x e => ?_)⟩
          rw [e, n1, nA]
          refine ⟨fun w => absurd w (by decide), fun _ => step 2 _ M7 (by decide) l7 S7 T7 c7 A7 F7 (fun M8 l8 S8 T8 c8 A8 F8 x e => ?_)⟩
          rw [e, n1, nA]
          refine ⟨fun w => absurd w (by decide), fun _ => step 3 _ M8 (by decide) l8 S8 T8 c8 A8 F8 (fun M9 l9 S9 T9 c9 A9 F9 x e => ?_)⟩
          rw [e, n1, nA]
          refine ⟨fun _ => hQ M9 ⟨⟨c9, A9⟩, ?_⟩ F9, fun w => absurd (by decide) w⟩
          have : CH a = [] ++ (grpA a 0).take (sQ a 0) ++ (grpA a 1).take (sQ a 1) ++ (grpA a 2).take (sQ a 2) ++ (grpA a 3).take (sQ a 3) := by
            unfold CH; rw [if_pos k2, List.nil_append]
          rw [this]; exact T9
        · have : CH a = [] ++ ((ordR a).filter (fun _ => true)).take (sZ a) := by
            unfold CH; rw [if_neg k2, List.nil_append, filter_all (fun _ _ => rfl)]
          rw [this]; exact T'
      · rw [nC (by omega), show RF 40 4 = 44 from rfl] at e21
        rw [e, n1, nA]
        refine ih (i + 1) M21 (by omega) (by omega) (fun j hj => ?_) (by rw [e21, rd_ne (by omega)]; exact h5) (fun k hk => by rw [e21, rd_ne (by omega)]; exact hA k hk) (hF.trans ⟨fun b j p q r t => by rw [e21, rd_ne (by omega)], by rw [e21]; rfl⟩)
        by_cases c : j = i
        · subst c; rw [e21, rd_eq]
        · rw [e21, rd_ne (by omega)]; exact h44 j (by omega)
  exact lp 61 0 M2 (Nat.zero_le _) (by decide) (fun j hj => absurd hj (Nat.not_lt_zero _)) c2 A2 F2
end PR2
