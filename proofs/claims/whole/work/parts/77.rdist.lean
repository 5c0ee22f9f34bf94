-- PURE: what the reference is asked: quantile, resampled, common, distance
section PR5
variable {M M' M1 : MEM} {G : GST} {B s t nx nx2 : Nat} {a b : SLT} {p p1 p2 p3 p4 : Int32}
theorem RS.val (hr : RS M s a nx) (i : Nat) : (pt (it a i) 4).toInt.natAbs ≤ 999 := by
  by_cases c : i < sN a
  · obtain ⟨-, -, -, -, -, h6, h7⟩ := hr.ok c
    show ((it a i).2.2.2.2).toInt.natAbs ≤ 999
    omega
  · rw [pt_no (by omega)]; decide
theorem q_quantile_1 (hR : SIMR M G) {Q : Int32 → MEM → Prop} (h1 : ¬ rng p1 0 3) (hQ : ∀ M', ENDR M G 1 M' → Q 0 M') : wp_X6_quantile 40 p1 p2 M Q := ⟨rfl, q_slotF h1 (i0 (q_fails (k := 1) hR hQ))⟩
theorem q_quantile_2 (hR : SIMR M G) {Q : Int32 → MEM → Prop} (h1 : rng p1 0 3) (h2 : ¬ rng p2 0 1000) (hQ : ∀ M', ENDR M G 2 M' → Q 0 M') : wp_X6_quantile 40 p1 p2 M Q := by
  obtain ⟨s, hs, rfl⟩ := slot_rng h1
  exact ⟨rfl, q_slotT hs (i1 (q_btF (by decide) (by decide) h2 (i0 (q_fails (k := 2) hR hQ))))⟩
theorem q_quantile_3 (hR : SIMR M G) (hr : RS M s a nx) {Q : Int32 → MEM → Prop} (h2 : rng p2 0 1000) (ha : sH a = false) (hQ : ∀ M', ENDR M G 3 M' → Q 0 M') : wp_X6_quantile 40 (nI s) p2 M Q :=
  ⟨rfl, q_slotT hr.s4 (i1 (q_btT (by decide) (by decide) h2 (i1 (q_thF hr ha (i0 (q_fails (k := 3) hR hQ))))))⟩
theorem q_quantile_4 (hR : SIMR M G) (hr : RS M s a nx) {Q : Int32 → MEM → Prop} (h2 : rng p2 0 1000) (ha : sH a = true) (h : (CH a).length = 0) (hQ : ∀ M', ENDR M G 4 M' → Q 0 M') : wp_X6_quantile 40 (nI s) p2 M Q :=
  ⟨rfl, q_slotT hr.s4 (i1 (q_btT (by decide) (by decide) h2 (i1 (q_thT hr ha (i1 (q_finds hr ha (fun M8 S8 F8 => q_none hr S8 h (q_fails (k := 4) (F8.sim hR) (fun M' h => hQ M' (h.pre F8.R))))))))))⟩
/-- only the sorted values -/
def FrV (M M' : MEM) : Prop := (∀ b, b ≠ 48 → ∀ j, mI M' b j = mI M b j) ∧ M'.2 = M.2
theorem q_quantile_0 (hR : SIMR M G) (hr : RS M s a nx) {Q : Int32 → MEM → Prop} {q : Nat} (hq : q ≤ 1000) (ha : sH a = true) (h : 0 < (CH a).length) (hQ : ∀ M', ENDR M G 0 M' → Q (quantA a q) M') : wp_X6_quantile 40 (nI s) (nI q) M Q := by
  have h60 := hr.CH60
  refine ⟨rfl, q_slotT hr.s4 (i1 (q_btN 1000 (by decide) (by decide) hq (by omega) (i1 (q_thT hr ha (i1 (q_finds hr ha (fun M8 S8 F8 => q_some hr S8 h (fun M9 e9 => ⟨(CH a).length + 1, ?_⟩))))))))⟩
  have hr9 := z_rs (F8.rs hr) e9
  have S9 := z_sm S8 e9
  have E9 := (z_end (k := 0) (F8.sim hR) e9).pre F8.R
  have lp : ∀ f m M1, m ≤ (CH a).length → (CH a).length - m < f → ArrV M1 48 (srtV a m) → FrV M9 M1 → wp_X6_quantile_L70 40 (nI s) (nI q) Q f (nI m) M1 := by
    intro f
    induction f with
    | zero => intro m M1 _ h9; omega
    | succ f ih =>
      intro m M1 hm hf hA hF
      have r1 : RS M1 s a nx := hr9.of (fun j => hF.1 41 (by decide) j)
      have S1 : SMR M1 a := S9.z (fun b j h => hF.1 b (by omega) j)
      unfold wp_X6_quantile_L70
      rw [S1.2.1, nI_leI (by omega) (by omega)]
      refine ⟨fun q2 x12 e12 => ?_, fun q2 => ⟨rfl, nV (by omega) (by decide), ?_⟩⟩
      · have em : m = (CH a).length := by omega
        subst em
        have hm2 : (CH a).length * q ≤ 60 * 1000 := Nat.mul_le_mul h60 hq
        have e12' : x12 = nI ((CH a).length * q / 1000) := by
          rw [e12, nM]; exact nD (d := 1000) (by omega) (by decide) (by decide)
        have E1 : ENDR M G 0 M1 := ⟨E9.1.trans ⟨fun b hb j => hF.1 b (by omega) j, by show M1.2.1 60 0 = M9.2.1 60 0; rw [hF.2], by rw [hF.2]⟩, E9.2.1.of (fun b j hb => hF.1 b (by unfold keepR at hb; omega) j), by rw [hF.1 40 (by decide)]; exact E9.2.2⟩
        have hfin := hQ M1 E1
        unfold quantA at hfin
        have hl := srtV_len a (CH a).length
        rw [e12', nI_leI (by omega) (by omega)]
        refine ⟨fun c => ⟨rfl, ?_⟩, fun c => ⟨rfl, nV (by omega) (by decide), ?_⟩⟩
        · rw [if_neg (by omega)] at hfin
          rw [n1, nS (by omega)]
          refine ⟨nV (by omega) (by decide), ?_⟩
          rw [nC (by omega), show RF 40 14 = 48 from rfl, hA _ (by omega)]; exact hfin
        · rw [if_pos (by omega)] at hfin
          rw [nC (by omega), show RF 40 14 = 48 from rfl, hA _ (by omega)]; exact hfin
      · rw [nC (by omega), show RF 40 3 = 43 from rfl, S1.2.2.1 m (by omega)]
        refine q_item r1 ha (p := 4) (hr.gd (by omega)) (by decide) ⟨m + 1, ?_⟩
        generalize hv : pt (it a (gd (CH a) m)) 4 = v
        have hl := srtV_len a m
        have hnext : insV (srtV a m) v = srtV a (m + 1) := by rw [← hv]; rfl
        generalize srtV a m = l at *
        have lp2 : ∀ g t M2, t ≤ m → t < g → (∀ k, k < t → mI M2 48 k = gv l k) → (∀ k, t ≤ k → k < m → mI M2 48 (k + 1) = gv l k) → FrV M9 M2 → cutV v l t = cutV v l l.length → wp_X6_quantile_L95 40 (wp_X6_quantile_L70 40 (nI s) (nI q) Q f) (nI m) v g (nI t) M2 := by
          intro g
          induction g with
          | zero => intro t M2 _ h9; omega
          | succ g ih2 =>
            intro t M2 ht hg h1 h2 h3 hct
            have fin : cutV v l t = t → ∀ M12, M12 = uI M2 48 t v → wp_X6_quantile_L70 40 (nI s) (nI q) Q f (nI (m + 1)) M12 := fun hcut M12 e12 => by
              refine ih (m + 1) M12 (by omega) (by omega) (fun k hk => ?_) ⟨fun b hb j => by rw [e12, rd_ne (by omega)]; exact h3.1 b hb j, by rw [e12]; exact h3.2⟩
              rw [← hnext] at hk ⊢
              rw [insV_len] at hk
              unfold insV
              rw [← hct, hcut, gv_ins (by omega), e12]
              by_cases c : k < t
              · rw [if_pos c, rd_ne (by omega)]; exact h1 k c
              · rw [if_neg c]
                by_cases e : k = t
                · rw [if_pos e, e, rd_eq]
                · rw [if_neg e, rd_ne (by omega)]
                  have := h2 (k - 1) (by omega) (by omega)
                  rw [show k - 1 + 1 = k by omega] at this
                  exact this
            unfold wp_X6_quantile_L95
            cases t with
            | zero =>
              refine ⟨fun _ => ⟨rfl, nV (by omega) (by decide), fun M12 e12 x e => ?_⟩, fun w => absurd (by decide) w⟩
              rw [nC (by omega)] at e12
              rw [e, n1, nA]; exact fin rfl M12 e12
            | succ t =>
              refine ⟨fun w => absurd w (nI_nle (Nat.succ_pos _) (by omega)), fun _ => ?_⟩
              rw [n1, nm1]
              refine ⟨rfl, nV (by omega) (by decide), ?_⟩
              rw [nC (by omega), show RF 40 14 = 48 from rfl, h1 t (by omega)]
              have hcs : cutV v l (t + 1) = if v < gv l t then cutV v l t else t + 1 := rfl
              refine ⟨fun w => ⟨nV (by omega) (by decide), fun M12 e12 x e => ?_⟩, fun w => ⟨nV (by omega) (by decide), nV (by omega) (by decide), fun M21 e21 x e => ?_⟩⟩
              · have hb : ¬ v < gv l t := fun z => nle32.mpr z w
                rw [nC (by omega)] at e12
                rw [e, nA]; exact fin (by rw [hcs, if_neg hb]) M12 e12
              · have hb : v < gv l t := nle32.mp w
                rw [nC (by omega)] at e21
                rw [e, show nI (t + 1) + -nI 1 = nI t from pk_m1 t]
                rw [hcs, if_pos hb] at hct
                refine ih2 t M21 (by omega) (by omega) (fun k hk => by rw [e21, rd_ne (by omega)]; exact h1 k (by omega)) (fun k hk1 hk2 => ?_) ⟨fun b hb j => by rw [e21, rd_ne (by omega)]; exact h3.1 b hb j, by rw [e21]; exact h3.2⟩ hct
                by_cases e : k = t
                · subst e; rw [e21, rd_eq]
                · rw [e21, rd_ne (by omega)]; exact h2 k (by omega) hk2
        exact lp2 _ m M1 (Nat.le_refl _) (Nat.lt_succ_self _) (fun k hk => hA k (by omega)) (fun k h1 h2 => by omega) hF (by rw [hl])
  exact lp _ 0 M9 (Nat.zero_le _) (Nat.lt_succ_self _) (fun k hk => absurd hk (Nat.not_lt_zero _)) ⟨fun _ _ _ => rfl, rfl⟩
theorem q_resampled_1 (hR : SIMR M G) {Q : UInt64 → MEM → Prop} (h1 : ¬ rng p1 0 3) (hQ : ∀ M', ENDR M G 1 M' → Q (FP.i2d 0) M') : wp_X6_resampled 40 p1 p2 p3 M Q := ⟨rfl, q_slotF h1 (i0 (q_fails (k := 1) hR hQ))⟩
theorem q_resampled_2 (hR : SIMR M G) {Q : UInt64 → MEM → Prop} (h1 : rng p1 0 3) (h2 : ¬ rng p3 1 1000) (hQ : ∀ M', ENDR M G 2 M' → Q (FP.i2d 0) M') : wp_X6_resampled 40 p1 p2 p3 M Q := by
  obtain ⟨s, hs, rfl⟩ := slot_rng h1
  exact ⟨rfl, q_slotT hs (i1 (q_btF (by decide) (by decide) h2 (i0 (q_fails (k := 2) hR hQ))))⟩
theorem q_resampled_3 (hR : SIMR M G) (hr : RS M s a nx) {Q : UInt64 → MEM → Prop} (h2 : rng p3 1 1000) (ha : sH a = false) (hQ : ∀ M', ENDR M G 3 M' → Q (FP.i2d 0) M') : wp_X6_resampled 40 (nI s) p2 p3 M Q :=
  ⟨rfl, q_slotT hr.s4 (i1 (q_btT (by decide) (by decide) h2 (i1 (q_thF hr ha (i0 (q_fails (k := 3) hR hQ))))))⟩
theorem q_resampled_4 (hR : SIMR M G) (hr : RS M s a nx) {Q : UInt64 → MEM → Prop} (h2 : rng p3 1 1000) (ha : sH a = true) (h : (CH a).length = 0) (hQ : ∀ M', ENDR M G 4 M' → Q (FP.i2d 0) M') : wp_X6_resampled 40 (nI s) p2 p3 M Q :=
  ⟨rfl, q_slotT hr.s4 (i1 (q_btT (by decide) (by decide) h2 (i1 (q_thT hr ha (i1 (q_finds hr ha (fun M8 S8 F8 => q_none hr S8 h (q_fails (k := 4) (F8.sim hR) (fun M' h => hQ M' (h.pre F8.R))))))))))⟩
theorem q_resampled_0 (hR : SIMR M G) (hr : RS M s a nx) {Q : UInt64 → MEM → Prop} {n : Nat} (hn1 : 1 ≤ n) (hn2 : n ≤ 1000) (ha : sH a = true) (h : 0 < (CH a).length) (hQ : ∀ M', ENDR M G 0 M' → ∀ f, alike64 f (FP.ddiv (FP.i2d (rsA a n p2 0)) (FP.i2d (nI n))) = true → Q f M') : wp_X6_resampled 40 (nI s) p2 (nI n) M Q := by
  have h60 := hr.CH60
  refine ⟨rfl, q_slotT hr.s4 (i1 (q_btT (l := 1) (u := 1000) (by decide) (by decide) ((rng_of (by omega)).mpr ⟨by omega, by omega⟩) (i1 (q_thT hr ha (i1 (q_finds hr ha (fun M8 S8 F8 => q_some hr S8 h (fun M9 e9 => ⟨n + 1, ?_⟩))))))))⟩
  have hr9 := z_rs (F8.rs hr) e9
  have S9 := z_sm S8 e9
  have hfin := hQ M9 ((z_end (k := 0) (F8.sim hR) e9).pre F8.R)
  have lp : ∀ f k z sm, k ≤ n → n - k < f → rsA a (n - k) z sm = rsA a n p2 0 → wp_X6_resampled_L81 40 (nI s) (nI n) Q M9 f z sm (nI k) := by
    intro f
    induction f with
    | zero => intro k z sm _ h9; omega
    | succ f ih =>
      intro k z sm hk hf hrs
      unfold wp_X6_resampled_L81
      rw [S9.2.1, nI_leI (by omega) (by omega)]
      refine ⟨fun q f16 e16 => ?_, fun q x4 e4 => ?_⟩
      · have : n - k = 0 := by omega
        rw [this] at hrs
        have hrs' : sm = rsA a n p2 0 := hrs
        rw [hrs'] at e16
        exact hfin f16 e16
      · have e4' : x4 = stp z := e4
        subst e4'
        have hdr := (stp z).toBitVec.isLt
        rw [gush8, pk_rem (by omega) h (by omega)]
        have hm : (stp z).toBitVec.toNat / 256 % (CH a).length < (CH a).length := Nat.mod_lt _ h
        refine ⟨nI_ne0 h (by omega), rfl, nV (by omega) (by decide), ?_⟩
        rw [nC (by omega), show RF 40 3 = 43 from rfl, S9.2.2.1 _ hm]
        refine q_item hr9 ha (p := 4) (hr.gd hm) (by decide) (fun x e x2 e2 => ?_)
        rw [e, e2, n1, nA]
        refine ih (k + 1) (stp z) _ (by omega) (by omega) ?_
        rw [← hrs, show n - k = (n - (k + 1)) + 1 by omega]
        rfl
  exact lp _ 0 p2 0 (Nat.zero_le _) (by omega) rfl
/-- the other summary's sample, put aside -/
def PA (M : MEM) (b : SLT) : Prop := mI M 40 17 = nI (CH b).length ∧ (∀ k, k < (CH b).length → mI M 49 k = pt (it b (gd (CH b) k)) 4) ∧ ∀ k, k < (CH b).length → mI M 50 k = pt (it b (gd (CH b) k)) 0
/-- the scratch of the search and of what is put aside -/
def FrW (M M' : MEM) : Prop := (∀ b j, b ≠ 42 → b ≠ 43 → b ≠ 44 → b ≠ 49 → b ≠ 50 → (b ≠ 40 ∨ (j ≠ 5 ∧ j ≠ 6 ∧ j ≠ 17)) → mI M' b j = mI M b j) ∧ M'.2 = M.2
theorem FrW.trans {M M1 M2 : MEM} (h1 : FrW M M1) (h2 : FrW M1 M2) : FrW M M2 := ⟨fun b j p q r u v t => (h2.1 b j p q r u v t).trans (h1.1 b j p q r u v t), h2.2.trans h1.2⟩
theorem FrT.W {M M' : MEM} (h : FrT M M') : FrW M M' := ⟨fun b j p q r _ _ t => h.1 b j p q r (by omega), h.2⟩
theorem FrW.R {M M' : MEM} (h : FrW M M') : FrR M M' := ⟨fun b p j => h.1 b j (by omega) (by omega) (by omega) (by omega) (by omega) (by omega), by show M'.2.1 60 0 = M.2.1 60 0; rw [h.2], by rw [h.2]⟩
theorem FrW.sim (h : FrW M M') (hR : SIMR M G) : SIMR M' G := hR.of (fun b j k => h.1 b j (by unfold keepR at k; omega) (by unfold keepR at k; omega) (by unfold keepR at k; omega) (by unfold keepR at k; omega) (by unfold keepR at k; omega) (by unfold keepR at k; omega))
theorem FrW.rs (h : FrW M M') (hr : RS M s a nx) : RS M' s a nx := hr.of (fun j => h.1 41 j (by decide) (by decide) (by decide) (by decide) (by decide) (Or.inl (by decide)))
theorem FrW_end {k : Nat} (hE : ENDR M G k M1) (h : FrW M1 M') : ENDR M G k M' := ⟨hE.1.trans h.R, h.sim hE.2.1, by rw [h.1 40 0 (by decide) (by decide) (by decide) (by decide) (by decide) (by decide)]; exact hE.2.2⟩
theorem PA.of (h : PA M b) (hF : FrT M M') : PA M' b := ⟨by rw [hF.1 40 17 (by decide) (by decide) (by decide) (by decide)]; exact h.1, fun k hk => by rw [hF.1 49 k (by decide) (by decide) (by decide) (Or.inl (by decide))]; exact h.2.1 k hk, fun k hk => by rw [hF.1 50 k (by decide) (by decide) (by decide) (Or.inl (by decide))]; exact h.2.2 k hk⟩
theorem q_aside (hr : RS M t b nx) (hb : sH b = true) {Q : MEM → Prop} (hQ : ∀ M', PA M' b → FrW M M' → Q M') : wp_X6_putsAside 40 (nI t) M Q := by
  have h60 := hr.CH60
  refine ⟨rfl, q_finds hr hb (fun M2 S2 F2 M3 e3 => ⟨(CH b).length + 1, ?_⟩)⟩
  rw [S2.2.1] at e3
  have F3 : FrW M M3 := F2.W.trans ⟨fun b j p q r u v t => by rw [e3, rd_ne (by omega)], by rw [e3]; rfl⟩
  have S3 : SMR M3 b := S2.z (fun b j h => by rw [e3, rd_ne (by omega)])
  have lp : ∀ f k M5, k ≤ (CH b).length → (CH b).length - k < f → (∀ c j, c ≠ 49 → c ≠ 50 → mI M5 c j = mI M3 c j) → M5.2 = M3.2 → (∀ j, j < k → mI M5 49 j = pt (it b (gd (CH b) j)) 4) → (∀ j, j < k → mI M5 50 j = pt (it b (gd (CH b) j)) 0) → wp_X6_putsAside_L15 40 (nI t) Q f (nI k) M5 := by
    intro f
    induction f with
    | zero => intro k M5 _ h9; omega
    | succ f ih =>
      intro k M5 hk hf hO hO2 h49 h50
      have c17 : mI M5 40 17 = nI (CH b).length := by rw [hO 40 17 (by decide) (by decide), e3, rd_eq]
      have S5 : SMR M5 b := S3.z (fun c j h => hO c j (by omega) (by omega))
      have F5 : FrW M M5 := F3.trans ⟨fun c j p q r u v t => hO c j u v, hO2⟩
      unfold wp_X6_putsAside_L15
      rw [c17, nI_leI (by omega) (by omega)]
      refine ⟨fun q => ?_, fun q => ⟨rfl, nV (by omega) (by decide), ?_⟩⟩
      · have ek : k = (CH b).length := by omega
        subst ek
        exact hQ M5 ⟨c17, h49, h50⟩ F5
      · rw [nC (by omega), show RF 40 3 = 43 from rfl, S5.2.2.1 k (by omega)]
        refine q_item (F5.rs hr) hb (p := 4) (hr.gd (by omega)) (by decide) ⟨rfl, nV (by omega) (by decide), fun M12 e12 => ⟨nV (by omega) (by decide), ?_⟩⟩
        rw [show RF 40 15 = 49 from rfl] at e12
        have S12 : SMR M12 b := S5.z (fun c j h => by rw [e12, rd_ne (by omega)])
        have F12 : FrW M M12 := F5.trans ⟨fun c j p q r u v t => by rw [e12, rd_ne (by omega)], by rw [e12]; rfl⟩
        rw [S12.2.2.1 k (by omega)]
        refine q_item (F12.rs hr) hb (p := 0) (hr.gd (by omega)) (by decide) ⟨rfl, nV (by omega) (by decide), fun M18 e18 x e => ?_⟩
        rw [show RF 40 16 = 50 from rfl] at e18
        rw [e, n1, nA]
        refine ih (k + 1) M18 (by omega) (by omega) (fun c j h1 h2 => by rw [e18, rd_ne (by omega), e12, rd_ne (by omega)]; exact hO c j h1 h2) (by rw [e18, e12]; exact hO2) (fun j hj => ?_) (fun j hj => ?_)
        · rw [e18, rd_ne (by omega), e12]
          by_cases c : j = k
          · subst c; rw [rd_eq]
          · rw [rd_ne (by omega)]; exact h49 j (by omega)
        · rw [e18]
          by_cases c : j = k
          · subst c; rw [rd_eq]
          · rw [rd_ne (by omega), e12, rd_ne (by omega)]; exact h50 j (by omega)
  exact lp _ 0 M3 (Nat.zero_le _) (Nat.lt_succ_self _) (fun _ _ _ _ => rfl) rfl (fun j hj => absurd hj (Nat.not_lt_zero _)) (fun j hj => absurd hj (Nat.not_lt_zero _))
theorem q_common_1 (hR : SIMR M G) {Q : Int32 → MEM → Prop} (h1 : ¬ (rng p1 0 3 ∧ rng p2 0 3)) (hQ : ∀ M', ENDR M G 1 M' → Q 0 M') : wp_X6_common 40 p1 p2 M Q :=
  ⟨rfl, q_isSlot (fun r => e1 (q_slotF (fun w => h1 ⟨r, w⟩) (i0 (q_fails (k := 1) hR hQ)))) (fun _ => e0 (q_fails (k := 1) hR hQ))⟩
theorem q_common_2 (hR : SIMR M G) (hr : RS M s a nx) (hr2 : RS M t b nx2) {Q : Int32 → MEM → Prop} (h : ¬ (sH a = true ∧ sH b = true)) (hQ : ∀ M', ENDR M G 2 M' → Q 0 M') : wp_X6_common 40 (nI s) (nI t) M Q :=
  ⟨rfl, q_slotT hr.s4 (e1 (q_slotT hr2.s4 (i1 (q_there hr (fun ha => e1 (q_thF hr2 (by cases hb : sH b with | false => rfl | true => exact absurd ⟨ha, hb⟩ h) (i0 (q_fails (k := 2) hR hQ)))) (fun _ => e0 (q_fails (k := 2) hR hQ))))))⟩
theorem num_inj (hr : RS M t b nx) {i j : Nat} (hi : i < sN b) (hj : j < sN b) (e : nmA b i = nmA b j) : i = j := by
  have h := hr.2.1.2.2.2.2
  rcases Nat.lt_trichotomy i j with q | q | q
  · have : nmA b i < nmA b j := h i j q hj; omega
  · exact q
  · have : nmA b j < nmA b i := h j i q hi; omega
theorem q_common_0 (hR : SIMR M G) (hr : RS M s a nx) (hr2 : RS M t b nx2) {Q : Int32 → MEM → Prop} (ha : sH a = true) (hb : sH b = true) (hQ : ∀ M', ENDR M G 0 M' → Q (nI (comA a b)) M') : wp_X6_common 40 (nI s) (nI t) M Q := by
  have h60 := hr.CH60
  have b60 := hr2.CH60
  refine ⟨rfl, q_slotT hr.s4 (e1 (q_slotT hr2.s4 (i1 (q_thT hr ha (e1 (q_thT hr2 hb (i1 (fun M13 e13 => q_aside (z_rs hr2 e13) hb (fun M15 P15 F15 => q_finds (F15.rs (z_rs hr e13)) ha (fun M17 S17 F17 => ⟨(CH a).length + 1, ?_⟩)))))))))) ⟩
  have P17 := P15.of F17
  have r17 := F17.rs (F15.rs (z_rs hr e13))
  have hfin := hQ M17 (z_t (FrW_end (z_end (k := 0) hR e13) F15) F17)
  have inner : ∀ (K : Int32 → Int32 → Prop) k base, base ≤ 60 → k < (CH a).length → K (nI (base + if (CH b).any (fun y => nmA b y == nmA a (gd (CH a) k)) = true then 1 else 0)) (nI (k + 1)) → ∀ f j, j ≤ (CH b).length → (CH b).length - j < f → wp_X6_common_L74 40 (nI s) M17 K (nI k) f (nI (base + if ((CH b).take j).any (fun y => nmA b y == nmA a (gd (CH a) k)) = true then 1 else 0)) (nI j) := by
    intro K k base hba hk hK f
    induction f with
    | zero => intro j _ h9; omega
    | succ f ih =>
      intro j hj hf
      unfold wp_X6_common_L74
      rw [P17.1, nI_leI (by omega) (by omega)]
      refine ⟨fun q x e => ?_, fun q => ⟨rfl, nV (by omega) (by decide), ?_⟩⟩
      · rw [show j = (CH b).length by omega, List.take_length, e, n1, nA]; exact hK
      · rw [nC (by omega), show RF 40 3 = 43 from rfl, S17.2.2.1 k hk]
        refine q_item r17 ha (p := 0) (hr.gd hk) (by decide) ⟨rfl, nV (by omega) (by decide), ?_⟩
        rw [nC (by omega), show RF 40 16 = 50 from rfl, P17.2.2 j (by omega)]
        have h9 := ih (j + 1) (by omega) (by omega)
        rw [take_s (by omega), List.any_append] at h9
        have m1 : nmA a (gd (CH a) k) < 1100000 := hr.num _
        have m2 : nmA b (gd (CH b) j) < 1100000 := hr2.num _
        show (¬ nI (nmA a (gd (CH a) k)) = nI (nmA b (gd (CH b) j)) → _) ∧ (nI (nmA a (gd (CH a) k)) = nI (nmA b (gd (CH b) j)) → _)
        rw [nI_eq (by omega) (by omega)]
        refine ⟨fun c x e x2 e2 => ?_, fun c x e x2 e2 => ?_⟩
        · rw [show ([gd (CH b) j].any (fun y => nmA b y == nmA a (gd (CH a) k))) = false by simp; exact fun w => c w.symm, Bool.or_false] at h9
          rw [e, e2, n0, n1, nA, nA, Nat.add_zero]; exact h9
        · have hno : ¬ ((CH b).take j).any (fun y => nmA b y == nmA a (gd (CH a) k)) = true := fun w => by
            obtain ⟨y, y1, y2⟩ := List.any_eq_true.mp w
            have y2' : nmA b y = nmA a (gd (CH a) k) := by simpa using y2
            have hyn := (CH_mem hr2.str (List.mem_of_mem_take y1)).1
            have := num_inj hr2 hyn (hr2.gd (k := j) (by omega)) (y2'.trans c)
            have hnd := (CH_nd hr2.str).sublist (List.take_sublist (j + 1) (CH b))
            rw [take_s (by omega)] at hnd
            exact (List.nodup_append.mp hnd).2.2 _ y1 _ (List.mem_singleton.mpr rfl) this
          rw [show ([gd (CH b) j].any (fun y => nmA b y == nmA a (gd (CH a) k))) = true by simp; exact c.symm, Bool.or_true, if_pos rfl] at h9
          rw [e, e2, if_neg hno, Nat.add_zero, n1, nA, nA]; exact h9
  have outer : ∀ f k, k ≤ (CH a).length → (CH a).length - k < f → wp_X6_common_L62 40 (nI s) Q M17 f (nI (cntL (fun x => (CH b).any (fun y => nmA b y == nmA a x)) (CH a) k)) (nI k) := by
    intro f
    induction f with
    | zero => intro k _ h9; omega
    | succ f ih =>
      intro k hk hf
      unfold wp_X6_common_L62
      rw [S17.2.1, nI_leI (by omega) (by omega)]
      refine ⟨fun q => ?_, fun q => ⟨(CH b).length + 1, ?_⟩⟩
      · rw [show k = (CH a).length by omega, cntL_all]; exact hfin
      · have h9 := ih (k + 1) (by omega) (by omega)
        rw [cntL_s (by omega)] at h9
        have hcl := cntL_le (fun x => (CH b).any (fun y => nmA b y == nmA a x)) (CH a) k
        have := inner _ k _ (by omega) (by omega) h9 ((CH b).length + 1) 0 (Nat.zero_le _) (by omega)
        rw [List.take_zero] at this
        exact this
  have := outer _ 0 (Nat.zero_le _) (Nat.lt_succ_self _)
  rw [cntL_0] at this
  exact this
theorem q_diff (hr : RS M s a nx) (ha : sH a = true) (hS : SMR M a) (hP : PA M b) (h1 : 0 < (CH a).length) (h2 : 0 < (CH b).length) (hb60 : (CH b).length ≤ 60) {x : Int32} {Q : UInt32 → Prop} (hQ : Q (widA a b x)) : wp_X6_difference 40 (nI s) x M Q := by
  have h60 := hr.CH60
  refine ⟨rfl, (CH a).length + 1, ?_⟩
  have lp2 : ∀ f k, k ≤ (CH b).length → (CH b).length - k < f → wp_X6_difference_L51 40 x M Q (nI (cntX a x)) f (nI (cntL (fun i => !decide (x < pt (it b i) 4)) (CH b) k)) (nI k) := by
    intro f
    induction f with
    | zero => intro k _ h9; omega
    | succ f ih =>
      intro k hk hf
      unfold wp_X6_difference_L51
      rw [hP.1, hS.2.1, nI_leI (by omega) (by omega)]
      refine ⟨fun q f5 e5 f6 e6 => ?_, fun q => ⟨rfl, nV (by omega) (by decide), ?_⟩⟩
      · rw [show k = (CH b).length by omega, cntL_all] at e6
        have s1 := shr_ok h1 h60 x
        have s2 := shr_ok h2 hb60 x
        have e5' : alike32 f5 (shrA a x) = true := e5
        have e6' : alike32 f6 (shrA b x) = true := e6
        rw [alike32_num e5' (isS_num s1), alike32_num e6' (isS_num s2)]
        obtain ⟨-, w2, w3, -, -⟩ := wid_ok s1 s2
        unfold widA wid at hQ
        refine ⟨fun c f7 e7 => ?_, fun c f8 e8 => ?_⟩
        · rw [if_pos c] at hQ
          rw [alike32_num e7 w2]; exact hQ
        · rw [if_neg c] at hQ
          rw [alike32_num e8 w3]; exact hQ
      · have h9 := ih (k + 1) (by omega) (by omega)
        rw [cntL_s (by omega)] at h9
        rw [nC (by omega), show RF 40 15 = 49 from rfl, hP.2.1 k (by omega)]
        refine ⟨fun c x3 e x4 e4 => ?_, fun c x2 e2 x3 e => ?_⟩
        · rw [if_neg (by simpa using c)] at h9
          rw [e, e4, n0, n1, nA, nA]; exact h9
        · rw [if_pos (by simpa using c)] at h9
          rw [e, e2, n1, nA, nA]; exact h9
  have lp : ∀ f k, k ≤ (CH a).length → (CH a).length - k < f → wp_X6_difference_L8 40 (nI s) x M Q f (nI (cntL (fun i => !decide (x < pt (it a i) 4)) (CH a) k)) (nI k) := by
    intro f
    induction f with
    | zero => intro k _ h9; omega
    | succ f ih =>
      intro k hk hf
      unfold wp_X6_difference_L8
      rw [hS.2.1, nI_leI (by omega) (by omega)]
      refine ⟨fun q => ⟨(CH b).length + 1, ?_⟩, fun q => ⟨rfl, nV (by omega) (by decide), ?_⟩⟩
      · rw [show k = (CH a).length by omega, cntL_all]
        have := lp2 _ 0 (Nat.zero_le _) (Nat.lt_succ_self _)
        rw [cntL_0] at this
        exact this
      · have h9 := ih (k + 1) (by omega) (by omega)
        rw [cntL_s (by omega)] at h9
        rw [nC (by omega), show RF 40 3 = 43 from rfl, hS.2.2.1 k (by omega)]
        refine q_item hr ha (p := 4) (hr.gd (by omega)) (by decide) ⟨fun c x3 e x4 e4 => ?_, fun c x2 e2 x3 e => ?_⟩
        · rw [if_neg (by simpa using c)] at h9
          rw [e, e4, n0, n1, nA, nA]; exact h9
        · rw [if_pos (by simpa using c)] at h9
          rw [e, e2, n1, nA, nA]; exact h9
  have := lp _ 0 (Nat.zero_le _) (Nat.lt_succ_self _)
  rw [cntL_0] at this
  exact this
theorem q_distance_1 (hR : SIMR M G) {Q : UInt32 → MEM → Prop} (h1 : ¬ (rng p1 0 3 ∧ rng p2 0 3)) (hQ : ∀ M', ENDR M G 1 M' → Q (FP.i2f 0) M') : wp_X6_distance 40 p1 p2 M Q :=
  ⟨rfl, q_isSlot (fun r => e1 (q_slotF (fun w => h1 ⟨r, w⟩) (i0 (q_fails (k := 1) hR hQ)))) (fun _ => e0 (q_fails (k := 1) hR hQ))⟩
theorem q_distance_2 (hR : SIMR M G) (hr : RS M s a nx) (hr2 : RS M t b nx2) {Q : UInt32 → MEM → Prop} (h : ¬ (sH a = true ∧ sH b = true)) (hQ : ∀ M', ENDR M G 2 M' → Q (FP.i2f 0) M') : wp_X6_distance 40 (nI s) (nI t) M Q :=
  ⟨rfl, q_slotT hr.s4 (e1 (q_slotT hr2.s4 (i1 (q_there hr (fun ha => e1 (q_thF hr2 (by cases hb : sH b with | false => rfl | true => exact absurd ⟨ha, hb⟩ h) (i0 (q_fails (k := 2) hR hQ)))) (fun _ => e0 (q_fails (k := 2) hR hQ))))))⟩
theorem q_distance_3 (hR : SIMR M G) (hr : RS M s a nx) (hr2 : RS M t b nx2) {Q : UInt32 → MEM → Prop} (ha : sH a = true) (hb : sH b = true) (h : ¬ (0 < (CH a).length ∧ 0 < (CH b).length)) (hQ : ∀ M', ENDR M G 3 M' → Q (FP.i2f 0) M') : wp_X6_distance 40 (nI s) (nI t) M Q := by
  have h60 := hr.CH60
  have b60 := hr2.CH60
  refine ⟨rfl, q_slotT hr.s4 (e1 (q_slotT hr2.s4 (i1 (q_thT hr ha (e1 (q_thT hr2 hb (i1 (q_aside hr2 hb (fun M14 P14 F14 => q_finds (F14.rs hr) ha (fun M16 S16 F16 => ?_))))))))))⟩
  have fl : wp_X6_fails 40 3 M16 (fun r_17 M_18 => Q (FP.i2f r_17) M_18) := q_fails (k := 3) (F16.sim (F14.sim hR)) (fun M' h => hQ M' ((h.pre F16.R).pre F14.R))
  rw [S16.2.1, (P14.of F16).1]
  have q0 : nI (CH a).length = 0 ↔ (CH a).length = 0 := nI_eq (b := 0) (by omega) (by decide)
  have q1 : nI (CH b).length = 0 ↔ (CH b).length = 0 := nI_eq (b := 0) (by omega) (by decide)
  rw [q0, q1]
  exact ⟨fun _ => fl, fun c => ⟨fun c2 => absurd (by omega) h, fun _ => fl⟩⟩
theorem fold_take_s {l : List UInt32} {k : Nat} {w : UInt32} (h : l[k]? = some w) : (l.take (k + 1)).foldl mxw 0 = mxw ((l.take k).foldl mxw 0) w := by
  rw [List.take_add_one, h, List.foldl_append]; rfl
theorem wl_get {c : SLT} {k : Nat} (hk : k < (CH c).length) : (wlA a b c)[k]? = some (widA a b (pt (it c (gd (CH c) k)) 4)) := by
  unfold wlA
  rw [List.getElem?_map, List.getElem?_eq_getElem hk, gd_eq hk]; rfl
theorem q_distance_0 (hR : SIMR M G) (hr : RS M s a nx) (hr2 : RS M t b nx2) {Q : UInt32 → MEM → Prop} (ha : sH a = true) (hb : sH b = true) (h1 : 0 < (CH a).length) (h2 : 0 < (CH b).length) (hQ : ∀ M', ENDR M G 0 M' → Q (dstA a b) M') : wp_X6_distance 40 (nI s) (nI t) M Q := by
  have h60 := hr.CH60
  have b60 := hr2.CH60
  refine ⟨rfl, q_slotT hr.s4 (e1 (q_slotT hr2.s4 (i1 (q_thT hr ha (e1 (q_thT hr2 hb (i1 (q_aside hr2 hb (fun M14 P14 F14 => q_finds (F14.rs hr) ha (fun M16 S16 F16 => ?_))))))))))⟩
  have P16 := P14.of F16
  have q1 : nI (CH b).length = 0 ↔ (CH b).length = 0 := nI_eq (b := 0) (by omega) (by decide)
  rw [P16.1, q1]
  refine ⟨fun w => ?_, fun _ => ⟨fun _ M19 e19 => ⟨(CH a).length + (CH b).length + 1, ?_⟩, fun w => absurd w (by omega)⟩⟩
  · rw [S16.2.1] at w; exact absurd w (nI_ne0 h1 (by omega))
  have S19 := z_sm S16 e19
  have r19 := z_rs (F16.rs (F14.rs hr)) e19
  have P19 : PA M19 b := ⟨by rw [e19, rd_ne (by omega)]; exact P16.1, fun k hk => by rw [e19, rd_ne (by omega)]; exact P16.2.1 k hk, fun k hk => by rw [e19, rd_ne (by omega)]; exact P16.2.2 k hk⟩
  have hfin := hQ M19 (((z_end (k := 0) (F16.sim (F14.sim hR)) e19).pre F16.R).pre F14.R)
  unfold dstA at hfin
  have la : (wlA a b a).length = (CH a).length := List.length_map ..
  have lb : (wlA a b b).length = (CH b).length := List.length_map ..
  have lw : (wlA a b a ++ wlA a b b).length = (CH a).length + (CH b).length := by rw [List.length_append, la, lb]
  have gw1 : ∀ k, k < (CH a).length → (wlA a b a ++ wlA a b b)[k]? = some (widA a b (pt (it a (gd (CH a) k)) 4)) := fun k hk => by
    rw [List.getElem?_append_left (by omega)]; exact wl_get hk
  have gw2 : ∀ k, k < (CH b).length → (wlA a b a ++ wlA a b b)[(CH a).length + k]? = some (widA a b (pt (it b (gd (CH b) k)) 4)) := fun k hk => by
    rw [List.getElem?_append_right (by omega), la, Nat.add_sub_cancel_left]; exact wl_get hk
  generalize wlA a b a ++ wlA a b b = W at hfin lw gw1 gw2
  have lp : ∀ f k, k ≤ (CH a).length + (CH b).length → (CH a).length + (CH b).length - k < f → wp_X6_distance_L85 40 (nI s) Q M19 f ((W.take k).foldl mxw 0) (nI k) := by
    intro f
    induction f with
    | zero => intro k _ h9; omega
    | succ f ih =>
      intro k hk hf
      unfold wp_X6_distance_L85
      rw [S19.2.1, P19.1, nA, nI_leI (by omega) (by omega), nI_leI (by omega) (by omega)]
      refine ⟨fun q => ?_, fun q => ?_⟩
      · rw [show k = W.length by omega, List.take_length]; exact hfin
      · have h9 := ih (k + 1) (by omega) (by omega)
        have j138 : ∀ x, W[k]? = some (widA a b x) → wp_X6_distance_J138 40 (nI s) M19 (wp_X6_distance_L85 40 (nI s) Q M19 f) ((W.take k).foldl mxw 0) (nI k) x := fun x ex => by
          rw [fold_take_s ex] at h9
          refine q_diff r19 ha S19 P19 h1 h2 b60 ⟨fun w y e => ?_, fun w y e => ?_⟩
          · rw [mxw_p w] at h9
            rw [e, n1, nA]; exact h9
          · rw [mxw_n w] at h9
            rw [e, n1, nA]; exact h9
        refine ⟨fun c => ⟨rfl, ?_⟩, fun c => ⟨rfl, nV (by omega) (by decide), ?_⟩⟩
        · rw [nS c]
          refine ⟨nV (by omega) (by decide), ?_⟩
          rw [nC (by omega), show RF 40 15 = 49 from rfl, P19.2.1 _ (by omega)]
          refine j138 _ ?_
          have := gw2 (k - (CH a).length) (by omega)
          rw [show (CH a).length + (k - (CH a).length) = k by omega] at this
          exact this
        · rw [nC (by omega), show RF 40 3 = 43 from rfl, S19.2.2.1 k (by omega)]
          exact q_item r19 ha (p := 4) (hr.gd (by omega)) (by decide) (j138 _ (gw1 k (by omega)))
  exact lp _ 0 (Nat.zero_le _) (Nat.lt_succ_self _)
end PR5
