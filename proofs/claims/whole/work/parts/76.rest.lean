-- PURE: what the reference is asked: commonKey, stratum, truth, estimates
theorem itm_cnt {a : SLT} (hst : ∀ i, stA a i < 4) (t : Nat) : cntF (fun i => stA a i == t && decide (i ∈ CH a)) (sN a) = itmG a t := by
  unfold cntF itmG
  refine List.Perm.length_eq ((List.perm_ext_iff_of_nodup (List.nodup_range.sublist List.filter_sublist) ((CH_nd hst).sublist List.filter_sublist)).mpr (fun x => ?_))
  rw [List.mem_filter, List.mem_filter, List.mem_range]
  constructor
  · rintro ⟨h1, h2⟩
    rw [Bool.and_eq_true] at h2
    exact ⟨of_decide_eq_true h2.2, h2.1⟩
  · rintro ⟨h1, h2⟩
    exact ⟨(CH_mem hst h1).1, by rw [Bool.and_eq_true]; exact ⟨h2, decide_eq_true h1⟩⟩
section PR4
variable {M M' M1 : MEM} {G : GST} {B s nx : Nat} {a : SLT} {p p1 p2 p3 p4 : Int32}
theorem q_commonKey_1 (hR : SIMR M G) {Q : Int32 → MEM → Prop} (h1 : ¬ rng p1 0 3) (hQ : ∀ M', ENDR M G 1 M' → Q 0 M') : wp_X6_commonKey 40 p1 M Q := ⟨rfl, q_slotF h1 (i0 (q_fails (k := 1) hR hQ))⟩
theorem q_commonKey_2 (hR : SIMR M G) (hr : RS M s a nx) {Q : Int32 → MEM → Prop} (ha : sH a = false) (hQ : ∀ M', ENDR M G 2 M' → Q 0 M') : wp_X6_commonKey 40 (nI s) M Q := ⟨rfl, q_slotT hr.s4 (i1 (q_thF hr ha (i0 (q_fails (k := 2) hR hQ))))⟩
/-- a sample that is empty, or not -/
theorem q_none (hr : RS M s a nx) (S6 : SMR M1 a) (h : (CH a).length = 0) {A B : Prop} (hB : B) : (¬ mI M1 40 6 = 0 → A) ∧ (mI M1 40 6 = 0 → B) := by
  rw [S6.2.1, h]; exact i0 hB
theorem q_some (hr : RS M s a nx) (S6 : SMR M1 a) (h : 0 < (CH a).length) {A B : Prop} (hA : A) : (¬ mI M1 40 6 = 0 → A) ∧ (mI M1 40 6 = 0 → B) := by
  have h60 := hr.CH60
  rw [S6.2.1]
  exact ⟨fun _ => hA, fun w => absurd w (nI_ne0 h (by omega))⟩
theorem q_commonKey_3 (hR : SIMR M G) (hr : RS M s a nx) {Q : Int32 → MEM → Prop} (ha : sH a = true) (h : (CH a).length = 0) (hQ : ∀ M', ENDR M G 3 M' → Q 0 M') : wp_X6_commonKey 40 (nI s) M Q :=
  ⟨rfl, q_slotT hr.s4 (i1 (q_thT hr ha (i1 (q_finds hr ha (fun M6 S6 F6 => q_none hr S6 h (q_fails (k := 3) (F6.sim hR) (fun M' h => hQ M' (h.pre F6.R))))))))⟩
theorem q_commonKey_0 (hR : SIMR M G) (hr : RS M s a nx) {Q : Int32 → MEM → Prop} {b : Nat} (ha : sH a = true) (h : 0 < (CH a).length) (hb : isBest a b) (hQ : ∀ M', ENDR M G 0 M' → Q (nI b) M') : wp_X6_commonKey 40 (nI s) M Q := by
  have h60 := hr.CH60
  have hck : ∀ b, cK a b ≤ 60 := fun b => by unfold cK; exact Nat.le_trans (List.length_filter_le ..) h60
  refine ⟨rfl, q_slotT hr.s4 (i1 (q_thT hr ha (i1 (q_finds hr ha (fun M6 S6 F6 => q_some hr S6 h (fun M7 e7 => ⟨101, ?_⟩))))))⟩
  have hr7 := z_rs (F6.rs hr) e7
  have S7 := z_sm S6 e7
  have hfin := hQ M7 ((z_end (k := 0) (F6.sim hR) e7).pre F6.R)
  have inner : ∀ (K : Int32 → Int32 → Int32 → Prop) (x2 : Int32) (mo m : Nat), mo ≤ 60 → m < 100 → (cK a m ≤ mo → K x2 (nI mo) (nI (m + 1))) → (mo < cK a m → K (nI m) (nI (cK a m)) (nI (m + 1))) → ∀ f k, k ≤ (CH a).length → (CH a).length - k < f → wp_X6_commonKey_L70 40 (nI s) M7 K x2 (nI mo) (nI m) f (nI (cntL (fun x => kyA a x == m) (CH a) k)) (nI k) := by
    intro K x2 mo m hmo hm hk1 hk2 f
    induction f with
    | zero => intro k _ h9; omega
    | succ f ih =>
      intro k hk hf
      unfold wp_X6_commonKey_L70
      rw [S7.2.1, nI_leI (by omega) (by omega)]
      refine ⟨fun q => ?_, fun q => ⟨rfl, nV (by omega) (by decide), ?_⟩⟩
      · rw [show k = (CH a).length by omega, cntL_all, show ((CH a).filter (fun x => kyA a x == m)).length = cK a m from rfl]
        have hcm := hck m
        rw [nI_leI (by omega) (by omega)]
        refine ⟨fun z => ⟨fun _ x e => ?_, fun w => absurd (nI_le z (by omega)) w⟩, fun z => ⟨fun w => absurd w (nI_ge (by omega) (by omega)), fun _ x e => ?_⟩⟩
        · rw [e, n1, nA]; exact hk1 z
        · rw [e, n1, nA]; exact hk2 (by omega)
      · have h9 := ih (k + 1) (by omega) (by omega)
        rw [cntL_s (by omega)] at h9
        rw [nC (by omega), show RF 40 3 = 43 from rfl, S7.2.2.1 k (by omega)]
        refine q_item hr7 ha (p := 1) (hr.gd (by omega)) (by decide) ?_
        have hky : kyA a (gd (CH a) k) ≤ 99 := hr.key _
        show (¬ nI (kyA a (gd (CH a) k)) = nI m → _) ∧ (nI (kyA a (gd (CH a) k)) = nI m → _)
        rw [nI_eq (by omega) (by omega)]
        refine ⟨fun c x e x2 e2 => ?_, fun c x e x2 e2 => ?_⟩
        · rw [if_neg (by simpa using c)] at h9
          rw [e, e2, n0, n1, nA, nA]; exact h9
        · rw [if_pos (by simpa using c)] at h9
          rw [e, e2, n1, nA, nA]; exact h9
  have outer : ∀ f m mo (x2 : Int32), m ≤ 100 → 100 - m < f → mo ≤ 60 → (∀ c, c < m → cK a c ≤ mo) → (0 < mo → ∃ c, c < m ∧ x2 = nI c ∧ cK a c = mo ∧ ∀ c', c' < c → cK a c' < mo) → wp_X6_commonKey_L57 40 (nI s) Q M7 f x2 (nI mo) (nI m) := by
    intro f
    induction f with
    | zero => intro m mo x2 _ h9; omega
    | succ f ih =>
      intro m mo x2 hm hf hmo h1 h2
      unfold wp_X6_commonKey_L57
      refine ⟨fun q => ?_, fun q => ⟨(CH a).length + 1, ?_⟩⟩
      · have hm100 : 100 ≤ m := (nI_leI (a := 100) (by decide) (by omega)).mp q
        obtain ⟨b1, b2, b3, b4⟩ := hb
        have := h1 b (by omega)
        obtain ⟨c, c1, c2, c3, c4⟩ := h2 (by omega)
        have hbc : b = c := by
          rcases Nat.lt_trichotomy b c with z | z | z
          · have := c4 b z; have := b3 c; omega
          · exact z
          · have := b4 c z; omega
        rw [c2, ← hbc]; exact hfin
      · have hm100 : m < 100 := Nat.not_le.mp (fun z => q ((nI_leI (a := 100) (by decide) (by omega)).mpr z))
        have hcm := hck m
        have := inner (wp_X6_commonKey_L57 40 (nI s) Q M7 f) x2 mo m hmo hm100 (fun z => ih (m + 1) mo x2 (by omega) (by omega) hmo (fun c hc => ?_) (fun w => ?_)) (fun z => ih (m + 1) (cK a m) (nI m) (by omega) (by omega) hcm (fun c hc => ?_) (fun _ => ⟨m, by omega, rfl, rfl, fun c' hc' => ?_⟩)) _ 0 (Nat.zero_le _) (Nat.lt_succ_self _)
        · rw [cntL_0] at this; exact this
        · by_cases e : c = m
          · subst e; exact z
          · exact h1 c (by omega)
        · obtain ⟨c, c1, c2⟩ := h2 w
          exact ⟨c, by omega, c2⟩
        · by_cases e : c = m
          · subst e; exact Nat.le_refl _
          · have := h1 c (by omega); omega
        · have := h1 c' (by omega); omega
  exact outer _ 0 0 (-1) (by decide) (by decide) (by decide) (fun c hc => absurd hc (Nat.not_lt_zero _)) (fun w => absurd w (by decide))
theorem q_stratum_1 (hR : SIMR M G) {Q : Int32 → MEM → Prop} (h1 : ¬ (rng p1 0 3 ∧ rng p2 0 3)) (hQ : ∀ M', ENDR M G 1 M' → Q 0 M') : wp_X6_stratum 40 p1 p2 p3 M Q :=
  ⟨rfl, q_isSlot (fun r => e1 (q_strF (fun w => h1 ⟨r, w⟩) (i0 (q_fails (k := 1) hR hQ)))) (fun _ => e0 (q_fails (k := 1) hR hQ))⟩
theorem q_stratum_2 (hR : SIMR M G) {Q : Int32 → MEM → Prop} (h1 : rng p1 0 3 ∧ rng p2 0 3) (h2 : ¬ rng p3 0 5) (hQ : ∀ M', ENDR M G 2 M' → Q 0 M') : wp_X6_stratum 40 p1 p2 p3 M Q := by
  obtain ⟨s, hs, rfl⟩ := slot_rng h1.1
  exact ⟨rfl, q_slotT hs (e1 (q_strT h1.2 (i1 (q_btF (by decide) (by decide) h2 (i0 (q_fails (k := 2) hR hQ))))))⟩
theorem q_stratum_3 (hR : SIMR M G) (hr : RS M s a nx) {Q : Int32 → MEM → Prop} (h1 : rng p2 0 3) (h2 : rng p3 0 5) (ha : sH a = false) (hQ : ∀ M', ENDR M G 3 M' → Q 0 M') : wp_X6_stratum 40 (nI s) p2 p3 M Q :=
  ⟨rfl, q_slotT hr.s4 (e1 (q_strT h1 (i1 (q_btT (by decide) (by decide) h2 (i1 (q_thF hr ha (i0 (q_fails (k := 3) hR hQ))))))))⟩
theorem q_stratum_0 (hR : SIMR M G) (hr : RS M s a nx) {Q : Int32 → MEM → Prop} {t w : Nat} (ht : t < 4) (hw : w ≤ 5) (ha : sH a = true) (hQ : ∀ M', ENDR M G 0 M' → Q (strA a t w (sN a)) M') : wp_X6_stratum 40 (nI s) (nI t) (nI w) M Q := by
  have hn := hr.n
  refine ⟨rfl, q_slotT hr.s4 (e1 (q_strT (rng_slot ht) (i1 (q_btN 5 (by decide) (by decide) hw (by omega) (i1 (q_thT hr ha (i1 (fun M11 e11 => q_finds (z_rs hr e11) ha (fun M13 S13 F13 => ⟨sN a + 1, ?_⟩)))))))))⟩
  have hr13 := F13.rs (z_rs hr e11)
  have hfin := hQ M13 (z_t (z_end (k := 0) hR e11) F13)
  have lp : ∀ f m, m ≤ sN a → sN a - m < f → wp_X6_stratum_L68 40 (nI s) (nI t) (nI w) Q M13 f (strA a t w m) (nI m) := by
    intro f
    induction f with
    | zero => intro m _ h9; omega
    | succ f ih =>
      intro m hm hf
      refine q_many hr13 ha ?_
      rw [nI_leI (by omega) (by omega)]
      refine ⟨fun q => ?_, fun q => q_item hr13 ha (p := 2) (by omega) (by decide) ?_⟩
      · rw [show m = sN a by omega]; exact hfin
      · have h9 := ih (m + 1) (by omega) (by omega)
        unfold strA at h9
        have hs4 : stA a m < 4 := hr.str m
        show (¬ nI (stA a m) = nI t → _) ∧ (nI (stA a m) = nI t → _)
        rw [nI_eq (by omega) (by omega)]
        have j : stA a m = t → (w % 2 = 1 → m ∈ CH a) → wp_X6_stratum_J110 40 (nI s) (nI w) M13 (wp_X6_stratum_L68 40 (nI s) (nI t) (nI w) Q M13 f) (strA a t w m) (nI m) := fun e1 e2 => by
          rw [if_pos ⟨e1, e2⟩] at h9
          unfold wp_X6_stratum_J110
          rw [n2, n4, nI_leI (by omega) (by omega), nI_leI (by omega) (by omega)]
          refine ⟨fun z => ⟨fun z2 => q_item hr13 ha (p := 3) (by omega) (by decide) (fun x7 e7 x8 e8 => ?_), fun z2 => q_item hr13 ha (p := 4) (by omega) (by decide) (fun x7 e7 x8 e8 => ?_)⟩, fun z x7 e7 x8 e8 => ?_⟩
          · rw [if_neg (by omega), if_neg (by omega)] at h9
            rw [e7, e8, n1, nA]; exact h9
          · rw [if_neg (by omega), if_pos (by omega)] at h9
            rw [e7, e8, n1, nA]; exact h9
          · rw [if_pos (by omega)] at h9
            rw [e7, e8, nI_1]; exact h9
        rw [nI_rem2 (by omega)]
        refine ⟨fun c x8 e8 => ?_, fun c => ⟨fun z => j c (fun z2 => ?_), fun z => ⟨rfl, nV (by omega) (by decide), ?_⟩⟩⟩
        · rw [if_neg (fun z => c z.1)] at h9
          rw [e8, n1, nA]; exact h9
        · rw [z2] at z; exact absurd rfl z
        · rw [nC (by omega), show RF 40 4 = 44 from rfl, sm_pos S13 (by omega), (pos_negA hr.CH60 m).2]
          refine ⟨fun z2 => j c (fun _ => z2), fun z2 x8 e8 => ?_⟩
          have hw1 : w % 2 = 1 := by
            rcases Nat.mod_two_eq_zero_or_one w with q0 | q0
            · rw [q0] at z; exact absurd z (by decide)
            · exact q0
          rw [if_neg (fun z3 => z2 (z3.2 hw1))] at h9
          rw [e8, n1, nA]; exact h9
  exact lp _ 0 (Nat.zero_le _) (by omega)
theorem q_truth_1 (hR : SIMR M G) {Q : Int64 → MEM → Prop} (h1 : ¬ rng p1 0 3) (hQ : ∀ M', ENDR M G 1 M' → Q (0 : Int32).toInt64 M') : wp_X6_truth 40 p1 p2 M Q := ⟨rfl, q_slotF h1 (i0 (q_fails (k := 1) hR hQ))⟩
theorem q_truth_2 (hR : SIMR M G) {Q : Int64 → MEM → Prop} (h1 : rng p1 0 3) (h2 : ¬ rng p2 0 2) (hQ : ∀ M', ENDR M G 2 M' → Q (0 : Int32).toInt64 M') : wp_X6_truth 40 p1 p2 M Q := by
  obtain ⟨s, hs, rfl⟩ := slot_rng h1
  exact ⟨rfl, q_slotT hs (i1 (q_btF (by decide) (by decide) h2 (i0 (q_fails (k := 2) hR hQ))))⟩
theorem q_truth_3 (hR : SIMR M G) (hr : RS M s a nx) {Q : Int64 → MEM → Prop} (h2 : rng p2 0 2) (ha : sH a = false) (hQ : ∀ M', ENDR M G 3 M' → Q (0 : Int32).toInt64 M') : wp_X6_truth 40 (nI s) p2 M Q :=
  ⟨rfl, q_slotT hr.s4 (i1 (q_btT (by decide) (by decide) h2 (i1 (q_thF hr ha (i0 (q_fails (k := 3) hR hQ))))))⟩
theorem q_truth_0 (hR : SIMR M G) (hr : RS M s a nx) {Q : Int64 → MEM → Prop} {w : Nat} (hw : w ≤ 2) (ha : sH a = true) (hQ : ∀ M', ENDR M G 0 M' → Q (trA a w (sN a)) M') : wp_X6_truth 40 (nI s) (nI w) M Q := by
  have hn := hr.n
  refine ⟨rfl, q_slotT hr.s4 (i1 (q_btN 2 (by decide) (by decide) hw (by omega) (i1 (q_thT hr ha (i1 (fun M7 e7 => ⟨sN a + 1, ?_⟩))))))⟩
  have hr7 := z_rs hr e7
  have hfin := hQ M7 (z_end (k := 0) hR e7)
  have lp : ∀ f m, m ≤ sN a → sN a - m < f → wp_X6_truth_L58 40 (nI s) (nI w) Q M7 f (trA a w m) (nI m) := by
    intro f
    induction f with
    | zero => intro m _ h9; omega
    | succ f ih =>
      intro m hm hf
      refine q_many hr7 ha ?_
      rw [nI_leI (by omega) (by omega)]
      refine ⟨fun q => ?_, fun q => q_cand hr7 ha (i := m) (by omega) ?_⟩
      · rw [show m = sN a by omega]; exact hfin
      · have h9 := ih (m + 1) (by omega) (by omega)
        unfold trA at h9
        by_cases c : candA a m = true
        · rw [if_pos c] at h9 ⊢
          refine i1 ?_
          have q0 : nI w = 0 ↔ w = 0 := nI_eq (b := 0) (by omega) (by decide)
          have q1 : nI w = 1 ↔ w = 1 := nI_eq (b := 1) (by omega) (by decide)
          rw [q0, q1]
          refine ⟨fun z => ⟨fun z2 => q_item hr7 ha (p := 3) (by omega) (by decide) (fun x5 e5 x7 e7 => ?_), fun z2 => q_item hr7 ha (p := 4) (by omega) (by decide) (fun x5 e5 x7 e7 => ?_)⟩, fun z x5 e5 x7 e7 => ?_⟩
          · rw [if_neg z, if_neg z2] at h9
            rw [e5, e7, n1, nA]; exact h9
          · rw [if_neg z, if_pos z2] at h9
            rw [e5, e7, n1, nA]; exact h9
          · rw [if_pos z] at h9
            rw [e5, e7, n1, nA]; exact h9
        · rw [if_neg c] at h9 ⊢
          refine i0 (fun x5 e5 x7 e7 => ?_)
          rw [e5, e7, Int64.add_zero, n1, nA]; exact h9
  exact lp _ 0 (Nat.zero_le _) (by omega)
/-- what is totalled, as the reference keeps it -/
def TT (M : MEM) (p : Nat) (lo hi : Int32) : Prop := mI M 40 11 = lo ∧ mI M 40 12 = hi ∧ ((mI M 40 13 = 0 ∧ p = 4) ∨ (mI M 40 13 = 1 ∧ p = 3))
theorem q_num {lo hi : Int32} {q i : Nat} (hr : RS M s a nx) (ha : sH a = true) (hT : TT M q lo hi) (hi' : i < sN a) {Q : Int64 → Prop} (hQ : Q (tot a q lo hi i)) : wp_X6_numberOf 40 (nI s) (nI i) M Q := by
  obtain ⟨t1, t2, t3⟩ := hT
  refine ⟨rfl, q_item hr ha (p := 1) hi' (by decide) ?_⟩
  rw [t1, t2]
  unfold tot at hQ
  refine q_w32 lo.toInt hi.toInt (Int32.toInt_toInt64 _) (Int32.toInt_toInt64 _) (fun r => e1 ?_) (fun r => e0 ?_)
  · unfold rng at r
    rw [if_pos r] at hQ
    rcases t3 with ⟨t3, rfl⟩ | ⟨t3, rfl⟩
    · rw [t3]; exact e0 (q_item hr ha (p := 4) hi' (by decide) hQ)
    · rw [t3]; exact e1 (q_item hr ha (p := 3) hi' (by decide) hQ)
  · unfold rng at r; rw [if_neg r] at hQ; exact hQ
theorem RS.lim (hr : RS M s a nx) (h : ¬ (CH a).length = (ordR a).length) : (CH a).length < (ordR a).length ∧ limI a < sN a := by
  have h1 : (CH a).length < (ordR a).length := by have := CH_le hr.str; omega
  have : limI a ∈ ordR a := by unfold limI; rw [gd_eq h1]; exact List.getElem_mem _
  exact ⟨h1, (ordR_mem.mp this).1⟩
theorem q_countOf (hr : RS M s a nx) (ha : sH a = true) (hS : SMR M a) {Q : Int64 → Prop} (hQ : Q (cntA a)) : wp_X6_countOf 40 (nI s) M Q := by
  have hn := hr.n
  have h60 := hr.CH60
  have o60 := hr.or60
  obtain ⟨v1, -⟩ := hr.2.1.2.2.1 ha
  unfold cntA at hQ
  refine ⟨rfl, q_kind hr ha ?_⟩
  rw [n3, nI_eq (by omega) (by decide)]
  refine ⟨fun q => q_comp hS h60 o60 ?_, fun q => q_many hr ha ?_⟩
  · rw [if_pos q] at hQ
    rw [hS.2.1, nI_l (by omega)]
    by_cases c : (CH a).length = (ordR a).length
    · rw [if_pos c] at hQ ⊢; exact e1 hQ
    · rw [if_neg c] at hQ ⊢
      obtain ⟨l1, l2⟩ := hr.lim c
      have hm := mx_pos a (limI a)
      refine e0 ⟨rfl, nV (by omega) (by decide), ?_⟩
      rw [nC (by omega), show RF 40 2 = 42 from rfl, hS.1.2 _ l1]
      exact q_mixAt hr ha l2 (q_rnd (by omega) (by omega) hQ)
  · rw [if_neg q] at hQ
    rw [nI_l (by omega)]; exact hQ
theorem q_sumT {lo hi : Int32} {q : Nat} (hr : RS M s a nx) (ha : sH a = true) (hS : SMR M a) (hT : TT M q lo hi) {Q : Int64 → Prop} (hQ : Q (sumT a q lo hi (CH a).length)) : wp_X6_sampleTotal 40 (nI s) (-1) M Q := by
  have h60 := hr.CH60
  refine ⟨rfl, (CH a).length + 1, ?_⟩
  have lp : ∀ f k, k ≤ (CH a).length → (CH a).length - k < f → wp_X6_sampleTotal_L5 40 (nI s) (-1) M Q f (sumT a q lo hi k) (nI k) := by
    intro f
    induction f with
    | zero => intro k _ h9; omega
    | succ f ih =>
      intro k hk hf
      unfold wp_X6_sampleTotal_L5
      rw [hS.2.1, nI_leI (by omega) (by omega)]
      refine ⟨fun q => ?_, fun q => ⟨fun _ => ⟨rfl, nV (by omega) (by decide), ?_⟩, fun w => absurd (by decide) w⟩⟩
      · rw [show k = (CH a).length by omega]; exact hQ
      · rw [nC (by omega), show RF 40 3 = 43 from rfl, hS.2.2.1 k (by omega)]
        refine q_num hr ha hT (hr.gd (by omega)) (fun x e x2 e2 => ?_)
        rw [e, e2, n1, nA]
        exact ih (k + 1) (by omega) (by omega)
  exact lp _ 0 (Nat.zero_le _) (Nat.lt_succ_self _)
theorem q_sumG {lo hi : Int32} {q t : Nat} (hr : RS M s a nx) (ha : sH a = true) (hS : SMR M a) (hT : TT M q lo hi) (ht : t < 4) {Q : Int64 → Prop} (hQ : Q (sumG a t q lo hi (CH a).length)) : wp_X6_sampleTotal 40 (nI s) (nI t) M Q := by
  have h60 := hr.CH60
  refine ⟨rfl, (CH a).length + 1, ?_⟩
  have lp : ∀ f k, k ≤ (CH a).length → (CH a).length - k < f → wp_X6_sampleTotal_L5 40 (nI s) (nI t) M Q f (sumG a t q lo hi k) (nI k) := by
    intro f
    induction f with
    | zero => intro k _ h9; omega
    | succ f ih =>
      intro k hk hf
      unfold wp_X6_sampleTotal_L5
      rw [hS.2.1, nI_leI (by omega) (by omega)]
      refine ⟨fun q => ?_, fun q => ⟨fun w => absurd w (nI_pos (by omega)), fun _ => ⟨rfl, nV (by omega) (by decide), ?_⟩⟩⟩
      · rw [show k = (CH a).length by omega]; exact hQ
      · have h9 := ih (k + 1) (by omega) (by omega)
        unfold sumG at h9
        have hs4 : stA a (gd (CH a) k) < 4 := hr.str _
        rw [nC (by omega), show RF 40 3 = 43 from rfl, hS.2.2.1 k (by omega)]
        refine q_item hr ha (p := 2) (hr.gd (by omega)) (by decide) ?_
        show (¬ nI (stA a (gd (CH a) k)) = nI t → _) ∧ (nI (stA a (gd (CH a) k)) = nI t → _)
        rw [nI_eq (by omega) (by omega)]
        refine ⟨fun c x e x2 e2 => ?_, fun c => ⟨rfl, nV (by omega) (by decide), ?_⟩⟩
        · rw [if_neg c] at h9
          rw [e, e2, Int64.add_zero, n1, nA]; exact h9
        · rw [if_pos c] at h9
          rw [nC (by omega), show RF 40 3 = 43 from rfl, hS.2.2.1 k (by omega)]
          refine q_num hr ha hT (hr.gd (by omega)) (fun x e x2 e2 => ?_)
          rw [e, e2, n1, nA]; exact h9
  exact lp _ 0 (Nat.zero_le _) (Nat.lt_succ_self _)
theorem q_wT {lo hi : Int32} {q : Nat} (hr : RS M s a nx) (ha : sH a = true) (hS : SMR M a) (hT : TT M q lo hi) {Q : Int64 → Prop} (hQ : Q (wT a q lo hi (CH a).length)) : wp_X6_weightedTotal 40 (nI s) M Q := by
  have h60 := hr.CH60
  have o60 := hr.or60
  refine ⟨rfl, (CH a).length + 1, ?_⟩
  have lp : ∀ f k, k ≤ (CH a).length → (CH a).length - k < f → wp_X6_weightedTotal_L5 40 (nI s) M Q f (wT a q lo hi k) (nI k) := by
    intro f
    induction f with
    | zero => intro k _ h9; omega
    | succ f ih =>
      intro k hk hf
      unfold wp_X6_weightedTotal_L5
      rw [hS.2.1, nI_leI (by omega) (by omega)]
      refine ⟨fun q => ?_, fun q => ⟨rfl, nV (by omega) (by decide), ?_⟩⟩
      · rw [show k = (CH a).length by omega]; exact hQ
      · have hx := hr.gd (k := k) (by omega)
        rw [nC (by omega), show RF 40 3 = 43 from rfl, hS.2.2.1 k (by omega)]
        refine q_num hr ha hT hx (q_comp hS h60 o60 ?_)
        have h9 := ih (k + 1) (by omega) (by omega)
        unfold wT at h9
        by_cases c : (CH a).length = (ordR a).length
        · rw [if_pos c] at h9 ⊢
          refine i1 (fun x e x2 e2 => ?_)
          rw [e, e2, n1, nA]; exact h9
        · rw [if_neg c] at h9 ⊢
          obtain ⟨l1, l2⟩ := hr.lim c
          refine i0 ⟨rfl, nV (by omega) (by decide), fun x7 e7 => ?_⟩
          have e7' : x7 = nI (limI a) := by
            rw [e7, nC (by omega)]; exact hS.1.2 _ l1
          subst e7'
          refine q_item hr ha (p := 3) l2 (by decide) (fun x8 e8 => ⟨nV (by omega) (by decide), q_item hr ha (p := 3) hx (by decide) (q_mixAt hr ha l2 (fun x10 e10 => ?_))⟩)
          have hw1 : 1 ≤ wtA a (gd (CH a) k) := (hr.ok hx).2.2.2.1
          have hw2 : wtA a (gd (CH a) k) ≤ 99 := hr.wgt _
          have hw3 : wtA a (limI a) ≤ 99 := hr.wgt _
          have hm := mx_pos a (limI a)
          have e10' : x10 = lN (wtA a (gd (CH a) k) * mx a (limI a)) := by
            rw [e10, show pt (it a (gd (CH a) k)) 3 = nI (wtA a (gd (CH a) k)) from rfl, nI_l (by omega), lN_mul]
          have e8' : x8 = lN (2147483648 * wtA a (limI a)) := by
            rw [e8, show pt (it a (limI a)) 3 = nI (wtA a (limI a)) from rfl, nI_l (by omega)]
            exact lN_mul 2147483648 _
          have hb : wtA a (gd (CH a) k) * mx a (limI a) ≤ 99 * 2147483648 := Nat.mul_le_mul hw2 hm.2
          have hb1 : 1 ≤ wtA a (gd (CH a) k) * mx a (limI a) := Nat.mul_pos hw1 hm.1
          rw [e10', e8']
          refine ⟨fun z => q_rnd hb1 (by omega) (fun x e x2 e2 => ?_), fun z x e x2 e2 => ?_⟩
          · rw [if_pos z] at h9
            rw [e, e2, n1, nA]; exact h9
          · rw [if_neg z] at h9
            rw [e, e2, n1, nA]; exact h9
  exact lp _ 0 (Nat.zero_le _) (Nat.lt_succ_self _)
theorem q_stT {lo hi : Int32} {q : Nat} (hr : RS M s a nx) (ha : sH a = true) (hS : SMR M a) (hT : TT M q lo hi) {Q : Int64 → Prop} (hQ : Q (stT a q lo hi 4)) : wp_X6_stratifiedTotal 40 (nI s) M Q := by
  have hn := hr.n
  have h60 := hr.CH60
  have inner : ∀ (K : Int64 → Int32 → Prop) t, t < 4 → K (stT a q lo hi (t + 1)) (nI (t + 1)) → ∀ f m, m ≤ sN a → sN a - m < f → wp_X6_stratifiedTotal_L20 40 (nI s) M K (stT a q lo hi t) (nI t) f (nI (cntF (fun i => stA a i == t) m)) (nI (cntF (fun i => stA a i == t && decide (i ∈ CH a)) m)) (nI m) := by
    intro K t ht hK f
    induction f with
    | zero => intro m _ h9; omega
    | succ f ih =>
      intro m hm hf
      refine q_many hr ha ?_
      rw [nI_leI (by omega) (by omega)]
      refine ⟨fun q2 => ?_, fun q2 => q_item hr ha (p := 2) (by omega) (by decide) ?_⟩
      · have em : m = sN a := by omega
        subst em
        rw [itm_cnt hr.str]
        have hcn := cntF_le (fun i => stA a i == t) (sN a)
        have hig : itmG a t ≤ (CH a).length := List.length_filter_le ..
        unfold stT at hK
        rw [nI_l (by omega), nI_l (by omega)]
        have q0 : nI (itmG a t) = 0 ↔ itmG a t = 0 := nI_eq (b := 0) (by omega) (by decide)
        rw [q0]
        refine ⟨fun c => q_sumG hr ha hS hT ht ?_, fun c x e x2 e2 => ?_⟩
        · rw [if_neg c] at hK
          refine q_rnd (by omega) (by omega) (fun x e x2 e2 => ?_)
          rw [e, e2, n1, nA]; exact hK
        · rw [if_pos c] at hK
          rw [e, e2, n1, nA]; exact hK
      · have h9 := ih (m + 1) (by omega) (by omega)
        rw [cntF_s, cntF_s] at h9
        have hs4 : stA a m < 4 := hr.str m
        show (nI (stA a m) = nI t → _) ∧ (¬ nI (stA a m) = nI t → _)
        rw [nI_eq (by omega) (by omega)]
        refine ⟨fun c x5 e5 => ⟨rfl, nV (by omega) (by decide), ?_⟩, fun c x e => ?_⟩
        · rw [nC (by omega), show RF 40 4 = 44 from rfl, sm_pos hS (by omega), (pos_negA h60 m).1]
          rw [if_pos (by simpa using c)] at h9
          refine ⟨fun z x e x2 e2 => ?_, fun z x e x2 e2 => ?_⟩
          · rw [if_neg (by simp [z])] at h9
            rw [e5, e, e2, n0, n1, nA, nA, nA]; exact h9
          · rw [if_pos (by simp [Decidable.not_not.mp z, c])] at h9
            rw [e5, e, e2, n1, nA, nA, nA]; exact h9
        · rw [if_neg (by simpa using c), if_neg (by simp [c])] at h9
          rw [e, n1, nA]; exact h9
  have outer : ∀ f t, t ≤ 4 → 4 - t < f → wp_X6_stratifiedTotal_L5 40 (nI s) M Q f (stT a q lo hi t) (nI t) := by
    intro f
    induction f with
    | zero => intro t _ h9; omega
    | succ f ih =>
      intro t ht hf
      unfold wp_X6_stratifiedTotal_L5
      rw [n4, nI_leI (by omega) (by omega)]
      refine ⟨fun q => ?_, fun q => ⟨sN a + 1, inner _ t (by omega) (ih (t + 1) (by omega) (by omega)) _ 0 (Nat.zero_le _) (by omega)⟩⟩
      rw [show t = 4 by omega]; exact hQ
  exact ⟨rfl, 5, outer 5 0 (Nat.zero_le _) (by decide)⟩
theorem q_total {lo hi : Int32} {q : Nat} (hr : RS M s a nx) (ha : sH a = true) (hS : SMR M a) (hT : TT M q lo hi) {Q : Int64 → Prop} (hQ : Q (totalA a q lo hi)) : wp_X6_total 40 (nI s) M Q := by
  have hn := hr.n
  have h60 := hr.CH60
  obtain ⟨v1, -⟩ := hr.2.1.2.2.1 ha
  unfold totalA at hQ
  refine ⟨rfl, ?_⟩
  rw [hS.2.1]
  have q0 : nI (CH a).length = 0 ↔ (CH a).length = 0 := nI_eq (b := 0) (by omega) (by decide)
  rw [q0]
  refine ⟨fun c => q_kind hr ha ?_, fun c => ?_⟩
  · rw [if_neg c] at hQ
    rw [nI_toInt (by omega), nI_eq (by omega) (by decide), nI_eq (by omega) (by decide), nI_eq (by omega) (by decide), nI_l (by omega)]
    refine ⟨fun k => q_sumT hr ha hS hT (q_countOf hr ha hS (q_rnd (by omega) (by omega) ?_)), fun k => q_sumT hr ha hS hT (q_many hr ha ?_), fun k => q_wT hr ha hS hT ?_, fun k => q_stT hr ha hS hT ?_⟩
    · rw [if_neg (by omega), if_neg (by omega)] at hQ; exact hQ
    · rw [if_neg (by omega), if_neg (by omega)] at hQ
      have hcn : cntA a = lN (sN a) := by unfold cntA; rw [if_neg (by omega)]
      rw [hcn] at hQ
      rw [nI_l (by omega)]
      exact q_rnd (by omega) (by omega) hQ
    · rw [if_pos k] at hQ; exact hQ
    · rw [if_neg (by omega), if_pos k] at hQ; exact hQ
  · rw [if_pos c] at hQ
    by_cases k1 : sK a = 1
    · rw [if_pos k1, c] at hQ; exact hQ
    · rw [if_neg k1] at hQ
      by_cases k2 : sK a = 2
      · rw [if_pos k2] at hQ
        have hz : ∀ t, itmG a t = 0 := fun t => by
          have : itmG a t ≤ (CH a).length := List.length_filter_le ..
          omega
        have : stT a q lo hi 4 = 0 := by
          unfold stT stT stT stT stT
          rw [if_pos (hz 0), if_pos (hz 1), if_pos (hz 2), if_pos (hz 3)]; rfl
        rw [this] at hQ; exact hQ
      · rw [if_neg k2] at hQ; exact hQ
theorem z_tot {M1 M2 : MEM} {lo hi : Int32} {k : Nat} (hE : ENDR M G k M1) (hr : RS M1 s a nx) (hS : SMR M1 a) {fl : Int32} {q : Nat} (hf : (fl = 0 ∧ q = 4) ∨ (fl = 1 ∧ q = 3)) {Q : MEM → Prop} (hQ : ∀ M', ENDR M G k M' → RS M' s a nx → SMR M' a → TT M' q lo hi → Q M') : wp_X6_totals 40 lo hi fl M1 Q := by
  refine ⟨rfl, fun Ma ea Mb eb => ⟨gB_01 (by rcases hf with ⟨h, -⟩ | ⟨h, -⟩ <;> simp [h]), fun Mc ec => ?_⟩⟩
  have ho : ∀ b j, (b ≠ 40 ∨ (j ≠ 11 ∧ j ≠ 12 ∧ j ≠ 13)) → mI Mc b j = mI M1 b j := fun b j h => by rw [ec, rd_ne (by omega), eb, rd_ne (by omega), ea, rd_ne (by omega)]
  refine hQ Mc ⟨hE.1.trans ⟨fun b h j => ho b j (by omega), by rw [ec, eb, ea]; rfl, by rw [ec, eb, ea]; rfl⟩, hE.2.1.of (fun b j h => ho b j (by unfold keepR at h; omega)), by rw [ho 40 0 (by decide)]; exact hE.2.2⟩ (hr.of (fun j => ho 41 j (Or.inl (by decide)))) (hS.z (fun b j h => ho b j (by omega))) ⟨?_, ?_, ?_⟩
  · rw [ec, rd_ne (by omega), eb, rd_ne (by omega), ea, rd_eq]
  · rw [ec, rd_ne (by omega), eb, rd_eq]
  · rw [ec, rd_eq]; exact hf
theorem q_estK_1 (hR : SIMR M G) {Q : Int64 → MEM → Prop} (h1 : ¬ rng p1 0 3) (hQ : ∀ M', ENDR M G 1 M' → Q (0 : Int32).toInt64 M') : wp_X6_estimateKeys 40 p1 p2 p3 p4 M Q := ⟨rfl, q_slotF h1 (i0 (q_fails (k := 1) hR hQ))⟩
theorem q_estK_2 (hR : SIMR M G) (hr : RS M s a nx) {Q : Int64 → MEM → Prop} (ha : sH a = false) (hQ : ∀ M', ENDR M G 2 M' → Q (0 : Int32).toInt64 M') : wp_X6_estimateKeys 40 (nI s) p2 p3 p4 M Q := ⟨rfl, q_slotT hr.s4 (i1 (q_thF hr ha (i0 (q_fails (k := 2) hR hQ))))⟩
theorem q_estK_0 (hR : SIMR M G) (hr : RS M s a nx) {Q : Int64 → MEM → Prop} (h01 : p4 = 0 ∨ p4 = 1) (ha : sH a = true) (hQ : ∀ M', ENDR M G 0 M' → Q (totalA a (if p4 = 0 then 4 else 3) p2 p3) M') : wp_X6_estimateKeys 40 (nI s) p2 p3 p4 M Q := by
  refine ⟨rfl, q_slotT hr.s4 (i1 (q_thT hr ha (i1 (fun M5 e5 => q_finds (z_rs hr e5) ha (fun M7 S7 F7 => z_tot (M2 := M7) (z_t (z_end (k := 0) hR e5) F7) (F7.rs (z_rs hr e5)) S7 (q := if p4 = 0 then 4 else 3) ?_ (fun M9 E9 r9 S9 T9 => q_total r9 ha S9 T9 (hQ M9 E9)))))))⟩
  rcases h01 with h | h
  · exact Or.inl ⟨h, if_pos h⟩
  · exact Or.inr ⟨h, if_neg (by rw [h]; decide)⟩
theorem q_est_1 (hR : SIMR M G) {Q : Int64 → MEM → Prop} (h1 : ¬ rng p1 0 3) (hQ : ∀ M', ENDR M G 1 M' → Q (0 : Int32).toInt64 M') : wp_X6_estimate 40 p1 p2 M Q := ⟨rfl, q_slotF h1 (i0 (q_fails (k := 1) hR hQ))⟩
theorem q_est_2 (hR : SIMR M G) {Q : Int64 → MEM → Prop} (h1 : rng p1 0 3) (h2 : ¬ rng p2 0 2) (hQ : ∀ M', ENDR M G 2 M' → Q (0 : Int32).toInt64 M') : wp_X6_estimate 40 p1 p2 M Q := by
  obtain ⟨s, hs, rfl⟩ := slot_rng h1
  exact ⟨rfl, q_slotT hs (i1 (q_btF (by decide) (by decide) h2 (i0 (q_fails (k := 2) hR hQ))))⟩
theorem q_est_3 (hR : SIMR M G) (hr : RS M s a nx) {Q : Int64 → MEM → Prop} (h2 : rng p2 0 2) (ha : sH a = false) (hQ : ∀ M', ENDR M G 3 M' → Q (0 : Int32).toInt64 M') : wp_X6_estimate 40 (nI s) p2 M Q :=
  ⟨rfl, q_slotT hr.s4 (i1 (q_btT (by decide) (by decide) h2 (i1 (q_thF hr ha (i0 (q_fails (k := 3) hR hQ))))))⟩
theorem q_est_0 (hR : SIMR M G) (hr : RS M s a nx) {Q : Int64 → MEM → Prop} {w : Nat} (hw : w ≤ 2) (ha : sH a = true) (hQ : ∀ M', ENDR M G 0 M' → Q (estA a w) M') : wp_X6_estimate 40 (nI s) (nI w) M Q := by
  refine ⟨rfl, q_slotT hr.s4 (i1 (q_btN 2 (by decide) (by decide) hw (by omega) (i1 (q_thT hr ha (i1 (fun M7 e7 => q_finds (z_rs hr e7) ha (fun M9 S9 F9 => ?_)))))))⟩
  have E9 := z_t (z_end (k := 0) hR e7) F9
  have r9 := F9.rs (z_rs hr e7)
  have j : ∀ (fl : Int32) (q : Nat), ((fl = 0 ∧ q = 4) ∨ (fl = 1 ∧ q = 3)) → (w ≠ 0 → q = if w = 1 then 4 else 3) → wp_X6_estimate_J72 40 (nI s) (nI w) Q M9 fl := fun fl q hf hq => by
    refine z_tot (M2 := M9) E9 r9 S9 hf (fun M12 E12 r12 S12 T12 => ?_)
    have hfin := hQ M12 E12
    unfold estA at hfin
    have q0 : nI w = 0 ↔ w = 0 := nI_eq (b := 0) (by omega) (by decide)
    rw [q0]
    refine ⟨fun c => q_total r12 ha S12 T12 ?_, fun c => q_countOf r12 ha S12 ?_⟩
    · rw [if_neg c, ← hq c] at hfin; exact hfin
    · rw [if_pos c] at hfin; exact hfin
  have q2 : nI w = 2 ↔ w = 2 := nI_eq (b := 2) (by omega) (by decide)
  rw [q2]
  exact ⟨fun c => j 0 4 (Or.inl ⟨rfl, rfl⟩) (fun z => by rw [if_pos (by omega)]), fun c => j 1 3 (Or.inr ⟨rfl, rfl⟩) (fun z => by rw [if_neg (by omega)])⟩
end PR4
