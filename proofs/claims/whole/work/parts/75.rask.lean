-- PURE: what the reference is asked: summary, kept, sampled, mix, reason, needed, margin
theorem i1 {A B : Prop} (h : A) : (¬ (1 : Int32) = 0 → A) ∧ ((1 : Int32) = 0 → B) := ⟨fun _ => h, fun e => absurd e (by decide)⟩
theorem i0 {A B : Prop} (h : B) : (¬ (0 : Int32) = 0 → A) ∧ ((0 : Int32) = 0 → B) := ⟨fun e => absurd rfl e, fun _ => h⟩
theorem e1 {A B : Prop} (h : A) : ((1 : Int32) = 0 → B) ∧ (¬ (1 : Int32) = 0 → A) := ⟨fun e => absurd e (by decide), fun _ => h⟩
theorem e0 {A B : Prop} (h : B) : ((0 : Int32) = 0 → B) ∧ (¬ (0 : Int32) = 0 → A) := ⟨fun _ => h, fun e => absurd rfl e⟩
theorem SMT.z {M M' : MEM} {S : List Nat} (h : SMT M S) (e : ∀ b j, b = 43 ∨ b = 44 ∨ (b = 40 ∧ j = 6) → mI M' b j = mI M b j) : SMT M' S :=
  ⟨by rw [e 40 6 (by omega)]; exact h.1, fun k hk => by rw [e 43 k (by omega)]; exact h.2.1 k hk, fun i hi => by rw [e 44 i (by omega)]; exact h.2.2 i hi⟩
theorem SMR.z {M M' : MEM} {a : SLT} (h : SMR M a) (e : ∀ b j, b = 42 ∨ b = 43 ∨ b = 44 ∨ (b = 40 ∧ (j = 5 ∨ j = 6)) → mI M' b j = mI M b j) : SMR M' a :=
  ⟨⟨by rw [e 40 5 (by omega)]; exact h.1.1, fun k hk => by rw [e 42 k (by omega)]; exact h.1.2 k hk⟩, h.2.z (fun b j q => e b j (by omega))⟩
section PR3
variable {M M' M1 : MEM} {G : GST} {B s nx : Nat} {a : SLT} {p p1 p2 p3 : Int32}
theorem q_slotT (hs : s < 4) {Q : Int32 → Prop} (hQ : Q 1) : wp_X6_isSlot (nI s) M Q := q_isSlot (fun _ => hQ) (fun w => absurd (rng_slot hs) w)
theorem q_slotF (h : ¬ rng p 0 3) {Q : Int32 → Prop} (hQ : Q 0) : wp_X6_isSlot p M Q := q_isSlot (fun w => absurd w h) (fun _ => hQ)
theorem q_strT (h : rng p 0 3) {Q : Int32 → Prop} (hQ : Q 1) : wp_X6_isStratum p M Q := q_isStratum (fun _ => hQ) (fun w => absurd h w)
theorem q_strF (h : ¬ rng p 0 3) {Q : Int32 → Prop} (hQ : Q 0) : wp_X6_isStratum p M Q := q_isStratum (fun w => absurd w h) (fun _ => hQ)
theorem q_btT {lo hi : Int64} {l u : Int} (hl : lo.toInt = l) (hu : hi.toInt = u) (h : rng p l u) {Q : Int32 → Prop} (hQ : Q 1) : wp_X6_isBetween p.toInt64 lo hi M Q := q_w32 l u hl hu (fun _ => hQ) (fun w => absurd h w)
theorem q_btF {lo hi : Int64} {l u : Int} (hl : lo.toInt = l) (hu : hi.toInt = u) (h : ¬ rng p l u) {Q : Int32 → Prop} (hQ : Q 0) : wp_X6_isBetween p.toInt64 lo hi M Q := q_w32 l u hl hu (fun w => absurd w h) (fun _ => hQ)
theorem q_btN {n : Nat} (u : Nat) {lo hi : Int64} (hl : lo.toInt = 0) (hu : hi.toInt = (u : Int)) (h : n ≤ u) (hb : n < 2147483648) {Q : Int32 → Prop} (hQ : Q 1) : wp_X6_isBetween (nI n).toInt64 lo hi M Q := q_btT hl hu ((rng_of hb).mpr ⟨by omega, by omega⟩) hQ
theorem q_thT (hr : RS M s a nx) (ha : sH a = true) {Q : Int32 → Prop} (hQ : Q 1) : wp_X6_isThere 40 (nI s) M Q := q_there hr (fun _ => hQ) (fun w => by rw [ha] at w; exact absurd w (by decide))
theorem q_thF (hr : RS M s a nx) (ha : sH a = false) {Q : Int32 → Prop} (hQ : Q 0) : wp_X6_isThere 40 (nI s) M Q := q_there hr (fun w => by rw [ha] at w; exact absurd w (by decide)) (fun _ => hQ)
/-- what is thrown is set -/
theorem z_end {k : Nat} (hR : SIMR M G) (e : M' = uI M 40 0 (nI k)) : ENDR M G k M' := ⟨by rw [e]; exact FrR.uI (by decide) (by decide), by rw [e]; exact hR.of (fun b j h => rd_ne (by unfold keepR at h; omega)), by rw [e, rd_eq]⟩
theorem z_t {k : Nat} (h : ENDR M G k M1) (hF : FrT M1 M') : ENDR M G k M' := ⟨h.1.trans hF.R, hF.sim h.2.1, by rw [hF.1 40 0 (by decide) (by decide) (by decide) (by decide)]; exact h.2.2⟩
theorem z_rs {v : Int32} (hr : RS M s a nx) (e : M' = uI M 40 0 v) : RS M' s a nx := hr.of (fun j => by rw [e, rd_ne (by omega)])
theorem z_sm {v : Int32} (h : SMR M a) (e : M' = uI M 40 0 v) : SMR M' a := h.z (fun b j q => by rw [e, rd_ne (by omega)])
theorem sm_pos (h : SMR M a) {i : Nat} (hi : i < 60) : mI M 44 i = posA a i := h.2.2.2 i hi
theorem q_comp (h : SMR M a) (h1 : (CH a).length ≤ 60) (h2 : (ordR a).length ≤ 60) {Q : Int32 → Prop} (hQ : Q (if (CH a).length = (ordR a).length then 1 else 0)) : wp_X6_isComplete 40 M Q := by
  refine ⟨rfl, ?_⟩
  rw [h.2.1, h.1.1, nI_eq (by omega) (by omega)]
  exact ⟨fun c => by rw [if_neg c] at hQ; exact hQ, fun c => by rw [if_pos c] at hQ; exact hQ⟩
theorem RS.CH60 (hr : RS M s a nx) : (CH a).length ≤ 60 := Nat.le_trans (CH_le hr.str) (Nat.le_trans ordR_le hr.n)
theorem RS.or60 (hr : RS M s a nx) : (ordR a).length ≤ 60 := Nat.le_trans ordR_le hr.n
theorem RS.gd (hr : RS M s a nx) {k : Nat} (hk : k < (CH a).length) : Jvm.Pilot.CSampleBenchLaw_law_r6121_bd6fca.gd (CH a) k < sN a := by
  have : Jvm.Pilot.CSampleBenchLaw_law_r6121_bd6fca.gd (CH a) k ∈ CH a := by rw [gd_eq hk]; exact List.getElem_mem _
  exact (CH_mem hr.str this).1
theorem q_keys (hr : RS M s a nx) (ha : sH a = true) {Q : Int32 → Prop} (hQ : Q (nI (cntF (firstK a) (sN a)))) : wp_X6_keys 40 (nI s) M Q := by
  have hn := hr.n
  refine ⟨rfl, sN a + 1, ?_⟩
  have lp : ∀ f i, i ≤ sN a → sN a - i < f → wp_X6_keys_L4 40 (nI s) M Q f (nI (cntF (firstK a) i)) (nI i) := by
    intro f
    induction f with
    | zero => intro j _ h9; omega
    | succ f ih =>
      intro i hi hf
      refine q_many hr ha ?_
      rw [nI_leI (by omega) (by omega)]
      refine ⟨fun q => ?_, fun q => ⟨i + 1, ?_⟩⟩
      · rw [show i = sN a by omega]; exact hQ
      · have h9 := ih (i + 1) (by omega) (by omega)
        rw [cntF_s] at h9
        have lp2 : ∀ g j (fl : Int32), j ≤ i → i - j < g → ((fl = 1 ∧ ∀ j', j' < j → kyA a j' ≠ kyA a i) ∨ (fl = 0 ∧ ¬ firstK a i = true)) → wp_X6_keys_L19 40 (nI s) M (wp_X6_keys_L4 40 (nI s) M Q f) (nI (cntF (firstK a) i)) (nI i) g fl (nI j) := by
          intro g
          induction g with
          | zero => intro j fl _ h9; omega
          | succ g ih2 =>
            intro j fl hj hg hfl
            unfold wp_X6_keys_L19
            rw [nI_leI (by omega) (by omega)]
            refine ⟨fun q2 => ?_, fun q2 => ?_⟩
            · rcases hfl with ⟨rfl, hall⟩ | ⟨rfl, hno⟩
              · rw [if_pos (firstK_iff.mpr (fun j' h' => hall j' (by omega)))] at h9
                exact e1 (fun x e x2 e2 => by rw [e, e2, n1, nA, nA]; exact h9)
              · rw [if_neg hno] at h9
                refine e0 (fun x e x2 e2 => ?_)
                rw [e, e2, n0, n1, nA, nA]; exact h9
            · rcases hfl with ⟨rfl, hall⟩ | ⟨rfl, hno⟩
              · refine e1 (q_item hr ha (p := 1) (by omega) (by decide) (q_item hr ha (p := 1) (by omega) (by decide) ?_))
                have k1 := hr.key j
                have k2 := hr.key i
                show (nI (kyA a j) = nI (kyA a i) → _) ∧ (¬ nI (kyA a j) = nI (kyA a i) → _)
                rw [nI_eq (by omega) (by omega)]
                refine ⟨fun z x e => ?_, fun z x e => ?_⟩
                · rw [e, n1, nA]
                  exact ih2 (j + 1) 0 (by omega) (by omega) (Or.inr ⟨rfl, fun w => firstK_iff.mp w j (by omega) z⟩)
                · rw [e, nI_1]
                  refine ih2 (j + 1) 1 (by omega) (by omega) (Or.inl ⟨rfl, fun j' h' => ?_⟩)
                  by_cases e2 : j' = j
                  · subst e2; exact z
                  · exact hall j' (by omega)
              · refine e0 (fun x e => ?_)
                rw [e, n1, nA]
                exact ih2 (j + 1) 0 (by omega) (by omega) (Or.inr ⟨rfl, hno⟩)
        exact lp2 _ 0 1 (Nat.zero_le _) (by omega) (Or.inl ⟨rfl, fun j' h' => absurd h' (Nat.not_lt_zero _)⟩)
  exact lp _ 0 (Nat.zero_le _) (by omega)
theorem q_summary_1 (hR : SIMR M G) {Q : Int32 → MEM → Prop} (h1 : ¬ rng p1 0 3) (hQ : ∀ M', ENDR M G 1 M' → Q 0 M') : wp_X6_summary 40 p1 p2 M Q :=
  ⟨rfl, q_slotF h1 (i0 (q_fails (k := 1) hR hQ))⟩
theorem q_summary_2 (hR : SIMR M G) {Q : Int32 → MEM → Prop} (h1 : rng p1 0 3) (h2 : ¬ rng p2 0 7) (hQ : ∀ M', ENDR M G 2 M' → Q 0 M') : wp_X6_summary 40 p1 p2 M Q := by
  obtain ⟨s, hs, rfl⟩ := slot_rng h1
  exact ⟨rfl, q_slotT hs (i1 (q_btF (by decide) (by decide) h2 (i0 (q_fails (k := 2) hR hQ))))⟩
theorem q_summary_3 (hR : SIMR M G) (hr : RS M s a nx) {Q : Int32 → MEM → Prop} (h2 : rng p2 0 7) (h3 : sH a = false) (hQ : ∀ M', ENDR M G 3 M' → Q 0 M') : wp_X6_summary 40 (nI s) p2 M Q :=
  ⟨rfl, q_slotT hr.s4 (i1 (q_btT (by decide) (by decide) h2 (i1 (q_thF hr h3 (i0 (q_fails (k := 3) hR hQ))))))⟩
theorem q_summary_0 (hR : SIMR M G) (hr : RS M s a nx) {Q : Int32 → MEM → Prop} {w : Nat} (hw : w ≤ 7) (ha : sH a = true) (hQ : ∀ M', ENDR M G 0 M' → Q (sumA a w) M') : wp_X6_summary 40 (nI s) (nI w) M Q := by
  have h60 := hr.CH60
  have o60 := hr.or60
  refine ⟨rfl, q_slotT hr.s4 (i1 (q_btN 7 (by decide) (by decide) hw (by omega) (i1 (q_thT hr ha (i1 (fun M7 e7 => ?_))))))⟩
  refine q_finds (z_rs hr e7) ha (fun M9 S9 F9 => ?_)
  have hr9 := F9.rs (z_rs hr e7)
  have hfin := hQ M9 (z_t (z_end (k := 0) hR e7) F9)
  have same : ∀ k, nI w = nI k → k ≤ 7 → w = k := fun k hk h7 => (nI_eq (by omega) (by omega)).mp hk
  refine ⟨fun c => ?_, fun c => ?_, fun c => ?_, fun c => ?_, fun c => ?_, fun c => ?_, fun c => ?_, fun c => ?_⟩
  · rw [nI_toInt (by omega)] at c
    have : w = 7 := by omega
    subst this
    exact q_keys hr9 ha hfin
  · have := same 0 c (by decide); subst this; exact q_kind hr9 ha hfin
  · have := same 1 c (by decide); subst this; exact q_size hr9 ha hfin
  · have := same 2 c (by decide); subst this; exact q_seed hr9 ha hfin
  · have := same 3 c (by decide); subst this; exact q_reach hr9 ha hfin
  · have := same 4 c (by decide); subst this; exact q_many hr9 ha hfin
  · have := same 5 c (by decide); subst this; rw [S9.2.1]; exact hfin
  · have := same 6 c (by decide)
    subst this
    refine q_comp S9 h60 o60 ?_
    have e6 : sumA a 6 = if (CH a).length = (ordR a).length then 1 else 0 := rfl
    rw [e6] at hfin
    by_cases q : (CH a).length = (ordR a).length
    · rw [if_pos q] at hfin ⊢; exact e1 hfin
    · rw [if_neg q] at hfin ⊢; exact e0 hfin
theorem q_nk1 {Q : Int32 → Prop} (h1 : ¬ rng p1 0 3) (hQ : Q 1) : wp_X6_notKept 40 p1 p2 M Q := ⟨rfl, q_slotF h1 (e0 hQ)⟩
theorem q_nk1b (hr : RS M s a nx) (ha : sH a = true) {Q : Int32 → Prop} (h : ¬ rng p2 0 ((sN a : Int) - 1)) (hQ : Q 1) : wp_X6_notKept 40 (nI s) p2 M Q := by
  have hn := hr.n
  refine ⟨rfl, q_slotT hr.s4 (e1 (q_thT hr ha (e1 ⟨rfl, fun c => i0 hQ, fun c => q_thT hr ha (e1 (q_many hr ha ⟨fun c2 => i0 hQ, fun c2 => ?_⟩))⟩)))⟩
  refine absurd ?_ h
  have h1 := mt Int32.lt_iff_toInt_lt.mpr c
  have h2 := mt Int32.le_iff_toInt_le.mpr c2
  rw [nI_toInt (by omega)] at h2
  have h3 : (0 : Int32).toInt = 0 := rfl
  rw [h3] at h1
  exact ⟨by omega, by omega⟩
theorem q_nk0 (hr : RS M s a nx) {Q : Int32 → Prop} (hit : sH a = true → ∃ i, p2 = nI i ∧ i < sN a) (hQ : Q 0) : wp_X6_notKept 40 (nI s) p2 M Q := by
  have hn := hr.n
  refine ⟨rfl, q_slotT hr.s4 (e1 (q_there hr (fun ha => e1 ?_) (fun ha => e0 hQ)))⟩
  obtain ⟨i, e, hi⟩ := hit ha
  subst e
  refine ⟨rfl, fun c => absurd c (nI_pos (by omega)), fun _ => q_thT hr ha (e1 (q_many hr ha ⟨fun c => absurd c (nI_ge hi (by omega)), fun _ => i1 hQ⟩))⟩
theorem le0 {A B : Prop} (h : A) : ((0 : Int32) ≤ 0 → A) ∧ (¬ (0 : Int32) ≤ 0 → B) := ⟨fun _ => h, fun w => absurd (by decide) w⟩
theorem le1 {A B : Prop} (h : B) : ((1 : Int32) ≤ 0 → A) ∧ (¬ (1 : Int32) ≤ 0 → B) := ⟨fun w => absurd w (by decide), fun _ => h⟩
theorem q_kept_1 (hR : SIMR M G) {Q : Int32 → MEM → Prop} (h1 : ¬ rng p1 0 3) (hQ : ∀ M', ENDR M G 1 M' → Q 0 M') : wp_X6_kept 40 p1 p2 p3 M Q := ⟨rfl, q_nk1 h1 (le1 (q_fails (k := 1) hR hQ))⟩
theorem q_kept_1b (hR : SIMR M G) (hr : RS M s a nx) {Q : Int32 → MEM → Prop} (ha : sH a = true) (h : ¬ rng p2 0 ((sN a : Int) - 1)) (hQ : ∀ M', ENDR M G 1 M' → Q 0 M') : wp_X6_kept 40 (nI s) p2 p3 M Q := ⟨rfl, q_nk1b hr ha h (le1 (q_fails (k := 1) hR hQ))⟩
theorem q_kept_2 (hR : SIMR M G) (hr : RS M s a nx) {Q : Int32 → MEM → Prop} (hit : sH a = true → ∃ i, p2 = nI i ∧ i < sN a) (h : ¬ rng p3 0 5) (hQ : ∀ M', ENDR M G 2 M' → Q 0 M') : wp_X6_kept 40 (nI s) p2 p3 M Q := ⟨rfl, q_nk0 hr hit (le0 (q_btF (by decide) (by decide) h (i0 (q_fails (k := 2) hR hQ))))⟩
theorem no_hit (ha : sH a = false) : sH a = true → ∃ i, p2 = nI i ∧ i < sN a := fun w => by rw [ha] at w; exact absurd w (by decide)
theorem q_kept_3 (hR : SIMR M G) (hr : RS M s a nx) {Q : Int32 → MEM → Prop} (h : rng p3 0 5) (ha : sH a = false) (hQ : ∀ M', ENDR M G 3 M' → Q 0 M') : wp_X6_kept 40 (nI s) p2 p3 M Q := ⟨rfl, q_nk0 hr (no_hit ha) (le0 (q_btT (by decide) (by decide) h (i1 (q_thF hr ha (i0 (q_fails (k := 3) hR hQ))))))⟩
theorem q_kept_0 (hR : SIMR M G) (hr : RS M s a nx) {Q : Int32 → MEM → Prop} {i w : Nat} (hi : i < sN a) (hw : w ≤ 5) (ha : sH a = true) (hQ : ∀ M', ENDR M G 0 M' → Q (keptA a i w) M') : wp_X6_kept 40 (nI s) (nI i) (nI w) M Q := by
  have hn := hr.n
  refine ⟨rfl, q_nk0 hr (fun _ => ⟨i, rfl, hi⟩) (le0 (q_btN 5 (by decide) (by decide) hw (by omega) (i1 (q_thT hr ha (i1 (fun M7 e7 => ?_))))))⟩
  refine q_finds (z_rs hr e7) ha (fun M9 S9 F9 => ?_)
  have hr9 := F9.rs (z_rs hr e7)
  have hfin := hQ M9 (z_t (z_end (k := 0) hR e7) F9)
  unfold keptA at hfin
  rw [n5, nI_eq (by omega) (by decide)]
  refine ⟨fun c => q_item hr9 ha hi (by omega) ?_, fun c => ⟨rfl, nV (by omega) (by decide), ?_⟩⟩
  · rw [if_neg c] at hfin; exact hfin
  · rw [if_pos c] at hfin
    rw [nC (by omega), show RF 40 4 = 44 from rfl, sm_pos S9 (by omega)]; exact hfin
theorem q_mix_1 (hR : SIMR M G) {Q : Int64 → MEM → Prop} (h1 : ¬ rng p1 0 3) (hQ : ∀ M', ENDR M G 1 M' → Q (0 : Int32).toInt64 M') : wp_X6_mix 40 p1 p2 M Q := ⟨rfl, q_nk1 h1 (le1 (q_fails (k := 1) hR hQ))⟩
theorem q_mix_1b (hR : SIMR M G) (hr : RS M s a nx) {Q : Int64 → MEM → Prop} (ha : sH a = true) (h : ¬ rng p2 0 ((sN a : Int) - 1)) (hQ : ∀ M', ENDR M G 1 M' → Q (0 : Int32).toInt64 M') : wp_X6_mix 40 (nI s) p2 M Q := ⟨rfl, q_nk1b hr ha h (le1 (q_fails (k := 1) hR hQ))⟩
theorem q_mix_2 (hR : SIMR M G) (hr : RS M s a nx) {Q : Int64 → MEM → Prop} (ha : sH a = false) (hQ : ∀ M', ENDR M G 2 M' → Q (0 : Int32).toInt64 M') : wp_X6_mix 40 (nI s) p2 M Q := ⟨rfl, q_nk0 hr (no_hit ha) (le0 (q_thF hr ha (i0 (q_fails (k := 2) hR hQ))))⟩
theorem q_mix_0 (hR : SIMR M G) (hr : RS M s a nx) {Q : Int64 → MEM → Prop} {i : Nat} (hi : i < sN a) (ha : sH a = true) (hQ : ∀ M', ENDR M G 0 M' → Q (lN (mx a i)) M') : wp_X6_mix 40 (nI s) (nI i) M Q :=
  ⟨rfl, q_nk0 hr (fun _ => ⟨i, rfl, hi⟩) (le0 (q_thT hr ha (i1 (fun M5 e5 => q_mixAt (z_rs hr e5) ha hi (hQ M5 (z_end (k := 0) hR e5))))))⟩
theorem q_reason_1 (hR : SIMR M G) {Q : Int32 → MEM → Prop} (h1 : ¬ rng p1 0 3) (hQ : ∀ M', ENDR M G 1 M' → Q 0 M') : wp_X6_reason 40 p1 p2 M Q := ⟨rfl, q_nk1 h1 (le1 (q_fails (k := 1) hR hQ))⟩
theorem q_reason_1b (hR : SIMR M G) (hr : RS M s a nx) {Q : Int32 → MEM → Prop} (ha : sH a = true) (h : ¬ rng p2 0 ((sN a : Int) - 1)) (hQ : ∀ M', ENDR M G 1 M' → Q 0 M') : wp_X6_reason 40 (nI s) p2 M Q := ⟨rfl, q_nk1b hr ha h (le1 (q_fails (k := 1) hR hQ))⟩
theorem q_reason_2 (hR : SIMR M G) (hr : RS M s a nx) {Q : Int32 → MEM → Prop} (ha : sH a = false) (hQ : ∀ M', ENDR M G 2 M' → Q 0 M') : wp_X6_reason 40 (nI s) p2 M Q := ⟨rfl, q_nk0 hr (no_hit ha) (le0 (q_thF hr ha (i0 (q_fails (k := 2) hR hQ))))⟩
theorem pos_negA (h60 : (CH a).length ≤ 60) (i : Nat) : (posA a i < 0 ↔ i ∉ CH a) ∧ (0 ≤ posA a i ↔ i ∈ CH a) := by
  unfold posA
  by_cases c : i ∈ CH a
  · rw [if_pos c]
    have := List.idxOf_le_length (a := i) (l := CH a)
    exact ⟨⟨fun w => absurd w (nI_pos (by omega)), fun w => absurd c w⟩, ⟨fun _ => c, fun _ => nI_pos' (by omega)⟩⟩
  · rw [if_neg c]
    exact ⟨⟨fun _ => c, fun _ => by decide⟩, ⟨fun w => absurd w (by decide), fun w => absurd w c⟩⟩
theorem q_reason_0 (hR : SIMR M G) (hr : RS M s a nx) {Q : Int32 → MEM → Prop} {i : Nat} (hi : i < sN a) (ha : sH a = true) (hQ : ∀ M', ENDR M G 0 M' → Q (reasonA a i) M') : wp_X6_reason 40 (nI s) (nI i) M Q := by
  have hn := hr.n
  obtain ⟨v1, -, -, -, v5, -⟩ := hr.2.1.2.2.1 ha
  refine ⟨rfl, q_nk0 hr (fun _ => ⟨i, rfl, hi⟩) (le0 (q_thT hr ha (i1 (fun M5 e5 => q_finds (z_rs hr e5) ha (fun M7 S7 F7 => ⟨rfl, nV (by omega) (by decide), ?_⟩)))))⟩
  have hr7 := F7.rs (z_rs hr e5)
  have hfin := hQ M7 (z_t (z_end (k := 0) hR e5) F7)
  unfold reasonA at hfin
  rw [nC (by omega), show RF 40 4 = 44 from rfl, sm_pos S7 (by omega), (pos_negA hr.CH60 i).1]
  refine ⟨fun c => ?_, fun c => ?_⟩
  · rw [if_neg c] at hfin
    refine q_cand hr7 ha hi ?_
    by_cases c2 : candA a i = true
    · rw [if_pos c2] at hfin ⊢
      refine i1 (q_kind hr7 ha ?_)
      rw [n2, nI_eq (by omega) (by decide)]
      refine ⟨fun k2 => ?_, fun k2 => q_item hr7 ha (p := 2) hi (by decide) (q_quo hr7 ha (hr.str i) ?_)⟩
      · rw [if_neg (fun w => k2 w.1)] at hfin; exact hfin
      · have hq : sQ a (stA a i) ≤ 12 := v5 _ (hr.str i)
        rw [n0, nI_eq (by omega) (by decide)]
        refine ⟨fun z => ?_, fun z => ?_⟩
        · rw [if_neg (fun w => z w.2)] at hfin; exact hfin
        · rw [if_pos ⟨k2, z⟩] at hfin; exact hfin
    · rw [if_neg c2] at hfin ⊢
      exact i0 hfin
  · rw [if_pos (Decidable.not_not.mp c)] at hfin; exact hfin
theorem q_before (hr : RS M s a nx) (ha : sH a = true) (hS : SMR M a) {i : Nat} (hi : i < sN a) (hc : candA a i = true) {Q : Int32 → Prop} (hQ : Q (nI (rnkA a i))) : wp_X6_before 40 (nI s) (nI i) M Q := by
  have hn := hr.n
  have o60 := hr.or60
  obtain ⟨v1, -⟩ := hr.2.1.2.2.1 ha
  have hnd : (ordR a).Nodup := ordB_nd _
  have hmem : i ∈ ordR a := ordR_mem.mpr ⟨hi, hc⟩
  obtain ⟨k0, hk0, ek0⟩ := List.getElem_of_mem hmem
  have eg : gd (ordR a) k0 = i := by rw [gd_eq hk0]; exact ek0
  have hne : ∀ j, j < k0 → gd (ordR a) j ≠ i := fun j hj w => by
    rw [gd_eq (by omega), ← ek0] at w
    have := (List.getElem_inj hnd).mp w
    omega
  have hrk : rnkA a i = (((ordR a).take k0).filter (fun x => !decide (sK a = 2) || (stA a x == stA a i))).length := by
    unfold rnkA
    by_cases k2 : sK a = 2
    · rw [if_pos k2]
      have h9 := idx_take hnd hk0 (fun x => stA a x == stA a i) (by rw [eg]; simp)
      rw [eg] at h9
      unfold grpA
      rw [h9]
      congr 2
      funext x
      simp [k2]
    · rw [if_neg k2]
      have h9 := idx_take hnd hk0 (fun _ => true) rfl
      rw [eg, filter_all (fun _ _ => rfl)] at h9
      rw [h9]
      congr 2
      funext x
      simp [k2]
  refine ⟨rfl, k0 + 1, ?_⟩
  have lp : ∀ f k, k ≤ k0 → k0 - k < f → wp_X6_before_L5 40 (nI s) (nI i) M Q f (nI (((ordR a).take k).filter (fun x => !decide (sK a = 2) || (stA a x == stA a i))).length) (nI k) := by
    intro f
    induction f with
    | zero => intro k _ h9; omega
    | succ f ih =>
      intro k hk hf
      unfold wp_X6_before_L5
      rw [hS.1.1]
      refine ⟨fun c => absurd c (nI_ge (by omega) (by omega)), fun _ => ⟨rfl, nV (by omega) (by decide), ?_⟩⟩
      rw [nC (by omega), show RF 40 2 = 42 from rfl, hS.1.2 k (by omega)]
      have hgm : gd (ordR a) k ∈ ordR a := by rw [gd_eq (by omega)]; exact List.getElem_mem _
      have hgn := (ordR_mem.mp hgm).1
      rw [nI_eq (by omega) (by omega)]
      refine ⟨fun c => ?_, fun c => q_kind hr ha ?_⟩
      · have : k = k0 := by
          by_cases z : k = k0
          · exact z
          · exact absurd c (hne k (by omega))
        rw [this, ← hrk]; exact hQ
      · have hk' : k < k0 := by
          by_cases z : k = k0
          · rw [z, eg] at c; exact absurd rfl c
          · omega
        have h9 := ih (k + 1) (by omega) (by omega)
        rw [flt_s (by omega), List.length_append] at h9
        rw [n2, nI_eq (by omega) (by decide)]
        refine ⟨fun k2 x e x2 e2 => ?_, fun k2 => ⟨nV (by omega) (by decide), q_item hr ha (p := 2) hgn (by decide) (q_item hr ha (p := 2) hi (by decide) ?_)⟩⟩
        · rw [if_pos (by simp [k2])] at h9
          rw [e, e2, n1, nA, nA]; exact h9
        · have s1 : stA a (gd (ordR a) k) < 4 := hr.str _
          have s2 : stA a i < 4 := hr.str _
          show (¬ nI (stA a (gd (ordR a) k)) = nI (stA a i) → _) ∧ (nI (stA a (gd (ordR a) k)) = nI (stA a i) → _)
          rw [nI_eq (by omega) (by omega)]
          refine ⟨fun z x e x2 e2 => ?_, fun z x e x2 e2 => ?_⟩
          · rw [if_neg (by simp [k2, z])] at h9
            rw [e, e2, n0, n1, nA, nA]; exact h9
          · rw [if_pos (by simp [z])] at h9
            rw [e, e2, n1, nA, nA]; exact h9
  exact lp _ 0 (Nat.zero_le _) (Nat.lt_succ_self _)
theorem q_needed_1 (hR : SIMR M G) {Q : Int32 → MEM → Prop} (h1 : ¬ rng p1 0 3) (hQ : ∀ M', ENDR M G 1 M' → Q 0 M') : wp_X6_needed 40 p1 p2 M Q := ⟨rfl, q_nk1 h1 (le1 (q_fails (k := 1) hR hQ))⟩
theorem q_needed_1b (hR : SIMR M G) (hr : RS M s a nx) {Q : Int32 → MEM → Prop} (ha : sH a = true) (h : ¬ rng p2 0 ((sN a : Int) - 1)) (hQ : ∀ M', ENDR M G 1 M' → Q 0 M') : wp_X6_needed 40 (nI s) p2 M Q := ⟨rfl, q_nk1b hr ha h (le1 (q_fails (k := 1) hR hQ))⟩
theorem q_needed_2 (hR : SIMR M G) (hr : RS M s a nx) {Q : Int32 → MEM → Prop} (ha : sH a = false) (hQ : ∀ M', ENDR M G 2 M' → Q 0 M') : wp_X6_needed 40 (nI s) p2 M Q := ⟨rfl, q_nk0 hr (no_hit ha) (le0 (q_thF hr ha (i0 (q_fails (k := 2) hR hQ))))⟩
theorem q_needed_3 (hR : SIMR M G) (hr : RS M s a nx) {Q : Int32 → MEM → Prop} {i : Nat} (hi : i < sN a) (ha : sH a = true) (hc : ¬ candA a i = true) (hQ : ∀ M', ENDR M G 3 M' → Q 0 M') : wp_X6_needed 40 (nI s) (nI i) M Q :=
  ⟨rfl, q_nk0 hr (fun _ => ⟨i, rfl, hi⟩) (le0 (q_thT hr ha (i1 (q_cand hr ha hi (by rw [if_neg hc]; exact i0 (q_fails (k := 3) hR hQ))))))⟩
theorem q_needed_0 (hR : SIMR M G) (hr : RS M s a nx) {Q : Int32 → MEM → Prop} {i : Nat} (hi : i < sN a) (ha : sH a = true) (hc : candA a i = true) (hQ : ∀ M', ENDR M G 0 M' → Q (nI (rnkA a i + 1)) M') : wp_X6_needed 40 (nI s) (nI i) M Q := by
  refine ⟨rfl, q_nk0 hr (fun _ => ⟨i, rfl, hi⟩) (le0 (q_thT hr ha (i1 (q_cand hr ha hi ?_))))⟩
  rw [if_pos hc]
  refine i1 (fun M7 e7 => q_finds (z_rs hr e7) ha (fun M9 S9 F9 => q_before (F9.rs (z_rs hr e7)) ha S9 hi hc ?_))
  rw [nI_1]
  exact hQ M9 (z_t (z_end (k := 0) hR e7) F9)
theorem q_margin_1 (hR : SIMR M G) {Q : Int32 → MEM → Prop} (h1 : ¬ rng p1 0 3) (hQ : ∀ M', ENDR M G 1 M' → Q 0 M') : wp_X6_margin 40 p1 p2 M Q := ⟨rfl, q_nk1 h1 (le1 (q_fails (k := 1) hR hQ))⟩
theorem q_margin_1b (hR : SIMR M G) (hr : RS M s a nx) {Q : Int32 → MEM → Prop} (ha : sH a = true) (h : ¬ rng p2 0 ((sN a : Int) - 1)) (hQ : ∀ M', ENDR M G 1 M' → Q 0 M') : wp_X6_margin 40 (nI s) p2 M Q := ⟨rfl, q_nk1b hr ha h (le1 (q_fails (k := 1) hR hQ))⟩
theorem q_margin_2 (hR : SIMR M G) (hr : RS M s a nx) {Q : Int32 → MEM → Prop} (ha : sH a = false) (hQ : ∀ M', ENDR M G 2 M' → Q 0 M') : wp_X6_margin 40 (nI s) p2 M Q := ⟨rfl, q_nk0 hr (no_hit ha) (le0 (q_thF hr ha (i0 (q_fails (k := 2) hR hQ))))⟩
theorem q_margin_3 (hR : SIMR M G) (hr : RS M s a nx) {Q : Int32 → MEM → Prop} {i : Nat} (hi : i < sN a) (ha : sH a = true) (hc : i ∉ CH a) (hQ : ∀ M', ENDR M G 3 M' → Q 0 M') : wp_X6_margin 40 (nI s) (nI i) M Q := by
  have hn := hr.n
  refine ⟨rfl, q_nk0 hr (fun _ => ⟨i, rfl, hi⟩) (le0 (q_thT hr ha (i1 (q_finds hr ha (fun M6 S6 F6 => ⟨rfl, nV (by omega) (by decide), ?_⟩)))))⟩
  rw [nC (by omega), show RF 40 4 = 44 from rfl, sm_pos S6 (by omega), (pos_negA hr.CH60 i).2]
  exact ⟨fun w => absurd w hc, fun _ => q_fails (k := 3) (F6.sim hR) (fun M' h => hQ M' (h.pre F6.R))⟩
theorem q_margin_0 (hR : SIMR M G) (hr : RS M s a nx) {Q : Int32 → MEM → Prop} {i : Nat} (hi : i < sN a) (ha : sH a = true) (hc : i ∈ CH a) (hQ : ∀ M', ENDR M G 0 M' → Q (nI (limA a i) - nI (rnkA a i)) M') : wp_X6_margin 40 (nI s) (nI i) M Q := by
  have hn := hr.n
  obtain ⟨v1, -⟩ := hr.2.1.2.2.1 ha
  refine ⟨rfl, q_nk0 hr (fun _ => ⟨i, rfl, hi⟩) (le0 (q_thT hr ha (i1 (q_finds hr ha (fun M6 S6 F6 => ⟨rfl, nV (by omega) (by decide), ?_⟩)))))⟩
  rw [nC (by omega), show RF 40 4 = 44 from rfl, sm_pos S6 (by omega), (pos_negA hr.CH60 i).2]
  refine ⟨fun _ M9 e9 => ?_, fun w => absurd hc w⟩
  have hr9 := z_rs (F6.rs hr) e9
  have hfin := hQ M9 ((z_end (k := 0) (F6.sim hR) e9).pre F6.R)
  have hcd : candA a i = true := (CH_mem hr.str hc).2
  refine q_kind hr9 ha ?_
  rw [n2, nI_eq (by omega) (by decide)]
  unfold limA at hfin
  refine ⟨fun k2 => q_size hr9 ha (q_before hr9 ha (z_sm S6 e9) hi hcd ?_), fun k2 => q_item hr9 ha (p := 2) hi (by decide) (q_quo hr9 ha (hr.str i) (q_before hr9 ha (z_sm S6 e9) hi hcd ?_))⟩
  · rw [if_neg k2] at hfin; exact hfin
  · rw [if_pos k2] at hfin; exact hfin
theorem q_sampled_1 (hR : SIMR M G) {Q : Int32 → MEM → Prop} (h1 : ¬ rng p1 0 3) (hQ : ∀ M', ENDR M G 1 M' → Q 0 M') : wp_X6_sampled 40 p1 p2 p3 M Q := ⟨rfl, q_slotF h1 (i0 (q_fails (k := 1) hR hQ))⟩
theorem sz_toInt {n : Nat} (h : n ≤ 60) : ((nI n - 1 : Int32).toInt64).toInt = (n : Int) - 1 := by
  rw [Int32.toInt_toInt64]
  exact pk_sub_toInt (a := n) (b := 1) (by omega) (by decide)
theorem q_sampled_1b (hR : SIMR M G) (hr : RS M s a nx) {Q : Int32 → MEM → Prop} (ha : sH a = true) (h : ¬ rng p2 0 (((CH a).length : Int) - 1)) (hQ : ∀ M', ENDR M G 1 M' → Q 0 M') : wp_X6_sampled 40 (nI s) p2 p3 M Q := by
  refine ⟨rfl, q_slotT hr.s4 (i1 (q_thT hr ha (e1 (q_finds hr ha (fun M5 S5 F5 => q_thT (F5.rs hr) ha (e1 ?_))))))⟩
  rw [S5.2.1]
  exact q_btF (by decide) (sz_toInt hr.CH60) h (i0 (q_fails (k := 1) (F5.sim hR) (fun M' h => hQ M' (h.pre F5.R))))
theorem q_sampled_2 (hR : SIMR M G) (hr : RS M s a nx) {Q : Int32 → MEM → Prop} (hit : sH a = true → ∃ i, p2 = nI i ∧ i < (CH a).length) (h : ¬ rng p3 0 4) (hQ : ∀ M', ENDR M G 2 M' → Q 0 M') : wp_X6_sampled 40 (nI s) p2 p3 M Q := by
  refine ⟨rfl, q_slotT hr.s4 (i1 (q_there hr (fun ha => e1 (q_finds hr ha (fun M5 S5 F5 => q_thT (F5.rs hr) ha (e1 ?_)))) (fun ha => e0 (q_thF hr ha (e0 (q_btF (by decide) (by decide) h (i0 (q_fails (k := 2) hR hQ))))))))⟩
  rw [S5.2.1]
  have h60 := hr.CH60
  obtain ⟨i, e, hi⟩ := hit ha
  exact q_btT (l := 0) (by decide) (sz_toInt h60) (by rw [e]; exact (rng_of (by omega)).mpr ⟨by omega, by omega⟩) (i1 (q_btF (by decide) (by decide) h (i0 (q_fails (k := 2) (F5.sim hR) (fun M' h => hQ M' (h.pre F5.R))))))
theorem q_sampled_3 (hR : SIMR M G) (hr : RS M s a nx) {Q : Int32 → MEM → Prop} (h : rng p3 0 4) (ha : sH a = false) (hQ : ∀ M', ENDR M G 3 M' → Q 0 M') : wp_X6_sampled 40 (nI s) p2 p3 M Q :=
  ⟨rfl, q_slotT hr.s4 (i1 (q_thF hr ha (e0 (q_thF hr ha (e0 (q_btT (by decide) (by decide) h (i1 (q_thF hr ha (i0 (q_fails (k := 3) hR hQ))))))))))⟩
theorem q_sampled_0 (hR : SIMR M G) (hr : RS M s a nx) {Q : Int32 → MEM → Prop} {i w : Nat} (hi : i < (CH a).length) (hw : w ≤ 4) (ha : sH a = true) (hQ : ∀ M', ENDR M G 0 M' → Q (pt (it a (gd (CH a) i)) w) M') : wp_X6_sampled 40 (nI s) (nI i) (nI w) M Q := by
  have h60 := hr.CH60
  refine ⟨rfl, q_slotT hr.s4 (i1 (q_thT hr ha (e1 (q_finds hr ha (fun M5 S5 F5 => q_thT (F5.rs hr) ha (e1 ?_))))))⟩
  rw [S5.2.1]
  refine q_btT (l := 0) (by decide) (sz_toInt h60) ((rng_of (by omega)).mpr ⟨by omega, by omega⟩) (i1 (q_btN 4 (by decide) (by decide) hw (by omega) (i1 (q_thT (F5.rs hr) ha (i1 (fun M12 e12 => ⟨rfl, nV (by omega) (by decide), ?_⟩))))))
  have S12 := z_sm S5 e12
  rw [nC (by omega), show RF 40 3 = 43 from rfl, S12.2.2.1 i hi]
  exact q_item (z_rs (F5.rs hr) e12) ha (hr.gd hi) (by omega) (hQ M12 ((z_end (k := 0) (F5.sim hR) e12).pre F5.R))
end PR3
