abbrev rmX6_thrown : Room := { frames := 0, cells := 0, slots := 0, locals := 0 }
def wp_X6_thrown (o : Nat) (M : MEM) (Q : Int32 → Prop) : Prop := KD o = (16, 0) ∧ (Q (mI M o 0))
set_option maxRecDepth 100000 in
set_option maxHeartbeats 4000000 in
theorem met_X6_thrown {l : Launch} (hl : l.stackTraces = false) {E : MK} {o : Nat} {M : MEM} {Q : Int32 → Prop} (hw : wp_X6_thrown o M Q) : gMet l E yX6_thrown rmX6_thrown [gR E o] M (qIp M Q) gNo := by
  obtain ⟨hk0, hw⟩ := hw
  refine g_met hl (cc := cX6_thrown) (maxL := 1) (ret := (some .int)) (hh := []) (loc := [(0, gR E o)]) (by decide +kernel) (Or.inl ⟨tw1123, rfl⟩) (Nat.le_of_ble_eq_true rfl) rfl (fun K hK C => ?_)
  have C : GC K E cX6_thrown RX6 1 (some .int) [] rmX6_thrown := C
  refine g_aload_n C dX6_thrown_0 0 rfl rfl ?_
  refine gf_RX6_57 C hk0 dX6_thrown_1 ?_
  exact g_iret C dX6_thrown_4 (Nat.le_of_ble_eq_true rfl) (Nat.le_of_ble_eq_true rfl) ⟨_, rfl, rfl, hw⟩
theorem gc_X6_thrown : ∀ rm : Room, rmX6_thrown.frames + 1 ≤ rm.frames → 8 + (1 + 11) + rmX6_thrown.locals ≤ rm.locals → gCall yX6_thrown 1 0 rmX6_thrown rm := fun rm a b => ⟨Or.inl ⟨_, _, tw1123⟩, tw8, ⟨by decide, by decide⟩, by decide, a, b⟩
abbrev rmX6_fails : Room := { frames := 0, cells := 0, slots := 0, locals := 0 }
def wp_X6_fails (o : Nat) (p1 : Int32) (M : MEM) (Q : Int32 → MEM → Prop) : Prop := KD o = (16, 0) ∧ ((∀ M_1 : MEM, M_1 = uI M o 0 p1 → (Q 0 M_1)))
set_option maxRecDepth 100000 in
set_option maxHeartbeats 4000000 in
theorem met_X6_fails {l : Launch} (hl : l.stackTraces = false) {E : MK} {o : Nat} {p1 : Int32} {M : MEM} {Q : Int32 → MEM → Prop} (hw : wp_X6_fails o p1 M Q) : gMet l E yX6_fails rmX6_fails [gR E o, .int p1] M (qI Q) gNo := by
  obtain ⟨hk0, hw⟩ := hw
  refine g_met hl (cc := cX6_fails) (maxL := 2) (ret := (some .int)) (hh := []) (loc := [(0, gR E o), (1, .int p1)]) (by decide +kernel) (Or.inl ⟨tw1134, rfl⟩) (Nat.le_of_ble_eq_true rfl) rfl (fun K hK C => ?_)
  have C : GC K E cX6_fails RX6 2 (some .int) [] rmX6_fails := C
  refine g_aload_n C dX6_fails_0 0 rfl rfl ?_
  refine g_iload_n C dX6_fails_1 1 rfl rfl ?_
  refine pf_RX6_57 C hk0 dX6_fails_2 ?_
  refine g_nmM (fun M_1 eM_1 => ?_)
  have hw := hw M_1 eM_1
  refine g_iconst C dX6_fails_5 (v := 0) rfl ?_
  exact g_iret C dX6_fails_6 (Nat.le_of_ble_eq_true rfl) (Nat.le_of_ble_eq_true rfl) ⟨_, rfl, hw⟩
theorem gc_X6_fails : ∀ rm : Room, rmX6_fails.frames + 1 ≤ rm.frames → 8 + (2 + 11) + rmX6_fails.locals ≤ rm.locals → gCall yX6_fails 2 1 rmX6_fails rm := fun rm a b => ⟨Or.inl ⟨_, _, tw1134⟩, tw8, ⟨by decide, by decide⟩, by decide, a, b⟩
abbrev rmX6_isBetween : Room := { frames := 0, cells := 0, slots := 0, locals := 0 }
def wp_X6_isBetween (p1 : Int64) (p2 : Int64) (p3 : Int64) (M : MEM) (Q : Int32 → Prop) : Prop := (p1 < p2 → (Q 0)) ∧ (¬ p1 < p2 → ((p3 < p1 → (Q 0)) ∧ (¬ p3 < p1 → (Q 1))))
set_option maxRecDepth 100000 in
set_option maxHeartbeats 4000000 in
theorem met_X6_isBetween {l : Launch} (hl : l.stackTraces = false) {E : MK} {p1 : Int64} {p2 : Int64} {p3 : Int64} {M : MEM} {Q : Int32 → Prop} (hw : wp_X6_isBetween p1 p2 p3 M Q) : gMet l E yX6_isBetween rmX6_isBetween [.long p1, .long p2, .long p3] M (qIp M Q) gNo := by
  refine g_met hl (cc := cX6_isBetween) (maxL := 6) (ret := (some .boolean)) (hh := []) (loc := [(0, .long p1), (2, .long p2), (4, .long p3)]) (by decide +kernel) (Or.inl ⟨tw1141, rfl⟩) (Nat.le_of_ble_eq_true rfl) rfl (fun K hK C => ?_)
  have C : GC K E cX6_isBetween RX6 6 (some .boolean) [] rmX6_isBetween := C
  refine g_lload_n C dX6_isBetween_0 0 rfl rfl ?_
  refine g_lload_n C dX6_isBetween_1 1 rfl rfl ?_
  refine g_lc_lt C dX6_isBetween_2 dX6_isBetween_3 (tgt := 17) (by decide) (fun c3 => ?_) (fun c3 => ?_)
  · have hw := hw.1 c3
    refine g_iconst C dX6_isBetween_17 (v := 0) rfl ?_
    exact g_zret C dX6_isBetween_18 gB0.1 (Nat.le_of_ble_eq_true rfl) (Nat.le_of_ble_eq_true rfl) ⟨_, rfl, rfl, hw⟩
  · have hw := hw.2 c3
    refine g_lload_n C dX6_isBetween_6 0 rfl rfl ?_
    refine g_lload C (j := 0) dX6_isBetween_7 2 rfl ?_
    refine g_lc_gt C dX6_isBetween_9 dX6_isBetween_10 (tgt := 17) (by decide) (fun c10 => ?_) (fun c10 => ?_)
    · have hw := hw.1 c10
      refine g_iconst C dX6_isBetween_17 (v := 0) rfl ?_
      exact g_zret C dX6_isBetween_18 gB0.1 (Nat.le_of_ble_eq_true rfl) (Nat.le_of_ble_eq_true rfl) ⟨_, rfl, rfl, hw⟩
    · have hw := hw.2 c10
      refine g_iconst C dX6_isBetween_13 (v := 1) rfl ?_
      refine g_goto C dX6_isBetween_14 (tgt := 18) (by decide) ?_
      exact g_zret C dX6_isBetween_18 gB1.1 (Nat.le_of_ble_eq_true rfl) (Nat.le_of_ble_eq_true rfl) ⟨_, rfl, rfl, hw⟩
theorem gc_X6_isBetween : ∀ rm : Room, rmX6_isBetween.frames + 1 ≤ rm.frames → 8 + (6 + 11) + rmX6_isBetween.locals ≤ rm.locals → gCall yX6_isBetween 6 3 rmX6_isBetween rm := fun rm a b => ⟨Or.inl ⟨_, _, tw1141⟩, tw8, ⟨by decide, by decide⟩, by decide, a, b⟩
abbrev rmX6_isSlot : Room := { frames := 0, cells := 0, slots := 0, locals := 0 }
def wp_X6_isSlot (p1 : Int32) (M : MEM) (Q : Int32 → Prop) : Prop := (p1 < 0 → (Q 0)) ∧ (¬ p1 < 0 → ((4 ≤ p1 → (Q 0)) ∧ (¬ 4 ≤ p1 → (Q 1))))
set_option maxRecDepth 100000 in
set_option maxHeartbeats 4000000 in
theorem met_X6_isSlot {l : Launch} (hl : l.stackTraces = false) {E : MK} {p1 : Int32} {M : MEM} {Q : Int32 → Prop} (hw : wp_X6_isSlot p1 M Q) : gMet l E yX6_isSlot rmX6_isSlot [.int p1] M (qIp M Q) gNo := by
  refine g_met hl (cc := cX6_isSlot) (maxL := 1) (ret := (some .boolean)) (hh := []) (loc := [(0, .int p1)]) (by decide +kernel) (Or.inl ⟨tw1130, rfl⟩) (Nat.le_of_ble_eq_true rfl) rfl (fun K hK C => ?_)
  have C : GC K E cX6_isSlot RX6 1 (some .boolean) [] rmX6_isSlot := C
  refine g_iload_n C dX6_isSlot_0 0 rfl rfl ?_
  refine g_if_lt C dX6_isSlot_1 (tgt := 13) (by decide) (fun c1 => ?_) (fun c1 => ?_)
  · have hw := hw.1 c1
    refine g_iconst C dX6_isSlot_13 (v := 0) rfl ?_
    exact g_zret C dX6_isSlot_14 gB0.1 (Nat.le_of_ble_eq_true rfl) (Nat.le_of_ble_eq_true rfl) ⟨_, rfl, rfl, hw⟩
  · have hw := hw.2 c1
    refine g_iload_n C dX6_isSlot_4 0 rfl rfl ?_
    refine g_iconst C dX6_isSlot_5 (v := 4) rfl ?_
    refine g_icmp_ge C dX6_isSlot_6 (tgt := 13) (by decide) (fun c6 => ?_) (fun c6 => ?_)
    · have hw := hw.1 c6
      refine g_iconst C dX6_isSlot_13 (v := 0) rfl ?_
      exact g_zret C dX6_isSlot_14 gB0.1 (Nat.le_of_ble_eq_true rfl) (Nat.le_of_ble_eq_true rfl) ⟨_, rfl, rfl, hw⟩
    · have hw := hw.2 c6
      refine g_iconst C dX6_isSlot_9 (v := 1) rfl ?_
      refine g_goto C dX6_isSlot_10 (tgt := 14) (by decide) ?_
      exact g_zret C dX6_isSlot_14 gB1.1 (Nat.le_of_ble_eq_true rfl) (Nat.le_of_ble_eq_true rfl) ⟨_, rfl, rfl, hw⟩
theorem gc_X6_isSlot : ∀ rm : Room, rmX6_isSlot.frames + 1 ≤ rm.frames → 8 + (1 + 11) + rmX6_isSlot.locals ≤ rm.locals → gCall yX6_isSlot 1 1 rmX6_isSlot rm := fun rm a b => ⟨Or.inl ⟨_, _, tw1130⟩, tw8, ⟨by decide, by decide⟩, by decide, a, b⟩
abbrev rmX6_isStratum : Room := { frames := 0, cells := 0, slots := 0, locals := 0 }
def wp_X6_isStratum (p1 : Int32) (M : MEM) (Q : Int32 → Prop) : Prop := (p1 < 0 → (Q 0)) ∧ (¬ p1 < 0 → ((4 ≤ p1 → (Q 0)) ∧ (¬ 4 ≤ p1 → (Q 1))))
set_option maxRecDepth 100000 in
set_option maxHeartbeats 4000000 in
theorem met_X6_isStratum {l : Launch} (hl : l.stackTraces = false) {E : MK} {p1 : Int32} {M : MEM} {Q : Int32 → Prop} (hw : wp_X6_isStratum p1 M Q) : gMet l E yX6_isStratum rmX6_isStratum [.int p1] M (qIp M Q) gNo := by
  refine g_met hl (cc := cX6_isStratum) (maxL := 1) (ret := (some .boolean)) (hh := []) (loc := [(0, .int p1)]) (by decide +kernel) (Or.inl ⟨tw1186, rfl⟩) (Nat.le_of_ble_eq_true rfl) rfl (fun K hK C => ?_)
  have C : GC K E cX6_isStratum RX6 1 (some .boolean) [] rmX6_isStratum := C
  refine g_iload_n C dX6_isStratum_0 0 rfl rfl ?_
  refine g_if_lt C dX6_isStratum_1 (tgt := 13) (by decide) (fun c1 => ?_) (fun c1 => ?_)
  · have hw := hw.1 c1
    refine g_iconst C dX6_isStratum_13 (v := 0) rfl ?_
    exact g_zret C dX6_isStratum_14 gB0.1 (Nat.le_of_ble_eq_true rfl) (Nat.le_of_ble_eq_true rfl) ⟨_, rfl, rfl, hw⟩
  · have hw := hw.2 c1
    refine g_iload_n C dX6_isStratum_4 0 rfl rfl ?_
    refine g_iconst C dX6_isStratum_5 (v := 4) rfl ?_
    refine g_icmp_ge C dX6_isStratum_6 (tgt := 13) (by decide) (fun c6 => ?_) (fun c6 => ?_)
    · have hw := hw.1 c6
      refine g_iconst C dX6_isStratum_13 (v := 0) rfl ?_
      exact g_zret C dX6_isStratum_14 gB0.1 (Nat.le_of_ble_eq_true rfl) (Nat.le_of_ble_eq_true rfl) ⟨_, rfl, rfl, hw⟩
    · have hw := hw.2 c6
      refine g_iconst C dX6_isStratum_9 (v := 1) rfl ?_
      refine g_goto C dX6_isStratum_10 (tgt := 14) (by decide) ?_
      exact g_zret C dX6_isStratum_14 gB1.1 (Nat.le_of_ble_eq_true rfl) (Nat.le_of_ble_eq_true rfl) ⟨_, rfl, rfl, hw⟩
theorem gc_X6_isStratum : ∀ rm : Room, rmX6_isStratum.frames + 1 ≤ rm.frames → 8 + (1 + 11) + rmX6_isStratum.locals ≤ rm.locals → gCall yX6_isStratum 1 1 rmX6_isStratum rm := fun rm a b => ⟨Or.inl ⟨_, _, tw1186⟩, tw8, ⟨by decide, by decide⟩, by decide, a, b⟩
abbrev rmX6_isThere : Room := { frames := 0, cells := 0, slots := 0, locals := 0 }
def wp_X6_isThere (o : Nat) (p1 : Int32) (M : MEM) (Q : Int32 → Prop) : Prop := KD o = (16, 0) ∧ (KD (RF o 1) = (0, 1241) ∧ vp_in (310 * p1) 1241 ∧ ((¬ (mI M (RF o 1) (310 * p1).toNatClampNeg) = 1 → (Q 0)) ∧ ((mI M (RF o 1) (310 * p1).toNatClampNeg) = 1 → (Q 1))))
set_option maxRecDepth 100000 in
set_option maxHeartbeats 4000000 in
theorem met_X6_isThere {l : Launch} (hl : l.stackTraces = false) {E : MK} {o : Nat} {p1 : Int32} {M : MEM} {Q : Int32 → Prop} (hw : wp_X6_isThere o p1 M Q) : gMet l E yX6_isThere rmX6_isThere [gR E o, .int p1] M (qIp M Q) gNo := by
  obtain ⟨hk0, hw⟩ := hw
  refine g_met hl (cc := cX6_isThere) (maxL := 2) (ret := (some .boolean)) (hh := []) (loc := [(0, gR E o), (1, .int p1)]) (by decide +kernel) (Or.inl ⟨tw1155, rfl⟩) (Nat.le_of_ble_eq_true rfl) rfl (fun K hK C => ?_)
  have C : GC K E cX6_isThere RX6 2 (some .boolean) [] rmX6_isThere := C
  refine g_aload_n C dX6_isThere_0 0 rfl rfl ?_
  refine gf_RX6_7 C hk0 dX6_isThere_1 ?_
  refine g_sipush C dX6_isThere_4 (v := 310) rfl ?_
  refine g_iload_n C dX6_isThere_7 1 rfl rfl ?_
  refine g_imul C dX6_isThere_8 ?_
  obtain ⟨hk_1, hw⟩ := hw
  obtain ⟨hi_2, hw⟩ := hw
  refine g_iaload C hk_1 hi_2 dX6_isThere_9 ?_
  refine g_iconst C dX6_isThere_10 (v := 1) rfl ?_
  refine g_icmp_ne C dX6_isThere_11 (tgt := 18) (by decide) (fun c11 => ?_) (fun c11 => ?_)
  · have hw := hw.1 c11
    refine g_iconst C dX6_isThere_18 (v := 0) rfl ?_
    exact g_zret C dX6_isThere_19 gB0.1 (Nat.le_of_ble_eq_true rfl) (Nat.le_of_ble_eq_true rfl) ⟨_, rfl, rfl, hw⟩
  · have hw := hw.2 c11
    refine g_iconst C dX6_isThere_14 (v := 1) rfl ?_
    refine g_goto C dX6_isThere_15 (tgt := 19) (by decide) ?_
    exact g_zret C dX6_isThere_19 gB1.1 (Nat.le_of_ble_eq_true rfl) (Nat.le_of_ble_eq_true rfl) ⟨_, rfl, rfl, hw⟩
theorem gc_X6_isThere : ∀ rm : Room, rmX6_isThere.frames + 1 ≤ rm.frames → 8 + (2 + 11) + rmX6_isThere.locals ≤ rm.locals → gCall yX6_isThere 2 1 rmX6_isThere rm := fun rm a b => ⟨Or.inl ⟨_, _, tw1155⟩, tw8, ⟨by decide, by decide⟩, by decide, a, b⟩
abbrev rmX6_of : Room := { frames := 0, cells := 0, slots := 0, locals := 0 }
def wp_X6_of (o : Nat) (p1 : Int32) (p2 : Int32) (M : MEM) (Q : Int32 → Prop) : Prop := KD o = (16, 0) ∧ (KD (RF o 1) = (0, 1241) ∧ vp_in ((310 * p1) + p2) 1241 ∧ (Q (mI M (RF o 1) ((310 * p1) + p2).toNatClampNeg)))
set_option maxRecDepth 100000 in
set_option maxHeartbeats 4000000 in
theorem met_X6_of {l : Launch} (hl : l.stackTraces = false) {E : MK} {o : Nat} {p1 : Int32} {p2 : Int32} {M : MEM} {Q : Int32 → Prop} (hw : wp_X6_of o p1 p2 M Q) : gMet l E yX6_of rmX6_of [gR E o, .int p1, .int p2] M (qIp M Q) gNo := by
  obtain ⟨hk0, hw⟩ := hw
  refine g_met hl (cc := cX6_of) (maxL := 3) (ret := (some .int)) (hh := []) (loc := [(0, gR E o), (1, .int p1), (2, .int p2)]) (by decide +kernel) (Or.inl ⟨tw1163, rfl⟩) (Nat.le_of_ble_eq_true rfl) rfl (fun K hK C => ?_)
  have C : GC K E cX6_of RX6 3 (some .int) [] rmX6_of := C
  refine g_aload_n C dX6_of_0 0 rfl rfl ?_
  refine gf_RX6_7 C hk0 dX6_of_1 ?_
  refine g_sipush C dX6_of_4 (v := 310) rfl ?_
  refine g_iload_n C dX6_of_7 1 rfl rfl ?_
  refine g_imul C dX6_of_8 ?_
  refine g_iload_n C dX6_of_9 2 rfl rfl ?_
  refine g_iadd C dX6_of_10 ?_
  obtain ⟨hk_1, hw⟩ := hw
  obtain ⟨hi_2, hw⟩ := hw
  refine g_iaload C hk_1 hi_2 dX6_of_11 ?_
  exact g_iret C dX6_of_12 (Nat.le_of_ble_eq_true rfl) (Nat.le_of_ble_eq_true rfl) ⟨_, rfl, rfl, hw⟩
theorem gc_X6_of : ∀ rm : Room, rmX6_of.frames + 1 ≤ rm.frames → 8 + (3 + 11) + rmX6_of.locals ≤ rm.locals → gCall yX6_of 3 2 rmX6_of rm := fun rm a b => ⟨Or.inl ⟨_, _, tw1163⟩, tw8, ⟨by decide, by decide⟩, by decide, a, b⟩
abbrev rmX6_sets : Room := { frames := 0, cells := 0, slots := 0, locals := 0 }
def wp_X6_sets (o : Nat) (p1 : Int32) (p2 : Int32) (p3 : Int32) (M : MEM) (Q : MEM → Prop) : Prop := KD o = (16, 0) ∧ ((KD (RF o 1) = (0, 1241) ∧ (vp_in ((310 * p1) + p2) 1241 ∧ (∀ M_3 : MEM, M_3 = uI M (RF o 1) ((310 * p1) + p2).toNatClampNeg p3 → (Q M_3)))))
set_option maxRecDepth 100000 in
set_option maxHeartbeats 4000000 in
theorem met_X6_sets {l : Launch} (hl : l.stackTraces = false) {E : MK} {o : Nat} {p1 : Int32} {p2 : Int32} {p3 : Int32} {M : MEM} {Q : MEM → Prop} (hw : wp_X6_sets o p1 p2 p3 M Q) : gMet l E yX6_sets rmX6_sets [gR E o, .int p1, .int p2, .int p3] M (qV Q) gNo := by
  obtain ⟨hk0, hw⟩ := hw
  refine g_met hl (cc := cX6_sets) (maxL := 4) (ret := none) (hh := []) (loc := [(0, gR E o), (1, .int p1), (2, .int p2), (3, .int p3)]) (by decide +kernel) (Or.inl ⟨tw1171, rfl⟩) (Nat.le_of_ble_eq_true rfl) rfl (fun K hK C => ?_)
  have C : GC K E cX6_sets RX6 4 none [] rmX6_sets := C
  refine g_aload_n C dX6_sets_0 0 rfl rfl ?_
  refine gf_RX6_7 C hk0 dX6_sets_1 ?_
  refine g_sipush C dX6_sets_4 (v := 310) rfl ?_
  refine g_iload_n C dX6_sets_7 1 rfl rfl ?_
  refine g_imul C dX6_sets_8 ?_
  refine g_iload_n C dX6_sets_9 2 rfl rfl ?_
  refine g_iadd C dX6_sets_10 ?_
  refine g_iload_n C dX6_sets_11 3 rfl rfl ?_
  obtain ⟨hk_1, hw⟩ := hw
  obtain ⟨hi_2, hw⟩ := hw
  refine g_iastore C hk_1 hi_2 dX6_sets_12 ?_
  refine g_nmM (fun M_3 eM_3 => ?_)
  have hw := hw M_3 eM_3
  exact g_vret C dX6_sets_13 (Nat.le_of_ble_eq_true rfl) (Nat.le_of_ble_eq_true rfl) ⟨rfl, hw⟩
theorem gc_X6_sets : ∀ rm : Room, rmX6_sets.frames + 1 ≤ rm.frames → 8 + (4 + 11) + rmX6_sets.locals ≤ rm.locals → gCall yX6_sets 4 3 rmX6_sets rm := fun rm a b => ⟨Or.inl ⟨_, _, tw1171⟩, tw8, ⟨by decide, by decide⟩, by decide, a, b⟩
abbrev rmX6_many : Room := { frames := 1, cells := 0, slots := 0, locals := 22 }
def wp_X6_many (o : Nat) (p1 : Int32) (M : MEM) (Q : Int32 → Prop) : Prop := KD o = (16, 0) ∧ (wp_X6_of o p1 9 M (fun r_1 => Q r_1))
set_option maxRecDepth 100000 in
set_option maxHeartbeats 4000000 in
theorem met_X6_many {l : Launch} (hl : l.stackTraces = false) {E : MK} {o : Nat} {p1 : Int32} {M : MEM} {Q : Int32 → Prop} (hw : wp_X6_many o p1 M Q) : gMet l E yX6_many rmX6_many [gR E o, .int p1] M (qIp M Q) gNo := by
  obtain ⟨hk0, hw⟩ := hw
  refine g_met hl (cc := cX6_many) (maxL := 2) (ret := (some .int)) (hh := []) (loc := [(0, gR E o), (1, .int p1)]) (by decide +kernel) (Or.inl ⟨tw1159, rfl⟩) (Nat.le_of_ble_eq_true rfl) rfl (fun K hK C => ?_)
  have C : GC K E cX6_many RX6 2 (some .int) [] rmX6_many := C
  refine g_aload_n C dX6_many_0 0 rfl rfl ?_
  refine g_iload_n C dX6_many_1 1 rfl rfl ?_
  refine g_bipush C dX6_many_2 (v := 9) rfl ?_
  refine g_cV C dX6_many_4 (met_X6_of C.st hw) (gc_X6_of _ (Nat.le_of_ble_eq_true rfl) (Nat.le_of_ble_eq_true rfl)) tw1160 tw1162 twp33 (ci := 6) rfl (by decide) hk0 rfl (Nat.le_of_ble_eq_true rfl) (c2 := 0) (s2 := 0) rfl rfl (Nat.le_of_ble_eq_true rfl) (Nat.le_of_ble_eq_true rfl) rfl (kIp (fun r_1 hw => ?_)) tNo
  exact g_iret C dX6_many_7 (Nat.le_of_ble_eq_true rfl) (Nat.le_of_ble_eq_true rfl) ⟨_, rfl, rfl, hw⟩
theorem gc_X6_many : ∀ rm : Room, rmX6_many.frames + 1 ≤ rm.frames → 8 + (2 + 11) + rmX6_many.locals ≤ rm.locals → gCall yX6_many 2 1 rmX6_many rm := fun rm a b => ⟨Or.inl ⟨_, _, tw1159⟩, tw8, ⟨by decide, by decide⟩, by decide, a, b⟩
abbrev rmX6_item : Room := { frames := 0, cells := 0, slots := 0, locals := 0 }
def wp_X6_item (o : Nat) (p1 : Int32) (p2 : Int32) (p3 : Int32) (M : MEM) (Q : Int32 → Prop) : Prop := KD o = (16, 0) ∧ (KD (RF o 1) = (0, 1241) ∧ vp_in ((((310 * p1) + 10) + (5 * p2)) + p3) 1241 ∧ (Q (mI M (RF o 1) ((((310 * p1) + 10) + (5 * p2)) + p3).toNatClampNeg)))
set_option maxRecDepth 100000 in
set_option maxHeartbeats 4000000 in
theorem met_X6_item {l : Launch} (hl : l.stackTraces = false) {E : MK} {o : Nat} {p1 : Int32} {p2 : Int32} {p3 : Int32} {M : MEM} {Q : Int32 → Prop} (hw : wp_X6_item o p1 p2 p3 M Q) : gMet l E yX6_item rmX6_item [gR E o, .int p1, .int p2, .int p3] M (qIp M Q) gNo := by
  obtain ⟨hk0, hw⟩ := hw
  refine g_met hl (cc := cX6_item) (maxL := 4) (ret := (some .int)) (hh := []) (loc := [(0, gR E o), (1, .int p1), (2, .int p2), (3, .int p3)]) (by decide +kernel) (Or.inl ⟨tw1200, rfl⟩) (Nat.le_of_ble_eq_true rfl) rfl (fun K hK C => ?_)
  have C : GC K E cX6_item RX6 4 (some .int) [] rmX6_item := C
  refine g_aload_n C dX6_item_0 0 rfl rfl ?_
  refine gf_RX6_7 C hk0 dX6_item_1 ?_
  refine g_sipush C dX6_item_4 (v := 310) rfl ?_
  refine g_iload_n C dX6_item_7 1 rfl rfl ?_
  refine g_imul C dX6_item_8 ?_
  refine g_bipush C dX6_item_9 (v := 10) rfl ?_
  refine g_iadd C dX6_item_11 ?_
  refine g_iconst C dX6_item_12 (v := 5) rfl ?_
  refine g_iload_n C dX6_item_13 2 rfl rfl ?_
  refine g_imul C dX6_item_14 ?_
  refine g_iadd C dX6_item_15 ?_
  refine g_iload_n C dX6_item_16 3 rfl rfl ?_
  refine g_iadd C dX6_item_17 ?_
  obtain ⟨hk_1, hw⟩ := hw
  obtain ⟨hi_2, hw⟩ := hw
  refine g_iaload C hk_1 hi_2 dX6_item_18 ?_
  exact g_iret C dX6_item_19 (Nat.le_of_ble_eq_true rfl) (Nat.le_of_ble_eq_true rfl) ⟨_, rfl, rfl, hw⟩
theorem gc_X6_item : ∀ rm : Room, rmX6_item.frames + 1 ≤ rm.frames → 8 + (4 + 11) + rmX6_item.locals ≤ rm.locals → gCall yX6_item 4 3 rmX6_item rm := fun rm a b => ⟨Or.inl ⟨_, _, tw1200⟩, tw8, ⟨by decide, by decide⟩, by decide, a, b⟩
abbrev rmX6_setsItem : Room := { frames := 0, cells := 0, slots := 0, locals := 0 }
def wp_X6_setsItem (o : Nat) (p1 : Int32) (p2 : Int32) (p3 : Int32) (p4 : Int32) (p5 : Int32) (p6 : Int32) (p7 : Int32) (M : MEM) (Q : MEM → Prop) : Prop := KD o = (16, 0) ∧ (∀ x8_1 : Int32, x8_1 = ((310 * p1) + 10) + (5 * p2) → ((KD (RF o 1) = (0, 1241) ∧ (vp_in x8_1 1241 ∧ (∀ M_4 : MEM, M_4 = uI M (RF o 1) x8_1.toNatClampNeg p3 → ((vp_in (x8_1 + 1) 1241 ∧ (∀ M_6 : MEM, M_6 = uI M_4 (RF o 1) (x8_1 + 1).toNatClampNeg p4 → ((vp_in (x8_1 + 2) 1241 ∧ (∀ M_8 : MEM, M_8 = uI M_6 (RF o 1) (x8_1 + 2).toNatClampNeg p5 → ((vp_in (x8_1 + 3) 1241 ∧ (∀ M_10 : MEM, M_10 = uI M_8 (RF o 1) (x8_1 + 3).toNatClampNeg p6 → ((vp_in (x8_1 + 4) 1241 ∧ (∀ M_12 : MEM, M_12 = uI M_10 (RF o 1) (x8_1 + 4).toNatClampNeg p7 → (Q M_12))))))))))))))))))
set_option maxRecDepth 100000 in
set_option maxHeartbeats 4000000 in
theorem met_X6_setsItem {l : Launch} (hl : l.stackTraces = false) {E : MK} {o : Nat} {p1 : Int32} {p2 : Int32} {p3 : Int32} {p4 : Int32} {p5 : Int32} {p6 : Int32} {p7 : Int32} {M : MEM} {Q : MEM → Prop} (hw : wp_X6_setsItem o p1 p2 p3 p4 p5 p6 p7 M Q) : gMet l E yX6_setsItem rmX6_setsItem [gR E o, .int p1, .int p2, .int p3, .int p4, .int p5, .int p6, .int p7] M (qV Q) gNo := by
  obtain ⟨hk0, hw⟩ := hw
  refine g_met hl (cc := cX6_setsItem) (maxL := 9) (ret := none) (hh := []) (loc := [(0, gR E o), (1, .int p1), (2, .int p2), (3, .int p3), (4, .int p4), (5, .int p5), (6, .int p6), (7, .int p7)]) (by decide +kernel) (Or.inl ⟨tw1204, rfl⟩) (Nat.le_of_ble_eq_true rfl) rfl (fun K hK C => ?_)
  have C : GC K E cX6_setsItem RX6 9 none [] rmX6_setsItem := C
  refine g_sipush C dX6_setsItem_0 (v := 310) rfl ?_
  refine g_iload_n C dX6_setsItem_3 1 rfl rfl ?_
  refine g_imul C dX6_setsItem_4 ?_
  refine g_bipush C dX6_setsItem_5 (v := 10) rfl ?_
  refine g_iadd C dX6_setsItem_7 ?_
  refine g_iconst C dX6_setsItem_8 (v := 5) rfl ?_
  refine g_iload_n C dX6_setsItem_9 2 rfl rfl ?_
  refine g_imul C dX6_setsItem_10 ?_
  refine g_iadd C dX6_setsItem_11 ?_
  refine g_nmI (fun x8_1 ex8_1 => ?_)
  have hw := hw x8_1 ex8_1
  refine g_istore C dX6_setsItem_12 (Nat.le_of_ble_eq_true rfl) (loc' := [(8, .int x8_1), (0, gR E o), (1, .int p1), (2, .int p2), (3, .int p3), (4, .int p4), (5, .int p5), (6, .int p6), (7, .int p7)]) rfl ?_
  refine g_aload_n C dX6_setsItem_14 1 rfl rfl ?_
  refine gf_RX6_7 C hk0 dX6_setsItem_15 ?_
  refine g_iload C (j := 0) dX6_setsItem_18 0 rfl ?_
  refine g_iload_n C dX6_setsItem_20 4 rfl rfl ?_
  obtain ⟨hk_2, hw⟩ := hw
  obtain ⟨hi_3, hw⟩ := hw
  refine g_iastore C hk_2 hi_3 dX6_setsItem_21 ?_
  refine g_nmM (fun M_4 eM_4 => ?_)
  have hw := hw M_4 eM_4
  refine g_aload_n C dX6_setsItem_22 1 rfl rfl ?_
  refine gf_RX6_7 C hk0 dX6_setsItem_23 ?_
  refine g_iload C (j := 0) dX6_setsItem_26 0 rfl ?_
  refine g_iconst C dX6_setsItem_28 (v := 1) rfl ?_
  refine g_iadd C dX6_setsItem_29 ?_
  refine g_iload C (j := 0) dX6_setsItem_30 5 rfl ?_
  obtain ⟨hi_5, hw⟩ := hw
  refine g_iastore C hk_2 hi_5 dX6_setsItem_32 ?_
  refine g_nmM (fun M_6 eM_6 => ?_)
  have hw := hw M_6 eM_6
  refine g_aload_n C dX6_setsItem_33 1 rfl rfl ?_
  refine gf_RX6_7 C hk0 dX6_setsItem_34 ?_
  refine g_iload C (j := 0) dX6_setsItem_37 0 rfl ?_
  refine g_iconst C dX6_setsItem_39 (v := 2) rfl ?_
  refine g_iadd C dX6_setsItem_40 ?_
  refine g_iload C (j := 0) dX6_setsItem_41 6 rfl ?_
  obtain ⟨hi_7, hw⟩ := hw
  refine g_iastore C hk_2 hi_7 dX6_setsItem_43 ?_
  refine g_nmM (fun M_8 eM_8 => ?_)
  have hw := hw M_8 eM_8
  refine g_aload_n C dX6_setsItem_44 1 rfl rfl ?_
  refine gf_RX6_7 C hk0 dX6_setsItem_45 ?_
  refine g_iload C (j := 0) dX6_setsItem_48 0 rfl ?_
  refine g_iconst C dX6_setsItem_50 (v := 3) rfl ?_
  refine g_iadd C dX6_setsItem_51 ?_
  refine g_iload C (j := 0) dX6_setsItem_52 7 rfl ?_
  obtain ⟨hi_9, hw⟩ := hw
  refine g_iastore C hk_2 hi_9 dX6_setsItem_54 ?_
  refine g_nmM (fun M_10 eM_10 => ?_)
  have hw := hw M_10 eM_10
  refine g_aload_n C dX6_setsItem_55 1 rfl rfl ?_
  refine gf_RX6_7 C hk0 dX6_setsItem_56 ?_
  refine g_iload C (j := 0) dX6_setsItem_59 0 rfl ?_
  refine g_iconst C dX6_setsItem_61 (v := 4) rfl ?_
  refine g_iadd C dX6_setsItem_62 ?_
  refine g_iload C (j := 0) dX6_setsItem_63 8 rfl ?_
  obtain ⟨hi_11, hw⟩ := hw
  refine g_iastore C hk_2 hi_11 dX6_setsItem_65 ?_
  refine g_nmM (fun M_12 eM_12 => ?_)
  have hw := hw M_12 eM_12
  exact g_vret C dX6_setsItem_66 (Nat.le_of_ble_eq_true rfl) (Nat.le_of_ble_eq_true rfl) ⟨rfl, hw⟩
theorem gc_X6_setsItem : ∀ rm : Room, rmX6_setsItem.frames + 1 ≤ rm.frames → 8 + (9 + 11) + rmX6_setsItem.locals ≤ rm.locals → gCall yX6_setsItem 9 7 rmX6_setsItem rm := fun rm a b => ⟨Or.inl ⟨_, _, tw1204⟩, tw8, ⟨by decide, by decide⟩, by decide, a, b⟩
abbrev rmX6_isItem : Room := { frames := 1, cells := 0, slots := 0, locals := 25 }
def wp_X6_isItem (p1 : Int32) (p2 : Int32) (p3 : Int32) (p4 : Int32) (M : MEM) (Q : Int32 → Prop) : Prop := wp_X6_isBetween p1.toInt64 0 99 M (fun r_1 => (r_1 = 0 → (Q 0)) ∧ (¬ r_1 = 0 → (wp_X6_isStratum p2 M (fun r_3 => (r_3 = 0 → (Q 0)) ∧ (¬ r_3 = 0 → (wp_X6_isBetween p3.toInt64 1 99 M (fun r_5 => (r_5 = 0 → (Q 0)) ∧ (¬ r_5 = 0 → (wp_X6_isBetween p4.toInt64 (-999) 999 M (fun r_7 => (r_7 = 0 → (Q 0)) ∧ (¬ r_7 = 0 → (Q 1))))))))))))
set_option maxRecDepth 100000 in
set_option maxHeartbeats 4000000 in
theorem met_X6_isItem {l : Launch} (hl : l.stackTraces = false) {E : MK} {p1 : Int32} {p2 : Int32} {p3 : Int32} {p4 : Int32} {M : MEM} {Q : Int32 → Prop} (hw : wp_X6_isItem p1 p2 p3 p4 M Q) : gMet l E yX6_isItem rmX6_isItem [.int p1, .int p2, .int p3, .int p4] M (qIp M Q) gNo := by
  refine g_met hl (cc := cX6_isItem) (maxL := 4) (ret := (some .boolean)) (hh := []) (loc := [(0, .int p1), (1, .int p2), (2, .int p3), (3, .int p4)]) (by decide +kernel) (Or.inl ⟨tw1182, rfl⟩) (Nat.le_of_ble_eq_true rfl) rfl (fun K hK C => ?_)
  have C : GC K E cX6_isItem RX6 4 (some .boolean) [] rmX6_isItem := C
  refine g_iload_n C dX6_isItem_0 0 rfl rfl ?_
  refine g_i2l C dX6_isItem_1 ?_
  refine g_lconst C dX6_isItem_2 (v := 0) rfl ?_
  refine g_ldc2 C dX6_isItem_3 tw1183 ?_
  refine g_cS C dX6_isItem_6 (met_X6_isBetween C.st hw) (gc_X6_isBetween _ (Nat.le_of_ble_eq_true rfl) (Nat.le_of_ble_eq_true rfl)) (Or.inl tw1139) tw1140 rfl (Nat.le_of_ble_eq_true rfl) (c2 := 0) (s2 := 0) rfl rfl (Nat.le_of_ble_eq_true rfl) (Nat.le_of_ble_eq_true rfl) rfl (kIp (fun r_1 hw => ?_)) tNo
  refine g_if_eq C dX6_isItem_9 (tgt := 49) (by decide) (fun c9 => ?_) (fun c9 => ?_)
  · have hw := hw.1 c9
    refine g_iconst C dX6_isItem_49 (v := 0) rfl ?_
    exact g_zret C dX6_isItem_50 gB0.1 (Nat.le_of_ble_eq_true rfl) (Nat.le_of_ble_eq_true rfl) ⟨_, rfl, rfl, hw⟩
  · have hw := hw.2 c9
    refine g_iload_n C dX6_isItem_12 1 rfl rfl ?_
    refine g_cS C dX6_isItem_13 (met_X6_isStratum C.st hw) (gc_X6_isStratum _ (Nat.le_of_ble_eq_true rfl) (Nat.le_of_ble_eq_true rfl)) (Or.inl tw1184) tw1185 rfl (Nat.le_of_ble_eq_true rfl) (c2 := 0) (s2 := 0) rfl rfl (Nat.le_of_ble_eq_true rfl) (Nat.le_of_ble_eq_true rfl) rfl (kIp (fun r_3 hw => ?_)) tNo
    refine g_if_eq C dX6_isItem_16 (tgt := 49) (by decide) (fun c16 => ?_) (fun c16 => ?_)
    · have hw := hw.1 c16
      refine g_iconst C dX6_isItem_49 (v := 0) rfl ?_
      exact g_zret C dX6_isItem_50 gB0.1 (Nat.le_of_ble_eq_true rfl) (Nat.le_of_ble_eq_true rfl) ⟨_, rfl, rfl, hw⟩
    · have hw := hw.2 c16
      refine g_iload_n C dX6_isItem_19 2 rfl rfl ?_
      refine g_i2l C dX6_isItem_20 ?_
      refine g_lconst C dX6_isItem_21 (v := 1) rfl ?_
      refine g_ldc2 C dX6_isItem_22 tw1183 ?_
      refine g_cS C dX6_isItem_25 (met_X6_isBetween C.st hw) (gc_X6_isBetween _ (Nat.le_of_ble_eq_true rfl) (Nat.le_of_ble_eq_true rfl)) (Or.inl tw1139) tw1140 rfl (Nat.le_of_ble_eq_true rfl) (c2 := 0) (s2 := 0) rfl rfl (Nat.le_of_ble_eq_true rfl) (Nat.le_of_ble_eq_true rfl) rfl (kIp (fun r_5 hw => ?_)) tNo
      refine g_if_eq C dX6_isItem_28 (tgt := 49) (by decide) (fun c28 => ?_) (fun c28 => ?_)
      · have hw := hw.1 c28
        refine g_iconst C dX6_isItem_49 (v := 0) rfl ?_
        exact g_zret C dX6_isItem_50 gB0.1 (Nat.le_of_ble_eq_true rfl) (Nat.le_of_ble_eq_true rfl) ⟨_, rfl, rfl, hw⟩
      · have hw := hw.2 c28
        refine g_iload_n C dX6_isItem_31 3 rfl rfl ?_
        refine g_i2l C dX6_isItem_32 ?_
        refine g_ldc2 C dX6_isItem_33 tw1187 ?_
        refine g_ldc2 C dX6_isItem_36 tw1188 ?_
        refine g_cS C dX6_isItem_39 (met_X6_isBetween C.st hw) (gc_X6_isBetween _ (Nat.le_of_ble_eq_true rfl) (Nat.le_of_ble_eq_true rfl)) (Or.inl tw1139) tw1140 rfl (Nat.le_of_ble_eq_true rfl) (c2 := 0) (s2 := 0) rfl rfl (Nat.le_of_ble_eq_true rfl) (Nat.le_of_ble_eq_true rfl) rfl (kIp (fun r_7 hw => ?_)) tNo
        refine g_if_eq C dX6_isItem_42 (tgt := 49) (by decide) (fun c42 => ?_) (fun c42 => ?_)
        · have hw := hw.1 c42
          refine g_iconst C dX6_isItem_49 (v := 0) rfl ?_
          exact g_zret C dX6_isItem_50 gB0.1 (Nat.le_of_ble_eq_true rfl) (Nat.le_of_ble_eq_true rfl) ⟨_, rfl, rfl, hw⟩
        · have hw := hw.2 c42
          refine g_iconst C dX6_isItem_45 (v := 1) rfl ?_
          refine g_goto C dX6_isItem_46 (tgt := 50) (by decide) ?_
          exact g_zret C dX6_isItem_50 gB1.1 (Nat.le_of_ble_eq_true rfl) (Nat.le_of_ble_eq_true rfl) ⟨_, rfl, rfl, hw⟩
theorem gc_X6_isItem : ∀ rm : Room, rmX6_isItem.frames + 1 ≤ rm.frames → 8 + (4 + 11) + rmX6_isItem.locals ≤ rm.locals → gCall yX6_isItem 4 4 rmX6_isItem rm := fun rm a b => ⟨Or.inl ⟨_, _, tw1182⟩, tw8, ⟨by decide, by decide⟩, by decide, a, b⟩
abbrev rmX6_begins : Room := { frames := 1, cells := 0, slots := 0, locals := 23 }
def wp_X6_begins_L40 (o : Nat) (p1 : Int32) (p3 : Int32) (Q : MEM → Prop) : Nat → Int32 → MEM → Prop
  | 0, _, _ => False
  | n40 + 1, x6_11, M_12 => (4 ≤ x6_11 → (wp_X6_sets o p1 9 0 M_12 (fun M_14 => Q M_14))) ∧ (¬ 4 ≤ x6_11 → (wp_X6_sets o p1 (5 + x6_11) p3 M_12 (fun M_16 => ∀ x6_17 : Int32, x6_17 = x6_11 + 1 → ((wp_X6_begins_L40 o p1 p3 Q n40) x6_17 M_16))))
def wp_X6_begins (o : Nat) (p1 : Int32) (p2 : Int32) (p3 : Int32) (p4 : Int32) (p5 : Int32) (M : MEM) (Q : MEM → Prop) : Prop := KD o = (16, 0) ∧ (wp_X6_sets o p1 0 1 M (fun M_2 => wp_X6_sets o p1 1 p2 M_2 (fun M_4 => wp_X6_sets o p1 2 p3 M_4 (fun M_6 => wp_X6_sets o p1 3 p4 M_6 (fun M_8 => wp_X6_sets o p1 4 p5 M_8 (fun M_10 => ∃ m40 : Nat, wp_X6_begins_L40 o p1 p3 Q m40 0 M_10))))))
set_option maxRecDepth 100000 in
set_option maxHeartbeats 4000000 in
theorem met_X6_begins {l : Launch} (hl : l.stackTraces = false) {E : MK} {o : Nat} {p1 : Int32} {p2 : Int32} {p3 : Int32} {p4 : Int32} {p5 : Int32} {M : MEM} {Q : MEM → Prop} (hw : wp_X6_begins o p1 p2 p3 p4 p5 M Q) : gMet l E yX6_begins rmX6_begins [gR E o, .int p1, .int p2, .int p3, .int p4, .int p5] M (qV Q) gNo := by
  obtain ⟨hk0, hw⟩ := hw
  refine g_met hl (cc := cX6_begins) (maxL := 7) (ret := none) (hh := []) (loc := [(0, gR E o), (1, .int p1), (2, .int p2), (3, .int p3), (4, .int p4), (5, .int p5)]) (by decide +kernel) (Or.inl ⟨tw1167, rfl⟩) (Nat.le_of_ble_eq_true rfl) rfl (fun K hK C => ?_)
  have C : GC K E cX6_begins RX6 7 none [] rmX6_begins := C
  refine g_aload_n C dX6_begins_0 0 rfl rfl ?_
  refine g_iload_n C dX6_begins_1 1 rfl rfl ?_
  refine g_iconst C dX6_begins_2 (v := 0) rfl ?_
  refine g_iconst C dX6_begins_3 (v := 1) rfl ?_
  refine g_cV C dX6_begins_4 (met_X6_sets C.st hw) (gc_X6_sets _ (Nat.le_of_ble_eq_true rfl) (Nat.le_of_ble_eq_true rfl)) tw1168 tw1170 twp35 (ci := 6) rfl (by decide) hk0 rfl (Nat.le_of_ble_eq_true rfl) (c2 := 0) (s2 := 0) rfl rfl (Nat.le_of_ble_eq_true rfl) (Nat.le_of_ble_eq_true rfl) rfl (kV (fun M_2 hw => ?_)) tNo
  refine g_aload_n C dX6_begins_7 0 rfl rfl ?_
  refine g_iload_n C dX6_begins_8 1 rfl rfl ?_
  refine g_iconst C dX6_begins_9 (v := 1) rfl ?_
  refine g_iload_n C dX6_begins_10 2 rfl rfl ?_
  refine g_cV C dX6_begins_11 (met_X6_sets C.st hw) (gc_X6_sets _ (Nat.le_of_ble_eq_true rfl) (Nat.le_of_ble_eq_true rfl)) tw1168 tw1170 twp35 (ci := 6) rfl (by decide) hk0 rfl (Nat.le_of_ble_eq_true rfl) (c2 := 0) (s2 := 0) rfl rfl (Nat.le_of_ble_eq_true rfl) (Nat.le_of_ble_eq_true rfl) rfl (kV (fun M_4 hw => ?_)) tNo
  refine g_aload_n C dX6_begins_14 0 rfl rfl ?_
  refine g_iload_n C dX6_begins_15 1 rfl rfl ?_
  refine g_iconst C dX6_begins_16 (v := 2) rfl ?_
  refine g_iload_n C dX6_begins_17 3 rfl rfl ?_
  refine g_cV C dX6_begins_18 (met_X6_sets C.st hw) (gc_X6_sets _ (Nat.le_of_ble_eq_true rfl) (Nat.le_of_ble_eq_true rfl)) tw1168 tw1170 twp35 (ci := 6) rfl (by decide) hk0 rfl (Nat.le_of_ble_eq_true rfl) (c2 := 0) (s2 := 0) rfl rfl (Nat.le_of_ble_eq_true rfl) (Nat.le_of_ble_eq_true rfl) rfl (kV (fun M_6 hw => ?_)) tNo
  refine g_aload_n C dX6_begins_21 0 rfl rfl ?_
  refine g_iload_n C dX6_begins_22 1 rfl rfl ?_
  refine g_iconst C dX6_begins_23 (v := 3) rfl ?_
  refine g_iload C (j := 0) dX6_begins_24 4 rfl ?_
  refine g_cV C dX6_begins_26 (met_X6_sets C.st hw) (gc_X6_sets _ (Nat.le_of_ble_eq_true rfl) (Nat.le_of_ble_eq_true rfl)) tw1168 tw1170 twp35 (ci := 6) rfl (by decide) hk0 rfl (Nat.le_of_ble_eq_true rfl) (c2 := 0) (s2 := 0) rfl rfl (Nat.le_of_ble_eq_true rfl) (Nat.le_of_ble_eq_true rfl) rfl (kV (fun M_8 hw => ?_)) tNo
  refine g_aload_n C dX6_begins_29 0 rfl rfl ?_
  refine g_iload_n C dX6_begins_30 1 rfl rfl ?_
  refine g_iconst C dX6_begins_31 (v := 4) rfl ?_
  refine g_iload C (j := 0) dX6_begins_32 5 rfl ?_
  refine g_cV C dX6_begins_34 (met_X6_sets C.st hw) (gc_X6_sets _ (Nat.le_of_ble_eq_true rfl) (Nat.le_of_ble_eq_true rfl)) tw1168 tw1170 twp35 (ci := 6) rfl (by decide) hk0 rfl (Nat.le_of_ble_eq_true rfl) (c2 := 0) (s2 := 0) rfl rfl (Nat.le_of_ble_eq_true rfl) (Nat.le_of_ble_eq_true rfl) rfl (kV (fun M_10 hw => ?_)) tNo
  refine g_iconst C dX6_begins_37 (v := 0) rfl ?_
  refine g_istore C dX6_begins_38 (Nat.le_of_ble_eq_true rfl) (loc' := [(6, .int 0), (0, gR E o), (1, .int p1), (2, .int p2), (3, .int p3), (4, .int p4), (5, .int p5)]) rfl ?_
  obtain ⟨m40, hw⟩ := hw
  have hL40 : ∀ (n40 : Nat) (x6_11 : Int32) (M_12 : MEM), wp_X6_begins_L40 o p1 p3 Q n40 x6_11 M_12 → GX K E 7 M_12 [(0, gR E o), (1, .int p1), (3, .int p3), (6, .int x6_11)] [] 40 0 0 (gEnd K E (qV Q) gNo rmX6_begins.cells rmX6_begins.slots) := by
    intro n40
    induction n40 with
    | zero => intro _ _ hw; exact False.elim hw
    | succ n40 ih40 =>
      intro x6_11 M_12 hw
      refine g_iload C (j := 0) dX6_begins_40 3 rfl ?_
      refine g_iconst C dX6_begins_42 (v := 4) rfl ?_
      refine g_icmp_ge C dX6_begins_43 (tgt := 62) (by decide) (fun c43 => ?_) (fun c43 => ?_)
      · have hw := hw.1 c43
        refine g_aload_n C dX6_begins_62 0 rfl rfl ?_
        refine g_iload_n C dX6_begins_63 1 rfl rfl ?_
        refine g_bipush C dX6_begins_64 (v := 9) rfl ?_
        refine g_iconst C dX6_begins_66 (v := 0) rfl ?_
        refine g_cV C dX6_begins_67 (met_X6_sets C.st hw) (gc_X6_sets _ (Nat.le_of_ble_eq_true rfl) (Nat.le_of_ble_eq_true rfl)) tw1168 tw1170 twp35 (ci := 6) rfl (by decide) hk0 rfl (Nat.le_of_ble_eq_true rfl) (c2 := 0) (s2 := 0) rfl rfl (Nat.le_of_ble_eq_true rfl) (Nat.le_of_ble_eq_true rfl) rfl (kV (fun M_14 hw => ?_)) tNo
        exact g_vret C dX6_begins_70 (Nat.le_of_ble_eq_true rfl) (Nat.le_of_ble_eq_true rfl) ⟨rfl, hw⟩
      · have hw := hw.2 c43
        refine g_aload_n C dX6_begins_46 0 rfl rfl ?_
        refine g_iload_n C dX6_begins_47 1 rfl rfl ?_
        refine g_iconst C dX6_begins_48 (v := 5) rfl ?_
        refine g_iload C (j := 0) dX6_begins_49 3 rfl ?_
        refine g_iadd C dX6_begins_51 ?_
        refine g_iload_n C dX6_begins_52 2 rfl rfl ?_
        refine g_cV C dX6_begins_53 (met_X6_sets C.st hw) (gc_X6_sets _ (Nat.le_of_ble_eq_true rfl) (Nat.le_of_ble_eq_true rfl)) tw1168 tw1170 twp35 (ci := 6) rfl (by decide) hk0 rfl (Nat.le_of_ble_eq_true rfl) (c2 := 0) (s2 := 0) rfl rfl (Nat.le_of_ble_eq_true rfl) (Nat.le_of_ble_eq_true rfl) rfl (kV (fun M_16 hw => ?_)) tNo
        obtain ⟨x6_17, ex6_17⟩ : ∃ y : Int32, y = x6_11 + 1 := ⟨_, rfl⟩
        have hw := hw x6_17 ex6_17
        refine g_iinc C (j := 0) dX6_begins_56 3 rfl (v := x6_17) (by rw [ex6_17]; rfl) (Nat.le_of_ble_eq_true rfl) (loc' := [(6, .int x6_17), (0, gR E o), (1, .int p1), (3, .int p3)]) rfl ?_
        refine g_goto C dX6_begins_59 (tgt := 40) (by decide) ?_
        refine g_sub [1, 2, 3, 0] rfl ?_
        exact ih40 _ _ hw
  refine g_sub [1, 2, 4, 0] rfl ?_
  exact hL40 m40 _ _ hw
theorem gc_X6_begins : ∀ rm : Room, rmX6_begins.frames + 1 ≤ rm.frames → 8 + (7 + 11) + rmX6_begins.locals ≤ rm.locals → gCall yX6_begins 7 5 rmX6_begins rm := fun rm a b => ⟨Or.inl ⟨_, _, tw1167⟩, tw8, ⟨by decide, by decide⟩, by decide, a, b⟩
abbrev rmX6_isSummary : Room := { frames := 1, cells := 0, slots := 0, locals := 25 }
def wp_X6_isSummary (p1 : Int64) (p2 : Int64) (p3 : Int64) (M : MEM) (Q : Int32 → Prop) : Prop := wp_X6_isBetween p1 0 3 M (fun r_1 => (r_1 = 0 → (Q 0)) ∧ (¬ r_1 = 0 → (wp_X6_isBetween p2 1 12 M (fun r_3 => (r_3 = 0 → (Q 0)) ∧ (¬ r_3 = 0 → (wp_X6_isBetween p3 0 40 M (fun r_5 => (r_5 = 0 → (Q 0)) ∧ (¬ r_5 = 0 → (Q 1)))))))))
set_option maxRecDepth 100000 in
set_option maxHeartbeats 4000000 in
theorem met_X6_isSummary {l : Launch} (hl : l.stackTraces = false) {E : MK} {p1 : Int64} {p2 : Int64} {p3 : Int64} {M : MEM} {Q : Int32 → Prop} (hw : wp_X6_isSummary p1 p2 p3 M Q) : gMet l E yX6_isSummary rmX6_isSummary [.long p1, .long p2, .long p3] M (qIp M Q) gNo := by
  refine g_met hl (cc := cX6_isSummary) (maxL := 6) (ret := (some .boolean)) (hh := []) (loc := [(0, .long p1), (2, .long p2), (4, .long p3)]) (by decide +kernel) (Or.inl ⟨tw1137, rfl⟩) (Nat.le_of_ble_eq_true rfl) rfl (fun K hK C => ?_)
  have C : GC K E cX6_isSummary RX6 6 (some .boolean) [] rmX6_isSummary := C
  refine g_lload_n C dX6_isSummary_0 0 rfl rfl ?_
  refine g_lconst C dX6_isSummary_1 (v := 0) rfl ?_
  refine g_ldc2 C dX6_isSummary_2 tw1138 ?_
  refine g_cS C dX6_isSummary_5 (met_X6_isBetween C.st hw) (gc_X6_isBetween _ (Nat.le_of_ble_eq_true rfl) (Nat.le_of_ble_eq_true rfl)) (Or.inl tw1139) tw1140 rfl (Nat.le_of_ble_eq_true rfl) (c2 := 0) (s2 := 0) rfl rfl (Nat.le_of_ble_eq_true rfl) (Nat.le_of_ble_eq_true rfl) rfl (kIp (fun r_1 hw => ?_)) tNo
  refine g_if_eq C dX6_isSummary_8 (tgt := 38) (by decide) (fun c8 => ?_) (fun c8 => ?_)
  · have hw := hw.1 c8
    refine g_iconst C dX6_isSummary_38 (v := 0) rfl ?_
    exact g_zret C dX6_isSummary_39 gB0.1 (Nat.le_of_ble_eq_true rfl) (Nat.le_of_ble_eq_true rfl) ⟨_, rfl, rfl, hw⟩
  · have hw := hw.2 c8
    refine g_lload_n C dX6_isSummary_11 1 rfl rfl ?_
    refine g_lconst C dX6_isSummary_12 (v := 1) rfl ?_
    refine g_ldc2 C dX6_isSummary_13 tw1142 ?_
    refine g_cS C dX6_isSummary_16 (met_X6_isBetween C.st hw) (gc_X6_isBetween _ (Nat.le_of_ble_eq_true rfl) (Nat.le_of_ble_eq_true rfl)) (Or.inl tw1139) tw1140 rfl (Nat.le_of_ble_eq_true rfl) (c2 := 0) (s2 := 0) rfl rfl (Nat.le_of_ble_eq_true rfl) (Nat.le_of_ble_eq_true rfl) rfl (kIp (fun r_3 hw => ?_)) tNo
    refine g_if_eq C dX6_isSummary_19 (tgt := 38) (by decide) (fun c19 => ?_) (fun c19 => ?_)
    · have hw := hw.1 c19
      refine g_iconst C dX6_isSummary_38 (v := 0) rfl ?_
      exact g_zret C dX6_isSummary_39 gB0.1 (Nat.le_of_ble_eq_true rfl) (Nat.le_of_ble_eq_true rfl) ⟨_, rfl, rfl, hw⟩
    · have hw := hw.2 c19
      refine g_lload C (j := 0) dX6_isSummary_22 2 rfl ?_
      refine g_lconst C dX6_isSummary_24 (v := 0) rfl ?_
      refine g_ldc2 C dX6_isSummary_25 tw1143 ?_
      refine g_cS C dX6_isSummary_28 (met_X6_isBetween C.st hw) (gc_X6_isBetween _ (Nat.le_of_ble_eq_true rfl) (Nat.le_of_ble_eq_true rfl)) (Or.inl tw1139) tw1140 rfl (Nat.le_of_ble_eq_true rfl) (c2 := 0) (s2 := 0) rfl rfl (Nat.le_of_ble_eq_true rfl) (Nat.le_of_ble_eq_true rfl) rfl (kIp (fun r_5 hw => ?_)) tNo
      refine g_if_eq C dX6_isSummary_31 (tgt := 38) (by decide) (fun c31 => ?_) (fun c31 => ?_)
      · have hw := hw.1 c31
        refine g_iconst C dX6_isSummary_38 (v := 0) rfl ?_
        exact g_zret C dX6_isSummary_39 gB0.1 (Nat.le_of_ble_eq_true rfl) (Nat.le_of_ble_eq_true rfl) ⟨_, rfl, rfl, hw⟩
      · have hw := hw.2 c31
        refine g_iconst C dX6_isSummary_34 (v := 1) rfl ?_
        refine g_goto C dX6_isSummary_35 (tgt := 39) (by decide) ?_
        exact g_zret C dX6_isSummary_39 gB1.1 (Nat.le_of_ble_eq_true rfl) (Nat.le_of_ble_eq_true rfl) ⟨_, rfl, rfl, hw⟩
theorem gc_X6_isSummary : ∀ rm : Room, rmX6_isSummary.frames + 1 ≤ rm.frames → 8 + (6 + 11) + rmX6_isSummary.locals ≤ rm.locals → gCall yX6_isSummary 6 3 rmX6_isSummary rm := fun rm a b => ⟨Or.inl ⟨_, _, tw1137⟩, tw8, ⟨by decide, by decide⟩, by decide, a, b⟩
abbrev rmX6_keptBy : Room := { frames := 2, cells := 0, slots := 0, locals := 43 }
def wp_X6_keptBy (o : Nat) (p1 : Int32) (M : MEM) (Q : Int32 → Prop) : Prop := KD o = (16, 0) ∧ (wp_X6_isThere o p1 M (fun r_1 => (r_1 = 0 → (Q 0)) ∧ (¬ r_1 = 0 → (wp_X6_many o p1 M (fun r_3 => Q r_3)))))
set_option maxRecDepth 100000 in
set_option maxHeartbeats 4000000 in
theorem met_X6_keptBy {l : Launch} (hl : l.stackTraces = false) {E : MK} {o : Nat} {p1 : Int32} {M : MEM} {Q : Int32 → Prop} (hw : wp_X6_keptBy o p1 M Q) : gMet l E yX6_keptBy rmX6_keptBy [gR E o, .int p1] M (qIp M Q) gNo := by
  obtain ⟨hk0, hw⟩ := hw
  refine g_met hl (cc := cX6_keptBy) (maxL := 2) (ret := (some .int)) (hh := []) (loc := [(0, gR E o), (1, .int p1)]) (by decide +kernel) (Or.inl ⟨tw1151, rfl⟩) (Nat.le_of_ble_eq_true rfl) rfl (fun K hK C => ?_)
  have C : GC K E cX6_keptBy RX6 2 (some .int) [] rmX6_keptBy := C
  refine g_aload_n C dX6_keptBy_0 0 rfl rfl ?_
  refine g_iload_n C dX6_keptBy_1 1 rfl rfl ?_
  refine g_cV C dX6_keptBy_2 (met_X6_isThere C.st hw) (gc_X6_isThere _ (Nat.le_of_ble_eq_true rfl) (Nat.le_of_ble_eq_true rfl)) tw1152 tw1154 twp31 (ci := 6) rfl (by decide) hk0 rfl (Nat.le_of_ble_eq_true rfl) (c2 := 0) (s2 := 0) rfl rfl (Nat.le_of_ble_eq_true rfl) (Nat.le_of_ble_eq_true rfl) rfl (kIp (fun r_1 hw => ?_)) tNo
  refine g_if_eq C dX6_keptBy_5 (tgt := 16) (by decide) (fun c5 => ?_) (fun c5 => ?_)
  · have hw := hw.1 c5
    refine g_iconst C dX6_keptBy_16 (v := 0) rfl ?_
    exact g_iret C dX6_keptBy_17 (Nat.le_of_ble_eq_true rfl) (Nat.le_of_ble_eq_true rfl) ⟨_, rfl, rfl, hw⟩
  · have hw := hw.2 c5
    refine g_aload_n C dX6_keptBy_8 0 rfl rfl ?_
    refine g_iload_n C dX6_keptBy_9 1 rfl rfl ?_
    refine g_cV C dX6_keptBy_10 (met_X6_many C.st hw) (gc_X6_many _ (Nat.le_of_ble_eq_true rfl) (Nat.le_of_ble_eq_true rfl)) tw1156 tw1158 twp32 (ci := 6) rfl (by decide) hk0 rfl (Nat.le_of_ble_eq_true rfl) (c2 := 0) (s2 := 0) rfl rfl (Nat.le_of_ble_eq_true rfl) (Nat.le_of_ble_eq_true rfl) rfl (kIp (fun r_3 hw => ?_)) tNo
    refine g_goto C dX6_keptBy_13 (tgt := 17) (by decide) ?_
    exact g_iret C dX6_keptBy_17 (Nat.le_of_ble_eq_true rfl) (Nat.le_of_ble_eq_true rfl) ⟨_, rfl, rfl, hw⟩
theorem gc_X6_keptBy : ∀ rm : Room, rmX6_keptBy.frames + 1 ≤ rm.frames → 8 + (2 + 11) + rmX6_keptBy.locals ≤ rm.locals → gCall yX6_keptBy 2 1 rmX6_keptBy rm := fun rm a b => ⟨Or.inl ⟨_, _, tw1151⟩, tw8, ⟨by decide, by decide⟩, by decide, a, b⟩
abbrev rmX6_remembers : Room := { frames := 0, cells := 0, slots := 0, locals := 0 }
def wp_X6_remembers_L52 (o : Nat) (Q : MEM → Prop) : Nat → Int32 → MEM → Prop
  | 0, _, _ => False
  | n52 + 1, x1_2, M_3 => (1241 ≤ x1_2 → ((∀ M_4 : MEM, M_4 = uI M_3 o 27 ((mI M_3 o 27) + 1) → (Q M_4)))) ∧ (¬ 1241 ≤ x1_2 → (KD (RF o 1) = (0, 1241) ∧ vp_in x1_2 1241 ∧ ((KD (RF o 25) = (0, 12410) ∧ (vp_in ((1241 * (mI M_3 o 27)) + x1_2) 12410 ∧ (∀ M_9 : MEM, M_9 = uI M_3 (RF o 25) ((1241 * (mI M_3 o 27)) + x1_2).toNatClampNeg (mI M_3 (RF o 1) x1_2.toNatClampNeg) → (∀ x1_10 : Int32, x1_10 = x1_2 + 1 → ((wp_X6_remembers_L52 o Q n52) x1_10 M_9))))))))
def wp_X6_remembers_J50 (o : Nat) (Q : MEM → Prop) (M_1 : MEM) : Prop := ∃ m52 : Nat, wp_X6_remembers_L52 o Q m52 0 M_1
def wp_X6_remembers_L11 (o : Nat) (Q : MEM → Prop) : Nat → Int32 → MEM → Prop
  | 0, _, _ => False
  | n11 + 1, x1_11, M_12 => (11169 ≤ x1_11 → ((∀ M_13 : MEM, M_13 = uI M_12 o 27 ((mI M_12 o 27) - 1) → (wp_X6_remembers_J50 o Q M_13)))) ∧ (¬ 11169 ≤ x1_11 → (KD (RF o 25) = (0, 12410) ∧ vp_in (x1_11 + 1241) 12410 ∧ ((vp_in x1_11 12410 ∧ (∀ M_17 : MEM, M_17 = uI M_12 (RF o 25) x1_11.toNatClampNeg (mI M_12 (RF o 25) (x1_11 + 1241).toNatClampNeg) → (∀ x1_18 : Int32, x1_18 = x1_11 + 1 → ((wp_X6_remembers_L11 o Q n11) x1_18 M_17)))))))
def wp_X6_remembers (o : Nat) (M : MEM) (Q : MEM → Prop) : Prop := KD o = (16, 0) ∧ ((¬ (mI M o 27) = 10 → (wp_X6_remembers_J50 o Q M)) ∧ ((mI M o 27) = 10 → (∃ m11 : Nat, wp_X6_remembers_L11 o Q m11 0 M)))
set_option maxRecDepth 100000 in
set_option maxHeartbeats 4000000 in
theorem met_X6_remembers {l : Launch} (hl : l.stackTraces = false) {E : MK} {o : Nat} {M : MEM} {Q : MEM → Prop} (hw : wp_X6_remembers o M Q) : gMet l E yX6_remembers rmX6_remembers [gR E o] M (qV Q) gNo := by
  obtain ⟨hk0, hw⟩ := hw
  refine g_met hl (cc := cX6_remembers) (maxL := 2) (ret := none) (hh := []) (loc := [(0, gR E o)]) (by decide +kernel) (Or.inl ⟨tw1147, rfl⟩) (Nat.le_of_ble_eq_true rfl) rfl (fun K hK C => ?_)
  have C : GC K E cX6_remembers RX6 2 none [] rmX6_remembers := C
  refine g_aload_n C dX6_remembers_0 0 rfl rfl ?_
  refine gf_RX6_312 C hk0 dX6_remembers_1 ?_
  refine g_bipush C dX6_remembers_4 (v := 10) rfl ?_
  have hJ50 : ∀ (M_1 : MEM), wp_X6_remembers_J50 o Q M_1 → GX K E 2 M_1 [(0, gR E o)] [] 50 0 0 (gEnd K E (qV Q) gNo rmX6_remembers.cells rmX6_remembers.slots) := by
    intro M_1 hw
    refine g_iconst C dX6_remembers_50 (v := 0) rfl ?_
    refine g_istore_n C dX6_remembers_51 rfl (Nat.le_of_ble_eq_true rfl) (loc' := [(1, .int 0), (0, gR E o)]) rfl ?_
    obtain ⟨m52, hw⟩ := hw
    have hL52 : ∀ (n52 : Nat) (x1_2 : Int32) (M_3 : MEM), wp_X6_remembers_L52 o Q n52 x1_2 M_3 → GX K E 2 M_3 [(0, gR E o), (1, .int x1_2)] [] 52 0 0 (gEnd K E (qV Q) gNo rmX6_remembers.cells rmX6_remembers.slots) := by
      intro n52
      induction n52 with
      | zero => intro _ _ hw; exact False.elim hw
      | succ n52 ih52 =>
        intro x1_2 M_3 hw
        refine g_iload_n C dX6_remembers_52 1 rfl rfl ?_
        refine g_sipush C dX6_remembers_53 (v := 1241) rfl ?_
        refine g_icmp_ge C dX6_remembers_56 (tgt := 86) (by decide) (fun c56 => ?_) (fun c56 => ?_)
        · have hw := hw.1 c56
          refine g_aload_n C dX6_remembers_86 0 rfl rfl ?_
          refine g_dup C dX6_remembers_87 rfl ?_
          refine gf_RX6_312 C hk0 dX6_remembers_88 ?_
          refine g_iconst C dX6_remembers_91 (v := 1) rfl ?_
          refine g_iadd C dX6_remembers_92 ?_
          refine pf_RX6_312 C hk0 dX6_remembers_93 ?_
          refine g_nmM (fun M_4 eM_4 => ?_)
          have hw := hw M_4 eM_4
          exact g_vret C dX6_remembers_96 (Nat.le_of_ble_eq_true rfl) (Nat.le_of_ble_eq_true rfl) ⟨rfl, hw⟩
        · have hw := hw.2 c56
          refine g_aload_n C dX6_remembers_59 0 rfl rfl ?_
          refine gf_RX6_51 C hk0 dX6_remembers_60 ?_
          refine g_sipush C dX6_remembers_63 (v := 1241) rfl ?_
          refine g_aload_n C dX6_remembers_66 0 rfl rfl ?_
          refine gf_RX6_312 C hk0 dX6_remembers_67 ?_
          refine g_imul C dX6_remembers_70 ?_
          refine g_iload_n C dX6_remembers_71 1 rfl rfl ?_
          refine g_iadd C dX6_remembers_72 ?_
          refine g_aload_n C dX6_remembers_73 0 rfl rfl ?_
          refine gf_RX6_7 C hk0 dX6_remembers_74 ?_
          refine g_iload_n C dX6_remembers_77 1 rfl rfl ?_
          obtain ⟨hk_5, hw⟩ := hw
          obtain ⟨hi_6, hw⟩ := hw
          refine g_iaload C hk_5 hi_6 dX6_remembers_78 ?_
          obtain ⟨hk_7, hw⟩ := hw
          obtain ⟨hi_8, hw⟩ := hw
          refine g_iastore C hk_7 hi_8 dX6_remembers_79 ?_
          refine g_nmM (fun M_9 eM_9 => ?_)
          have hw := hw M_9 eM_9
          obtain ⟨x1_10, ex1_10⟩ : ∃ y : Int32, y = x1_2 + 1 := ⟨_, rfl⟩
          have hw := hw x1_10 ex1_10
          refine g_iinc C (j := 0) dX6_remembers_80 1 rfl (v := x1_10) (by rw [ex1_10]; rfl) (Nat.le_of_ble_eq_true rfl) (loc' := [(1, .int x1_10), (0, gR E o)]) rfl ?_
          refine g_goto C dX6_remembers_83 (tgt := 52) (by decide) ?_
          refine g_sub [1, 0] rfl ?_
          exact ih52 _ _ hw
    refine g_sub [1, 0] rfl ?_
    exact hL52 m52 _ _ hw
  refine g_icmp_ne C dX6_remembers_6 (tgt := 50) (by decide) (fun c6 => ?_) (fun c6 => ?_)
  · have hw := hw.1 c6
    exact hJ50 _ hw
  · have hw := hw.2 c6
    refine g_iconst C dX6_remembers_9 (v := 0) rfl ?_
    refine g_istore_n C dX6_remembers_10 rfl (Nat.le_of_ble_eq_true rfl) (loc' := [(1, .int 0), (0, gR E o)]) rfl ?_
    obtain ⟨m11, hw⟩ := hw
    have hL11 : ∀ (n11 : Nat) (x1_11 : Int32) (M_12 : MEM), wp_X6_remembers_L11 o Q n11 x1_11 M_12 → GX K E 2 M_12 [(0, gR E o), (1, .int x1_11)] [] 11 0 0 (gEnd K E (qV Q) gNo rmX6_remembers.cells rmX6_remembers.slots) := by
      intro n11
      induction n11 with
      | zero => intro _ _ hw; exact False.elim hw
      | succ n11 ih11 =>
        intro x1_11 M_12 hw
        refine g_iload_n C dX6_remembers_11 1 rfl rfl ?_
        refine g_sipush C dX6_remembers_12 (v := 11169) rfl ?_
        refine g_icmp_ge C dX6_remembers_15 (tgt := 40) (by decide) (fun c15 => ?_) (fun c15 => ?_)
        · have hw := hw.1 c15
          refine g_aload_n C dX6_remembers_40 0 rfl rfl ?_
          refine g_dup C dX6_remembers_41 rfl ?_
          refine gf_RX6_312 C hk0 dX6_remembers_42 ?_
          refine g_iconst C dX6_remembers_45 (v := 1) rfl ?_
          refine g_isub C dX6_remembers_46 ?_
          refine pf_RX6_312 C hk0 dX6_remembers_47 ?_
          refine g_nmM (fun M_13 eM_13 => ?_)
          have hw := hw M_13 eM_13
          refine g_sub [0] rfl ?_
          exact hJ50 _ hw
        · have hw := hw.2 c15
          refine g_aload_n C dX6_remembers_18 0 rfl rfl ?_
          refine gf_RX6_51 C hk0 dX6_remembers_19 ?_
          refine g_iload_n C dX6_remembers_22 1 rfl rfl ?_
          refine g_aload_n C dX6_remembers_23 0 rfl rfl ?_
          refine gf_RX6_51 C hk0 dX6_remembers_24 ?_
          refine g_iload_n C dX6_remembers_27 1 rfl rfl ?_
          refine g_sipush C dX6_remembers_28 (v := 1241) rfl ?_
          refine g_iadd C dX6_remembers_31 ?_
          obtain ⟨hk_14, hw⟩ := hw
          obtain ⟨hi_15, hw⟩ := hw
          refine g_iaload C hk_14 hi_15 dX6_remembers_32 ?_
          obtain ⟨hi_16, hw⟩ := hw
          refine g_iastore C hk_14 hi_16 dX6_remembers_33 ?_
          refine g_nmM (fun M_17 eM_17 => ?_)
          have hw := hw M_17 eM_17
          obtain ⟨x1_18, ex1_18⟩ : ∃ y : Int32, y = x1_11 + 1 := ⟨_, rfl⟩
          have hw := hw x1_18 ex1_18
          refine g_iinc C (j := 0) dX6_remembers_34 1 rfl (v := x1_18) (by rw [ex1_18]; rfl) (Nat.le_of_ble_eq_true rfl) (loc' := [(1, .int x1_18), (0, gR E o)]) rfl ?_
          refine g_goto C dX6_remembers_37 (tgt := 11) (by decide) ?_
          refine g_sub [1, 0] rfl ?_
          exact ih11 _ _ hw
    refine g_sub [1, 0] rfl ?_
    exact hL11 m11 _ _ hw
theorem gc_X6_remembers : ∀ rm : Room, rmX6_remembers.frames + 1 ≤ rm.frames → 8 + (2 + 11) + rmX6_remembers.locals ≤ rm.locals → gCall yX6_remembers 2 0 rmX6_remembers rm := fun rm a b => ⟨Or.inl ⟨_, _, tw1147⟩, tw8, ⟨by decide, by decide⟩, by decide, a, b⟩
abbrev rmX6_define : Room := { frames := 3, cells := 0, slots := 0, locals := 64 }
def wp_X6_define (o : Nat) (p1 : Int32) (p2 : Int32) (p3 : Int32) (p4 : Int32) (p5 : Int32) (M : MEM) (Q : Int32 → MEM → Prop) : Prop := KD o = (16, 0) ∧ (wp_X6_isSlot p1 M (fun r_1 => (¬ r_1 = 0 → (wp_X6_isSummary p2.toInt64 p3.toInt64 p5.toInt64 M (fun r_3 => (¬ r_3 = 0 → ((∀ M_5 : MEM, M_5 = uI M o 0 0 → (wp_X6_remembers o M_5 (fun M_7 => wp_X6_keptBy o p1 M_7 (fun r_8 => wp_X6_begins o p1 p2 p3 p4 p5 M_7 (fun M_11 => Q r_8 M_11))))))) ∧ (r_3 = 0 → (wp_X6_fails o 2 M (fun r_12 M_13 => Q r_12 M_13)))))) ∧ (r_1 = 0 → (wp_X6_fails o 1 M (fun r_14 M_15 => Q r_14 M_15)))))
set_option maxRecDepth 100000 in
set_option maxHeartbeats 4000000 in
theorem met_X6_define {l : Launch} (hl : l.stackTraces = false) {E : MK} {o : Nat} {p1 : Int32} {p2 : Int32} {p3 : Int32} {p4 : Int32} {p5 : Int32} {M : MEM} {Q : Int32 → MEM → Prop} (hw : wp_X6_define o p1 p2 p3 p4 p5 M Q) : gMet l E yX6_define rmX6_define [gR E o, .int p1, .int p2, .int p3, .int p4, .int p5] M (qI Q) gNo := by
  obtain ⟨hk0, hw⟩ := hw
  refine g_met hl (cc := cX6_define) (maxL := 7) (ret := (some .int)) (hh := []) (loc := [(0, gR E o), (1, .int p1), (2, .int p2), (3, .int p3), (4, .int p4), (5, .int p5)]) (by decide +kernel) (Or.inl ⟨tw1127, rfl⟩) (Nat.le_of_ble_eq_true rfl) rfl (fun K hK C => ?_)
  have C : GC K E cX6_define RX6 7 (some .int) [] rmX6_define := C
  refine g_iload_n C dX6_define_0 1 rfl rfl ?_
  refine g_cS C dX6_define_1 (met_X6_isSlot C.st hw) (gc_X6_isSlot _ (Nat.le_of_ble_eq_true rfl) (Nat.le_of_ble_eq_true rfl)) (Or.inl tw1128) tw1129 rfl (Nat.le_of_ble_eq_true rfl) (c2 := 0) (s2 := 0) rfl rfl (Nat.le_of_ble_eq_true rfl) (Nat.le_of_ble_eq_true rfl) rfl (kIp (fun r_1 hw => ?_)) tNo
  refine g_if_ne C dX6_define_4 (tgt := 13) (by decide) (fun c4 => ?_) (fun c4 => ?_)
  · have hw := hw.1 c4
    refine g_iload_n C dX6_define_13 2 rfl rfl ?_
    refine g_i2l C dX6_define_14 ?_
    refine g_iload_n C dX6_define_15 3 rfl rfl ?_
    refine g_i2l C dX6_define_16 ?_
    refine g_iload C (j := 0) dX6_define_17 5 rfl ?_
    refine g_i2l C dX6_define_19 ?_
    refine g_cS C dX6_define_20 (met_X6_isSummary C.st hw) (gc_X6_isSummary _ (Nat.le_of_ble_eq_true rfl) (Nat.le_of_ble_eq_true rfl)) (Or.inl tw1135) tw1136 rfl (Nat.le_of_ble_eq_true rfl) (c2 := 0) (s2 := 0) rfl rfl (Nat.le_of_ble_eq_true rfl) (Nat.le_of_ble_eq_true rfl) rfl (kIp (fun r_3 hw => ?_)) tNo
    refine g_if_ne C dX6_define_23 (tgt := 32) (by decide) (fun c23 => ?_) (fun c23 => ?_)
    · have hw := hw.1 c23
      refine g_aload_n C dX6_define_32 0 rfl rfl ?_
      refine g_iconst C dX6_define_33 (v := 0) rfl ?_
      refine pf_RX6_57 C hk0 dX6_define_34 ?_
      refine g_nmM (fun M_5 eM_5 => ?_)
      have hw := hw M_5 eM_5
      refine g_aload_n C dX6_define_37 0 rfl rfl ?_
      refine g_cV C dX6_define_38 (met_X6_remembers C.st hw) (gc_X6_remembers _ (Nat.le_of_ble_eq_true rfl) (Nat.le_of_ble_eq_true rfl)) tw1144 tw1146 twp29 (ci := 6) rfl (by decide) hk0 rfl (Nat.le_of_ble_eq_true rfl) (c2 := 0) (s2 := 0) rfl rfl (Nat.le_of_ble_eq_true rfl) (Nat.le_of_ble_eq_true rfl) rfl (kV (fun M_7 hw => ?_)) tNo
      refine g_aload_n C dX6_define_41 0 rfl rfl ?_
      refine g_iload_n C dX6_define_42 1 rfl rfl ?_
      refine g_cV C dX6_define_43 (met_X6_keptBy C.st hw) (gc_X6_keptBy _ (Nat.le_of_ble_eq_true rfl) (Nat.le_of_ble_eq_true rfl)) tw1148 tw1150 twp30 (ci := 6) rfl (by decide) hk0 rfl (Nat.le_of_ble_eq_true rfl) (c2 := 0) (s2 := 0) rfl rfl (Nat.le_of_ble_eq_true rfl) (Nat.le_of_ble_eq_true rfl) rfl (kIp (fun r_8 hw => ?_)) tNo
      refine g_istore C dX6_define_46 (Nat.le_of_ble_eq_true rfl) (loc' := [(6, .int r_8), (0, gR E o), (1, .int p1), (2, .int p2), (3, .int p3), (4, .int p4), (5, .int p5)]) rfl ?_
      refine g_aload_n C dX6_define_48 1 rfl rfl ?_
      refine g_iload_n C dX6_define_49 2 rfl rfl ?_
      refine g_iload_n C dX6_define_50 3 rfl rfl ?_
      refine g_iload_n C dX6_define_51 4 rfl rfl ?_
      refine g_iload C (j := 0) dX6_define_52 5 rfl ?_
      refine g_iload C (j := 0) dX6_define_54 6 rfl ?_
      refine g_cV C dX6_define_56 (met_X6_begins C.st hw) (gc_X6_begins _ (Nat.le_of_ble_eq_true rfl) (Nat.le_of_ble_eq_true rfl)) tw1164 tw1166 twp34 (ci := 6) rfl (by decide) hk0 rfl (Nat.le_of_ble_eq_true rfl) (c2 := 0) (s2 := 0) rfl rfl (Nat.le_of_ble_eq_true rfl) (Nat.le_of_ble_eq_true rfl) rfl (kV (fun M_11 hw => ?_)) tNo
      refine g_iload C (j := 0) dX6_define_59 0 rfl ?_
      exact g_iret C dX6_define_61 (Nat.le_of_ble_eq_true rfl) (Nat.le_of_ble_eq_true rfl) ⟨_, rfl, hw⟩
    · have hw := hw.2 c23
      refine g_aload_n C dX6_define_26 0 rfl rfl ?_
      refine g_iconst C dX6_define_27 (v := 2) rfl ?_
      refine g_cV C dX6_define_28 (met_X6_fails C.st hw) (gc_X6_fails _ (Nat.le_of_ble_eq_true rfl) (Nat.le_of_ble_eq_true rfl)) tw1131 tw1133 twp28 (ci := 6) rfl (by decide) hk0 rfl (Nat.le_of_ble_eq_true rfl) (c2 := 0) (s2 := 0) rfl rfl (Nat.le_of_ble_eq_true rfl) (Nat.le_of_ble_eq_true rfl) rfl (kI (fun r_12 M_13 hw => ?_)) tNo
      exact g_iret C dX6_define_31 (Nat.le_of_ble_eq_true rfl) (Nat.le_of_ble_eq_true rfl) ⟨_, rfl, hw⟩
  · have hw := hw.2 c4
    refine g_aload_n C dX6_define_7 0 rfl rfl ?_
    refine g_iconst C dX6_define_8 (v := 1) rfl ?_
    refine g_cV C dX6_define_9 (met_X6_fails C.st hw) (gc_X6_fails _ (Nat.le_of_ble_eq_true rfl) (Nat.le_of_ble_eq_true rfl)) tw1131 tw1133 twp28 (ci := 6) rfl (by decide) hk0 rfl (Nat.le_of_ble_eq_true rfl) (c2 := 0) (s2 := 0) rfl rfl (Nat.le_of_ble_eq_true rfl) (Nat.le_of_ble_eq_true rfl) rfl (kI (fun r_14 M_15 hw => ?_)) tNo
    exact g_iret C dX6_define_12 (Nat.le_of_ble_eq_true rfl) (Nat.le_of_ble_eq_true rfl) ⟨_, rfl, hw⟩
theorem gc_X6_define : ∀ rm : Room, rmX6_define.frames + 1 ≤ rm.frames → 8 + (7 + 11) + rmX6_define.locals ≤ rm.locals → gCall yX6_define 7 5 rmX6_define rm := fun rm a b => ⟨Or.inl ⟨_, _, tw1127⟩, tw8, ⟨by decide, by decide⟩, by decide, a, b⟩
abbrev rmX6_drop : Room := { frames := 3, cells := 0, slots := 0, locals := 64 }
def wp_X6_drop (o : Nat) (p1 : Int32) (M : MEM) (Q : Int32 → MEM → Prop) : Prop := KD o = (16, 0) ∧ (wp_X6_isSlot p1 M (fun r_1 => (¬ r_1 = 0 → ((∀ M_3 : MEM, M_3 = uI M o 0 0 → (wp_X6_remembers o M_3 (fun M_5 => wp_X6_keptBy o p1 M_5 (fun r_6 => wp_X6_sets o p1 0 0 M_5 (fun M_9 => Q r_6 M_9))))))) ∧ (r_1 = 0 → (wp_X6_fails o 1 M (fun r_10 M_11 => Q r_10 M_11)))))
set_option maxRecDepth 100000 in
set_option maxHeartbeats 4000000 in
theorem met_X6_drop {l : Launch} (hl : l.stackTraces = false) {E : MK} {o : Nat} {p1 : Int32} {M : MEM} {Q : Int32 → MEM → Prop} (hw : wp_X6_drop o p1 M Q) : gMet l E yX6_drop rmX6_drop [gR E o, .int p1] M (qI Q) gNo := by
  obtain ⟨hk0, hw⟩ := hw
  refine g_met hl (cc := cX6_drop) (maxL := 3) (ret := (some .int)) (hh := []) (loc := [(0, gR E o), (1, .int p1)]) (by decide +kernel) (Or.inl ⟨tw1175, rfl⟩) (Nat.le_of_ble_eq_true rfl) rfl (fun K hK C => ?_)
  have C : GC K E cX6_drop RX6 3 (some .int) [] rmX6_drop := C
  refine g_iload_n C dX6_drop_0 1 rfl rfl ?_
  refine g_cS C dX6_drop_1 (met_X6_isSlot C.st hw) (gc_X6_isSlot _ (Nat.le_of_ble_eq_true rfl) (Nat.le_of_ble_eq_true rfl)) (Or.inl tw1128) tw1129 rfl (Nat.le_of_ble_eq_true rfl) (c2 := 0) (s2 := 0) rfl rfl (Nat.le_of_ble_eq_true rfl) (Nat.le_of_ble_eq_true rfl) rfl (kIp (fun r_1 hw => ?_)) tNo
  refine g_if_ne C dX6_drop_4 (tgt := 13) (by decide) (fun c4 => ?_) (fun c4 => ?_)
  · have hw := hw.1 c4
    refine g_aload_n C dX6_drop_13 0 rfl rfl ?_
    refine g_iconst C dX6_drop_14 (v := 0) rfl ?_
    refine pf_RX6_57 C hk0 dX6_drop_15 ?_
    refine g_nmM (fun M_3 eM_3 => ?_)
    have hw := hw M_3 eM_3
    refine g_aload_n C dX6_drop_18 0 rfl rfl ?_
    refine g_cV C dX6_drop_19 (met_X6_remembers C.st hw) (gc_X6_remembers _ (Nat.le_of_ble_eq_true rfl) (Nat.le_of_ble_eq_true rfl)) tw1144 tw1146 twp29 (ci := 6) rfl (by decide) hk0 rfl (Nat.le_of_ble_eq_true rfl) (c2 := 0) (s2 := 0) rfl rfl (Nat.le_of_ble_eq_true rfl) (Nat.le_of_ble_eq_true rfl) rfl (kV (fun M_5 hw => ?_)) tNo
    refine g_aload_n C dX6_drop_22 0 rfl rfl ?_
    refine g_iload_n C dX6_drop_23 1 rfl rfl ?_
    refine g_cV C dX6_drop_24 (met_X6_keptBy C.st hw) (gc_X6_keptBy _ (Nat.le_of_ble_eq_true rfl) (Nat.le_of_ble_eq_true rfl)) tw1148 tw1150 twp30 (ci := 6) rfl (by decide) hk0 rfl (Nat.le_of_ble_eq_true rfl) (c2 := 0) (s2 := 0) rfl rfl (Nat.le_of_ble_eq_true rfl) (Nat.le_of_ble_eq_true rfl) rfl (kIp (fun r_6 hw => ?_)) tNo
    refine g_istore_n C dX6_drop_27 rfl (Nat.le_of_ble_eq_true rfl) (loc' := [(2, .int r_6), (0, gR E o), (1, .int p1)]) rfl ?_
    refine g_aload_n C dX6_drop_28 1 rfl rfl ?_
    refine g_iload_n C dX6_drop_29 2 rfl rfl ?_
    refine g_iconst C dX6_drop_30 (v := 0) rfl ?_
    refine g_iconst C dX6_drop_31 (v := 0) rfl ?_
    refine g_cV C dX6_drop_32 (met_X6_sets C.st hw) (gc_X6_sets _ (Nat.le_of_ble_eq_true rfl) (Nat.le_of_ble_eq_true rfl)) tw1168 tw1170 twp35 (ci := 6) rfl (by decide) hk0 rfl (Nat.le_of_ble_eq_true rfl) (c2 := 0) (s2 := 0) rfl rfl (Nat.le_of_ble_eq_true rfl) (Nat.le_of_ble_eq_true rfl) rfl (kV (fun M_9 hw => ?_)) tNo
    refine g_iload_n C dX6_drop_35 0 rfl rfl ?_
    exact g_iret C dX6_drop_36 (Nat.le_of_ble_eq_true rfl) (Nat.le_of_ble_eq_true rfl) ⟨_, rfl, hw⟩
  · have hw := hw.2 c4
    refine g_aload_n C dX6_drop_7 0 rfl rfl ?_
    refine g_iconst C dX6_drop_8 (v := 1) rfl ?_
    refine g_cV C dX6_drop_9 (met_X6_fails C.st hw) (gc_X6_fails _ (Nat.le_of_ble_eq_true rfl) (Nat.le_of_ble_eq_true rfl)) tw1131 tw1133 twp28 (ci := 6) rfl (by decide) hk0 rfl (Nat.le_of_ble_eq_true rfl) (c2 := 0) (s2 := 0) rfl rfl (Nat.le_of_ble_eq_true rfl) (Nat.le_of_ble_eq_true rfl) rfl (kI (fun r_10 M_11 hw => ?_)) tNo
    exact g_iret C dX6_drop_12 (Nat.le_of_ble_eq_true rfl) (Nat.le_of_ble_eq_true rfl) ⟨_, rfl, hw⟩
theorem gc_X6_drop : ∀ rm : Room, rmX6_drop.frames + 1 ≤ rm.frames → 8 + (3 + 11) + rmX6_drop.locals ≤ rm.locals → gCall yX6_drop 3 1 rmX6_drop rm := fun rm a b => ⟨Or.inl ⟨_, _, tw1175⟩, tw8, ⟨by decide, by decide⟩, by decide, a, b⟩
abbrev rmX6_isFull : Room := { frames := 2, cells := 0, slots := 0, locals := 43 }
def wp_X6_isFull (o : Nat) (p1 : Int32) (p2 : Int32) (M : MEM) (Q : Int32 → Prop) : Prop := KD o = (16, 0) ∧ (wp_X6_of o p1 4 M (fun r_1 => (¬ r_1 = 0 → (Q 0)) ∧ (r_1 = 0 → (wp_X6_many o p1 M (fun r_3 => ((r_3 + p2) ≤ 60 → (Q 0)) ∧ (¬ (r_3 + p2) ≤ 60 → (Q 1)))))))
set_option maxRecDepth 100000 in
set_option maxHeartbeats 4000000 in
theorem met_X6_isFull {l : Launch} (hl : l.stackTraces = false) {E : MK} {o : Nat} {p1 : Int32} {p2 : Int32} {M : MEM} {Q : Int32 → Prop} (hw : wp_X6_isFull o p1 p2 M Q) : gMet l E yX6_isFull rmX6_isFull [gR E o, .int p1, .int p2] M (qIp M Q) gNo := by
  obtain ⟨hk0, hw⟩ := hw
  refine g_met hl (cc := cX6_isFull) (maxL := 3) (ret := (some .boolean)) (hh := []) (loc := [(0, gR E o), (1, .int p1), (2, .int p2)]) (by decide +kernel) (Or.inl ⟨tw1192, rfl⟩) (Nat.le_of_ble_eq_true rfl) rfl (fun K hK C => ?_)
  have C : GC K E cX6_isFull RX6 3 (some .boolean) [] rmX6_isFull := C
  refine g_aload_n C dX6_isFull_0 0 rfl rfl ?_
  refine g_iload_n C dX6_isFull_1 1 rfl rfl ?_
  refine g_iconst C dX6_isFull_2 (v := 4) rfl ?_
  refine g_cV C dX6_isFull_3 (met_X6_of C.st hw) (gc_X6_of _ (Nat.le_of_ble_eq_true rfl) (Nat.le_of_ble_eq_true rfl)) tw1160 tw1162 twp33 (ci := 6) rfl (by decide) hk0 rfl (Nat.le_of_ble_eq_true rfl) (c2 := 0) (s2 := 0) rfl rfl (Nat.le_of_ble_eq_true rfl) (Nat.le_of_ble_eq_true rfl) rfl (kIp (fun r_1 hw => ?_)) tNo
  refine g_if_ne C dX6_isFull_6 (tgt := 25) (by decide) (fun c6 => ?_) (fun c6 => ?_)
  · have hw := hw.1 c6
    refine g_iconst C dX6_isFull_25 (v := 0) rfl ?_
    exact g_zret C dX6_isFull_26 gB0.1 (Nat.le_of_ble_eq_true rfl) (Nat.le_of_ble_eq_true rfl) ⟨_, rfl, rfl, hw⟩
  · have hw := hw.2 c6
    refine g_aload_n C dX6_isFull_9 0 rfl rfl ?_
    refine g_iload_n C dX6_isFull_10 1 rfl rfl ?_
    refine g_cV C dX6_isFull_11 (met_X6_many C.st hw) (gc_X6_many _ (Nat.le_of_ble_eq_true rfl) (Nat.le_of_ble_eq_true rfl)) tw1156 tw1158 twp32 (ci := 6) rfl (by decide) hk0 rfl (Nat.le_of_ble_eq_true rfl) (c2 := 0) (s2 := 0) rfl rfl (Nat.le_of_ble_eq_true rfl) (Nat.le_of_ble_eq_true rfl) rfl (kIp (fun r_3 hw => ?_)) tNo
    refine g_iload_n C dX6_isFull_14 2 rfl rfl ?_
    refine g_iadd C dX6_isFull_15 ?_
    refine g_bipush C dX6_isFull_16 (v := 60) rfl ?_
    refine g_icmp_le C dX6_isFull_18 (tgt := 25) (by decide) (fun c18 => ?_) (fun c18 => ?_)
    · have hw := hw.1 c18
      refine g_iconst C dX6_isFull_25 (v := 0) rfl ?_
      exact g_zret C dX6_isFull_26 gB0.1 (Nat.le_of_ble_eq_true rfl) (Nat.le_of_ble_eq_true rfl) ⟨_, rfl, rfl, hw⟩
    · have hw := hw.2 c18
      refine g_iconst C dX6_isFull_21 (v := 1) rfl ?_
      refine g_goto C dX6_isFull_22 (tgt := 26) (by decide) ?_
      exact g_zret C dX6_isFull_26 gB1.1 (Nat.le_of_ble_eq_true rfl) (Nat.le_of_ble_eq_true rfl) ⟨_, rfl, rfl, hw⟩
theorem gc_X6_isFull : ∀ rm : Room, rmX6_isFull.frames + 1 ≤ rm.frames → 8 + (3 + 11) + rmX6_isFull.locals ≤ rm.locals → gCall yX6_isFull 3 2 rmX6_isFull rm := fun rm a b => ⟨Or.inl ⟨_, _, tw1192⟩, tw8, ⟨by decide, by decide⟩, by decide, a, b⟩
abbrev rmX6_takes : Room := { frames := 2, cells := 0, slots := 0, locals := 43 }
def wp_X6_takes_J105 (o : Nat) (p1 : Int32) (p2 : Int32) (p3 : Int32) (p4 : Int32) (p5 : Int32) (Q : Int32 → MEM → Prop) (M_3 : MEM) : Prop := KD (RF o 1) = (0, 1241) ∧ (∀ x6_5 : Int32, x6_5 = mI M_3 (RF o 1) 1240 → (wp_X6_many o p1 M_3 (fun r_6 => wp_X6_setsItem o p1 r_6 x6_5 p2 p3 p4 p5 M_3 (fun M_9 => wp_X6_many o p1 M_9 (fun r_10 => wp_X6_sets o p1 9 (r_10 + 1) M_9 (fun M_13 => (∀ M_14 : MEM, M_14 = uI M_13 (RF o 1) 1240 ((mI M_13 (RF o 1) 1240) + 1) → (Q x6_5 M_14))))))))
def wp_X6_takes_L26 (o : Nat) (p1 : Int32) (p2 : Int32) (p3 : Int32) (p4 : Int32) (p5 : Int32) (Q : Int32 → MEM → Prop) : Nat → Int32 → MEM → Prop
  | 0, _, _ => False
  | n26 + 1, x6_19, M_20 => wp_X6_many o p1 M_20 (fun r_21 => (r_21 ≤ x6_19 → (wp_X6_many o p1 M_20 (fun r_23 => wp_X6_sets o p1 9 (r_23 - 1) M_20 (fun M_26 => wp_X6_takes_J105 o p1 p2 p3 p4 p5 Q M_26)))) ∧ (¬ r_21 ≤ x6_19 → (wp_X6_item o p1 x6_19 0 M_20 (fun r_27 => wp_X6_item o p1 x6_19 1 M_20 (fun r_29 => wp_X6_item o p1 x6_19 2 M_20 (fun r_31 => wp_X6_item o p1 x6_19 3 M_20 (fun r_33 => wp_X6_item o p1 x6_19 4 M_20 (fun r_35 => wp_X6_setsItem o p1 (x6_19 - 1) r_27 r_29 r_31 r_33 r_35 M_20 (fun M_38 => ∀ x6_39 : Int32, x6_39 = x6_19 + 1 → ((wp_X6_takes_L26 o p1 p2 p3 p4 p5 Q n26) x6_39 M_38))))))))))
def wp_X6_takes (o : Nat) (p1 : Int32) (p2 : Int32) (p3 : Int32) (p4 : Int32) (p5 : Int32) (M : MEM) (Q : Int32 → MEM → Prop) : Prop := KD o = (16, 0) ∧ (wp_X6_of o p1 4 M (fun r_1 => (r_1 ≤ 0 → (wp_X6_takes_J105 o p1 p2 p3 p4 p5 Q M)) ∧ (¬ r_1 ≤ 0 → (wp_X6_many o p1 M (fun r_15 => wp_X6_of o p1 4 M (fun r_17 => (¬ r_15 = r_17 → (wp_X6_takes_J105 o p1 p2 p3 p4 p5 Q M)) ∧ (r_15 = r_17 → (∃ m26 : Nat, wp_X6_takes_L26 o p1 p2 p3 p4 p5 Q m26 1 M))))))))
set_option maxRecDepth 100000 in
set_option maxHeartbeats 4000000 in
theorem met_X6_takes {l : Launch} (hl : l.stackTraces = false) {E : MK} {o : Nat} {p1 : Int32} {p2 : Int32} {p3 : Int32} {p4 : Int32} {p5 : Int32} {M : MEM} {Q : Int32 → MEM → Prop} (hw : wp_X6_takes o p1 p2 p3 p4 p5 M Q) : gMet l E yX6_takes rmX6_takes [gR E o, .int p1, .int p2, .int p3, .int p4, .int p5] M (qI Q) gNo := by
  obtain ⟨hk0, hw⟩ := hw
  refine g_met hl (cc := cX6_takes) (maxL := 7) (ret := (some .int)) (hh := []) (loc := [(0, gR E o), (1, .int p1), (2, .int p2), (3, .int p3), (4, .int p4), (5, .int p5)]) (by decide +kernel) (Or.inl ⟨tw1196, rfl⟩) (Nat.le_of_ble_eq_true rfl) rfl (fun K hK C => ?_)
  have C : GC K E cX6_takes RX6 7 (some .int) [] rmX6_takes := C
  refine g_aload_n C dX6_takes_0 0 rfl rfl ?_
  refine g_iload_n C dX6_takes_1 1 rfl rfl ?_
  refine g_iconst C dX6_takes_2 (v := 4) rfl ?_
  refine g_cV C dX6_takes_3 (met_X6_of C.st hw) (gc_X6_of _ (Nat.le_of_ble_eq_true rfl) (Nat.le_of_ble_eq_true rfl)) tw1160 tw1162 twp33 (ci := 6) rfl (by decide) hk0 rfl (Nat.le_of_ble_eq_true rfl) (c2 := 0) (s2 := 0) rfl rfl (Nat.le_of_ble_eq_true rfl) (Nat.le_of_ble_eq_true rfl) rfl (kIp (fun r_1 hw => ?_)) tNo
  have hJ105 : ∀ (M_3 : MEM), wp_X6_takes_J105 o p1 p2 p3 p4 p5 Q M_3 → GX K E 7 M_3 [(0, gR E o), (1, .int p1), (2, .int p2), (3, .int p3), (4, .int p4), (5, .int p5)] [] 105 0 0 (gEnd K E (qI Q) gNo rmX6_takes.cells rmX6_takes.slots) := by
    intro M_3 hw
    refine g_aload_n C dX6_takes_105 0 rfl rfl ?_
    refine gf_RX6_7 C hk0 dX6_takes_106 ?_
    refine g_sipush C dX6_takes_109 (v := 1240) rfl ?_
    obtain ⟨hk_4, hw⟩ := hw
    refine g_iaload C hk_4 (i := 1240) (vp_lit rfl) dX6_takes_112 ?_
    refine g_nmI (fun x6_5 ex6_5 => ?_)
    have hw := hw x6_5 ex6_5
    refine g_istore C dX6_takes_113 (Nat.le_of_ble_eq_true rfl) (loc' := [(6, .int x6_5), (0, gR E o), (1, .int p1), (2, .int p2), (3, .int p3), (4, .int p4), (5, .int p5)]) rfl ?_
    refine g_aload_n C dX6_takes_115 1 rfl rfl ?_
    refine g_iload_n C dX6_takes_116 2 rfl rfl ?_
    refine g_aload_n C dX6_takes_117 1 rfl rfl ?_
    refine g_iload_n C dX6_takes_118 2 rfl rfl ?_
    refine g_cV C dX6_takes_119 (met_X6_many C.st hw) (gc_X6_many _ (Nat.le_of_ble_eq_true rfl) (Nat.le_of_ble_eq_true rfl)) tw1156 tw1158 twp32 (ci := 6) rfl (by decide) hk0 rfl (Nat.le_of_ble_eq_true rfl) (c2 := 0) (s2 := 0) rfl rfl (Nat.le_of_ble_eq_true rfl) (Nat.le_of_ble_eq_true rfl) rfl (kIp (fun r_6 hw => ?_)) tNo
    refine g_iload C (j := 0) dX6_takes_122 0 rfl ?_
    refine g_iload_n C dX6_takes_124 3 rfl rfl ?_
    refine g_iload_n C dX6_takes_125 4 rfl rfl ?_
    refine g_iload C (j := 0) dX6_takes_126 5 rfl ?_
    refine g_iload C (j := 0) dX6_takes_128 6 rfl ?_
    refine g_cV C dX6_takes_130 (met_X6_setsItem C.st hw) (gc_X6_setsItem _ (Nat.le_of_ble_eq_true rfl) (Nat.le_of_ble_eq_true rfl)) tw1201 tw1203 twp39 (ci := 6) rfl (by decide) hk0 rfl (Nat.le_of_ble_eq_true rfl) (c2 := 0) (s2 := 0) rfl rfl (Nat.le_of_ble_eq_true rfl) (Nat.le_of_ble_eq_true rfl) rfl (kV (fun M_9 hw => ?_)) tNo
    refine g_aload_n C dX6_takes_133 1 rfl rfl ?_
    refine g_iload_n C dX6_takes_134 2 rfl rfl ?_
    refine g_bipush C dX6_takes_135 (v := 9) rfl ?_
    refine g_aload_n C dX6_takes_137 1 rfl rfl ?_
    refine g_iload_n C dX6_takes_138 2 rfl rfl ?_
    refine g_cV C dX6_takes_139 (met_X6_many C.st hw) (gc_X6_many _ (Nat.le_of_ble_eq_true rfl) (Nat.le_of_ble_eq_true rfl)) tw1156 tw1158 twp32 (ci := 6) rfl (by decide) hk0 rfl (Nat.le_of_ble_eq_true rfl) (c2 := 0) (s2 := 0) rfl rfl (Nat.le_of_ble_eq_true rfl) (Nat.le_of_ble_eq_true rfl) rfl (kIp (fun r_10 hw => ?_)) tNo
    refine g_iconst C dX6_takes_142 (v := 1) rfl ?_
    refine g_iadd C dX6_takes_143 ?_
    refine g_cV C dX6_takes_144 (met_X6_sets C.st hw) (gc_X6_sets _ (Nat.le_of_ble_eq_true rfl) (Nat.le_of_ble_eq_true rfl)) tw1168 tw1170 twp35 (ci := 6) rfl (by decide) hk0 rfl (Nat.le_of_ble_eq_true rfl) (c2 := 0) (s2 := 0) rfl rfl (Nat.le_of_ble_eq_true rfl) (Nat.le_of_ble_eq_true rfl) rfl (kV (fun M_13 hw => ?_)) tNo
    refine g_aload_n C dX6_takes_147 1 rfl rfl ?_
    refine gf_RX6_7 C hk0 dX6_takes_148 ?_
    refine g_sipush C dX6_takes_151 (v := 1240) rfl ?_
    refine g_dup2 C dX6_takes_154 rfl rfl ?_
    refine g_iaload C hk_4 (i := 1240) (vp_lit rfl) dX6_takes_155 ?_
    refine g_iconst C dX6_takes_156 (v := 1) rfl ?_
    refine g_iadd C dX6_takes_157 ?_
    refine g_iastore C hk_4 (i := 1240) (vp_lit rfl) dX6_takes_158 ?_
    refine g_nmM (fun M_14 eM_14 => ?_)
    have hw := hw M_14 eM_14
    refine g_iload C (j := 0) dX6_takes_159 0 rfl ?_
    exact g_iret C dX6_takes_161 (Nat.le_of_ble_eq_true rfl) (Nat.le_of_ble_eq_true rfl) ⟨_, rfl, hw⟩
  refine g_if_le C dX6_takes_6 (tgt := 105) (by decide) (fun c6 => ?_) (fun c6 => ?_)
  · have hw := hw.1 c6
    exact hJ105 _ hw
  · have hw := hw.2 c6
    refine g_aload_n C dX6_takes_9 0 rfl rfl ?_
    refine g_iload_n C dX6_takes_10 1 rfl rfl ?_
    refine g_cV C dX6_takes_11 (met_X6_many C.st hw) (gc_X6_many _ (Nat.le_of_ble_eq_true rfl) (Nat.le_of_ble_eq_true rfl)) tw1156 tw1158 twp32 (ci := 6) rfl (by decide) hk0 rfl (Nat.le_of_ble_eq_true rfl) (c2 := 0) (s2 := 0) rfl rfl (Nat.le_of_ble_eq_true rfl) (Nat.le_of_ble_eq_true rfl) rfl (kIp (fun r_15 hw => ?_)) tNo
    refine g_aload_n C dX6_takes_14 0 rfl rfl ?_
    refine g_iload_n C dX6_takes_15 1 rfl rfl ?_
    refine g_iconst C dX6_takes_16 (v := 4) rfl ?_
    refine g_cV C dX6_takes_17 (met_X6_of C.st hw) (gc_X6_of _ (Nat.le_of_ble_eq_true rfl) (Nat.le_of_ble_eq_true rfl)) tw1160 tw1162 twp33 (ci := 6) rfl (by decide) hk0 rfl (Nat.le_of_ble_eq_true rfl) (c2 := 0) (s2 := 0) rfl rfl (Nat.le_of_ble_eq_true rfl) (Nat.le_of_ble_eq_true rfl) rfl (kIp (fun r_17 hw => ?_)) tNo
    refine g_icmp_ne C dX6_takes_20 (tgt := 105) (by decide) (fun c20 => ?_) (fun c20 => ?_)
    · have hw := hw.1 c20
      exact hJ105 _ hw
    · have hw := hw.2 c20
      refine g_iconst C dX6_takes_23 (v := 1) rfl ?_
      refine g_istore C dX6_takes_24 (Nat.le_of_ble_eq_true rfl) (loc' := [(6, .int 1), (0, gR E o), (1, .int p1), (2, .int p2), (3, .int p3), (4, .int p4), (5, .int p5)]) rfl ?_
      obtain ⟨m26, hw⟩ := hw
      have hL26 : ∀ (n26 : Nat) (x6_19 : Int32) (M_20 : MEM), wp_X6_takes_L26 o p1 p2 p3 p4 p5 Q n26 x6_19 M_20 → GX K E 7 M_20 [(0, gR E o), (1, .int p1), (2, .int p2), (3, .int p3), (4, .int p4), (5, .int p5), (6, .int x6_19)] [] 26 0 0 (gEnd K E (qI Q) gNo rmX6_takes.cells rmX6_takes.slots) := by
        intro n26
        induction n26 with
        | zero => intro _ _ hw; exact False.elim hw
        | succ n26 ih26 =>
          intro x6_19 M_20 hw
          refine g_iload C (j := 0) dX6_takes_26 6 rfl ?_
          refine g_aload_n C dX6_takes_28 0 rfl rfl ?_
          refine g_iload_n C dX6_takes_29 1 rfl rfl ?_
          refine g_cV C dX6_takes_30 (met_X6_many C.st hw) (gc_X6_many _ (Nat.le_of_ble_eq_true rfl) (Nat.le_of_ble_eq_true rfl)) tw1156 tw1158 twp32 (ci := 6) rfl (by decide) hk0 rfl (Nat.le_of_ble_eq_true rfl) (c2 := 0) (s2 := 0) rfl rfl (Nat.le_of_ble_eq_true rfl) (Nat.le_of_ble_eq_true rfl) rfl (kIp (fun r_21 hw => ?_)) tNo
          refine g_icmp_ge C dX6_takes_33 (tgt := 91) (by decide) (fun c33 => ?_) (fun c33 => ?_)
          · have hw := hw.1 c33
            refine g_aload_n C dX6_takes_91 0 rfl rfl ?_
            refine g_iload_n C dX6_takes_92 1 rfl rfl ?_
            refine g_bipush C dX6_takes_93 (v := 9) rfl ?_
            refine g_aload_n C dX6_takes_95 0 rfl rfl ?_
            refine g_iload_n C dX6_takes_96 1 rfl rfl ?_
            refine g_cV C dX6_takes_97 (met_X6_many C.st hw) (gc_X6_many _ (Nat.le_of_ble_eq_true rfl) (Nat.le_of_ble_eq_true rfl)) tw1156 tw1158 twp32 (ci := 6) rfl (by decide) hk0 rfl (Nat.le_of_ble_eq_true rfl) (c2 := 0) (s2 := 0) rfl rfl (Nat.le_of_ble_eq_true rfl) (Nat.le_of_ble_eq_true rfl) rfl (kIp (fun r_23 hw => ?_)) tNo
            refine g_iconst C dX6_takes_100 (v := 1) rfl ?_
            refine g_isub C dX6_takes_101 ?_
            refine g_cV C dX6_takes_102 (met_X6_sets C.st hw) (gc_X6_sets _ (Nat.le_of_ble_eq_true rfl) (Nat.le_of_ble_eq_true rfl)) tw1168 tw1170 twp35 (ci := 6) rfl (by decide) hk0 rfl (Nat.le_of_ble_eq_true rfl) (c2 := 0) (s2 := 0) rfl rfl (Nat.le_of_ble_eq_true rfl) (Nat.le_of_ble_eq_true rfl) rfl (kV (fun M_26 hw => ?_)) tNo
            refine g_sub [0, 1, 2, 3, 4, 5] rfl ?_
            exact hJ105 _ hw
          · have hw := hw.2 c33
            refine g_aload_n C dX6_takes_36 0 rfl rfl ?_
            refine g_iload_n C dX6_takes_37 1 rfl rfl ?_
            refine g_iload C (j := 0) dX6_takes_38 6 rfl ?_
            refine g_iconst C dX6_takes_40 (v := 1) rfl ?_
            refine g_isub C dX6_takes_41 ?_
            refine g_aload_n C dX6_takes_42 0 rfl rfl ?_
            refine g_iload_n C dX6_takes_43 1 rfl rfl ?_
            refine g_iload C (j := 0) dX6_takes_44 6 rfl ?_
            refine g_iconst C dX6_takes_46 (v := 0) rfl ?_
            refine g_cV C dX6_takes_47 (met_X6_item C.st hw) (gc_X6_item _ (Nat.le_of_ble_eq_true rfl) (Nat.le_of_ble_eq_true rfl)) tw1197 tw1199 twp38 (ci := 6) rfl (by decide) hk0 rfl (Nat.le_of_ble_eq_true rfl) (c2 := 0) (s2 := 0) rfl rfl (Nat.le_of_ble_eq_true rfl) (Nat.le_of_ble_eq_true rfl) rfl (kIp (fun r_27 hw => ?_)) tNo
            refine g_aload_n C dX6_takes_50 0 rfl rfl ?_
            refine g_iload_n C dX6_takes_51 1 rfl rfl ?_
            refine g_iload C (j := 0) dX6_takes_52 6 rfl ?_
            refine g_iconst C dX6_takes_54 (v := 1) rfl ?_
            refine g_cV C dX6_takes_55 (met_X6_item C.st hw) (gc_X6_item _ (Nat.le_of_ble_eq_true rfl) (Nat.le_of_ble_eq_true rfl)) tw1197 tw1199 twp38 (ci := 6) rfl (by decide) hk0 rfl (Nat.le_of_ble_eq_true rfl) (c2 := 0) (s2 := 0) rfl rfl (Nat.le_of_ble_eq_true rfl) (Nat.le_of_ble_eq_true rfl) rfl (kIp (fun r_29 hw => ?_)) tNo
            refine g_aload_n C dX6_takes_58 0 rfl rfl ?_
            refine g_iload_n C dX6_takes_59 1 rfl rfl ?_
            refine g_iload C (j := 0) dX6_takes_60 6 rfl ?_
            refine g_iconst C dX6_takes_62 (v := 2) rfl ?_
            refine g_cV C dX6_takes_63 (met_X6_item C.st hw) (gc_X6_item _ (Nat.le_of_ble_eq_true rfl) (Nat.le_of_ble_eq_true rfl)) tw1197 tw1199 twp38 (ci := 6) rfl (by decide) hk0 rfl (Nat.le_of_ble_eq_true rfl) (c2 := 0) (s2 := 0) rfl rfl (Nat.le_of_ble_eq_true rfl) (Nat.le_of_ble_eq_true rfl) rfl (kIp (fun r_31 hw => ?_)) tNo
            refine g_aload_n C dX6_takes_66 0 rfl rfl ?_
            refine g_iload_n C dX6_takes_67 1 rfl rfl ?_
            refine g_iload C (j := 0) dX6_takes_68 6 rfl ?_
            refine g_iconst C dX6_takes_70 (v := 3) rfl ?_
            refine g_cV C dX6_takes_71 (met_X6_item C.st hw) (gc_X6_item _ (Nat.le_of_ble_eq_true rfl) (Nat.le_of_ble_eq_true rfl)) tw1197 tw1199 twp38 (ci := 6) rfl (by decide) hk0 rfl (Nat.le_of_ble_eq_true rfl) (c2 := 0) (s2 := 0) rfl rfl (Nat.le_of_ble_eq_true rfl) (Nat.le_of_ble_eq_true rfl) rfl (kIp (fun r_33 hw => ?_)) tNo
            refine g_aload_n C dX6_takes_74 0 rfl rfl ?_
            refine g_iload_n C dX6_takes_75 1 rfl rfl ?_
            refine g_iload C (j := 0) dX6_takes_76 6 rfl ?_
            refine g_iconst C dX6_takes_78 (v := 4) rfl ?_
            refine g_cV C dX6_takes_79 (met_X6_item C.st hw) (gc_X6_item _ (Nat.le_of_ble_eq_true rfl) (Nat.le_of_ble_eq_true rfl)) tw1197 tw1199 twp38 (ci := 6) rfl (by decide) hk0 rfl (Nat.le_of_ble_eq_true rfl) (c2 := 0) (s2 := 0) rfl rfl (Nat.le_of_ble_eq_true rfl) (Nat.le_of_ble_eq_true rfl) rfl (kIp (fun r_35 hw => ?_)) tNo
            refine g_cV C dX6_takes_82 (met_X6_setsItem C.st hw) (gc_X6_setsItem _ (Nat.le_of_ble_eq_true rfl) (Nat.le_of_ble_eq_true rfl)) tw1201 tw1203 twp39 (ci := 6) rfl (by decide) hk0 rfl (Nat.le_of_ble_eq_true rfl) (c2 := 0) (s2 := 0) rfl rfl (Nat.le_of_ble_eq_true rfl) (Nat.le_of_ble_eq_true rfl) rfl (kV (fun M_38 hw => ?_)) tNo
            obtain ⟨x6_39, ex6_39⟩ : ∃ y : Int32, y = x6_19 + 1 := ⟨_, rfl⟩
            have hw := hw x6_39 ex6_39
            refine g_iinc C (j := 0) dX6_takes_85 6 rfl (v := x6_39) (by rw [ex6_39]; rfl) (Nat.le_of_ble_eq_true rfl) (loc' := [(6, .int x6_39), (0, gR E o), (1, .int p1), (2, .int p2), (3, .int p3), (4, .int p4), (5, .int p5)]) rfl ?_
            refine g_goto C dX6_takes_88 (tgt := 26) (by decide) ?_
            refine g_sub [1, 2, 3, 4, 5, 6, 0] rfl ?_
            exact ih26 _ _ hw
      refine g_sub [1, 2, 3, 4, 5, 6, 0] rfl ?_
      exact hL26 m26 _ _ hw
theorem gc_X6_takes : ∀ rm : Room, rmX6_takes.frames + 1 ≤ rm.frames → 8 + (7 + 11) + rmX6_takes.locals ≤ rm.locals → gCall yX6_takes 7 5 rmX6_takes rm := fun rm a b => ⟨Or.inl ⟨_, _, tw1196⟩, tw8, ⟨by decide, by decide⟩, by decide, a, b⟩
abbrev rmX6_offer : Room := { frames := 3, cells := 0, slots := 0, locals := 69 }
def wp_X6_offer (o : Nat) (p1 : Int32) (p2 : Int32) (p3 : Int32) (p4 : Int32) (p5 : Int32) (M : MEM) (Q : Int32 → MEM → Prop) : Prop := KD o = (16, 0) ∧ (wp_X6_isSlot p1 M (fun r_1 => (¬ r_1 = 0 → (wp_X6_isItem p2 p3 p4 p5 M (fun r_3 => (¬ r_3 = 0 → (wp_X6_isThere o p1 M (fun r_5 => (r_5 = 0 → (wp_X6_fails o 3 M (fun r_7 M_8 => Q r_7 M_8))) ∧ (¬ r_5 = 0 → (wp_X6_isFull o p1 1 M (fun r_9 => (r_9 = 0 → ((∀ M_11 : MEM, M_11 = uI M o 0 0 → (wp_X6_remembers o M_11 (fun M_13 => wp_X6_takes o p1 p2 p3 p4 p5 M_13 (fun r_14 M_15 => Q r_14 M_15)))))) ∧ (¬ r_9 = 0 → (wp_X6_fails o 3 M (fun r_16 M_17 => Q r_16 M_17))))))))) ∧ (r_3 = 0 → (wp_X6_fails o 2 M (fun r_18 M_19 => Q r_18 M_19)))))) ∧ (r_1 = 0 → (wp_X6_fails o 1 M (fun r_20 M_21 => Q r_20 M_21)))))
set_option maxRecDepth 100000 in
set_option maxHeartbeats 4000000 in
theorem met_X6_offer {l : Launch} (hl : l.stackTraces = false) {E : MK} {o : Nat} {p1 : Int32} {p2 : Int32} {p3 : Int32} {p4 : Int32} {p5 : Int32} {M : MEM} {Q : Int32 → MEM → Prop} (hw : wp_X6_offer o p1 p2 p3 p4 p5 M Q) : gMet l E yX6_offer rmX6_offer [gR E o, .int p1, .int p2, .int p3, .int p4, .int p5] M (qI Q) gNo := by
  obtain ⟨hk0, hw⟩ := hw
  refine g_met hl (cc := cX6_offer) (maxL := 6) (ret := (some .int)) (hh := []) (loc := [(0, gR E o), (1, .int p1), (2, .int p2), (3, .int p3), (4, .int p4), (5, .int p5)]) (by decide +kernel) (Or.inl ⟨tw1179, rfl⟩) (Nat.le_of_ble_eq_true rfl) rfl (fun K hK C => ?_)
  have C : GC K E cX6_offer RX6 6 (some .int) [] rmX6_offer := C
  refine g_iload_n C dX6_offer_0 1 rfl rfl ?_
  refine g_cS C dX6_offer_1 (met_X6_isSlot C.st hw) (gc_X6_isSlot _ (Nat.le_of_ble_eq_true rfl) (Nat.le_of_ble_eq_true rfl)) (Or.inl tw1128) tw1129 rfl (Nat.le_of_ble_eq_true rfl) (c2 := 0) (s2 := 0) rfl rfl (Nat.le_of_ble_eq_true rfl) (Nat.le_of_ble_eq_true rfl) rfl (kIp (fun r_1 hw => ?_)) tNo
  refine g_if_ne C dX6_offer_4 (tgt := 13) (by decide) (fun c4 => ?_) (fun c4 => ?_)
  · have hw := hw.1 c4
    refine g_iload_n C dX6_offer_13 2 rfl rfl ?_
    refine g_iload_n C dX6_offer_14 3 rfl rfl ?_
    refine g_iload C (j := 0) dX6_offer_15 4 rfl ?_
    refine g_iload C (j := 0) dX6_offer_17 5 rfl ?_
    refine g_cS C dX6_offer_19 (met_X6_isItem C.st hw) (gc_X6_isItem _ (Nat.le_of_ble_eq_true rfl) (Nat.le_of_ble_eq_true rfl)) (Or.inl tw1180) tw1181 rfl (Nat.le_of_ble_eq_true rfl) (c2 := 0) (s2 := 0) rfl rfl (Nat.le_of_ble_eq_true rfl) (Nat.le_of_ble_eq_true rfl) rfl (kIp (fun r_3 hw => ?_)) tNo
    refine g_if_ne C dX6_offer_22 (tgt := 31) (by decide) (fun c22 => ?_) (fun c22 => ?_)
    · have hw := hw.1 c22
      refine g_aload_n C dX6_offer_31 0 rfl rfl ?_
      refine g_iload_n C dX6_offer_32 1 rfl rfl ?_
      refine g_cV C dX6_offer_33 (met_X6_isThere C.st hw) (gc_X6_isThere _ (Nat.le_of_ble_eq_true rfl) (Nat.le_of_ble_eq_true rfl)) tw1152 tw1154 twp31 (ci := 6) rfl (by decide) hk0 rfl (Nat.le_of_ble_eq_true rfl) (c2 := 0) (s2 := 0) rfl rfl (Nat.le_of_ble_eq_true rfl) (Nat.le_of_ble_eq_true rfl) rfl (kIp (fun r_5 hw => ?_)) tNo
      refine g_if_eq C dX6_offer_36 (tgt := 48) (by decide) (fun c36 => ?_) (fun c36 => ?_)
      · have hw := hw.1 c36
        refine g_aload_n C dX6_offer_48 0 rfl rfl ?_
        refine g_iconst C dX6_offer_49 (v := 3) rfl ?_
        refine g_cV C dX6_offer_50 (met_X6_fails C.st hw) (gc_X6_fails _ (Nat.le_of_ble_eq_true rfl) (Nat.le_of_ble_eq_true rfl)) tw1131 tw1133 twp28 (ci := 6) rfl (by decide) hk0 rfl (Nat.le_of_ble_eq_true rfl) (c2 := 0) (s2 := 0) rfl rfl (Nat.le_of_ble_eq_true rfl) (Nat.le_of_ble_eq_true rfl) rfl (kI (fun r_7 M_8 hw => ?_)) tNo
        exact g_iret C dX6_offer_53 (Nat.le_of_ble_eq_true rfl) (Nat.le_of_ble_eq_true rfl) ⟨_, rfl, hw⟩
      · have hw := hw.2 c36
        refine g_aload_n C dX6_offer_39 0 rfl rfl ?_
        refine g_iload_n C dX6_offer_40 1 rfl rfl ?_
        refine g_iconst C dX6_offer_41 (v := 1) rfl ?_
        refine g_cV C dX6_offer_42 (met_X6_isFull C.st hw) (gc_X6_isFull _ (Nat.le_of_ble_eq_true rfl) (Nat.le_of_ble_eq_true rfl)) tw1189 tw1191 twp36 (ci := 6) rfl (by decide) hk0 rfl (Nat.le_of_ble_eq_true rfl) (c2 := 0) (s2 := 0) rfl rfl (Nat.le_of_ble_eq_true rfl) (Nat.le_of_ble_eq_true rfl) rfl (kIp (fun r_9 hw => ?_)) tNo
        refine g_if_eq C dX6_offer_45 (tgt := 54) (by decide) (fun c45 => ?_) (fun c45 => ?_)
        · have hw := hw.1 c45
          refine g_aload_n C dX6_offer_54 0 rfl rfl ?_
          refine g_iconst C dX6_offer_55 (v := 0) rfl ?_
          refine pf_RX6_57 C hk0 dX6_offer_56 ?_
          refine g_nmM (fun M_11 eM_11 => ?_)
          have hw := hw M_11 eM_11
          refine g_aload_n C dX6_offer_59 0 rfl rfl ?_
          refine g_cV C dX6_offer_60 (met_X6_remembers C.st hw) (gc_X6_remembers _ (Nat.le_of_ble_eq_true rfl) (Nat.le_of_ble_eq_true rfl)) tw1144 tw1146 twp29 (ci := 6) rfl (by decide) hk0 rfl (Nat.le_of_ble_eq_true rfl) (c2 := 0) (s2 := 0) rfl rfl (Nat.le_of_ble_eq_true rfl) (Nat.le_of_ble_eq_true rfl) rfl (kV (fun M_13 hw => ?_)) tNo
          refine g_aload_n C dX6_offer_63 0 rfl rfl ?_
          refine g_iload_n C dX6_offer_64 1 rfl rfl ?_
          refine g_iload_n C dX6_offer_65 2 rfl rfl ?_
          refine g_iload_n C dX6_offer_66 3 rfl rfl ?_
          refine g_iload C (j := 0) dX6_offer_67 4 rfl ?_
          refine g_iload C (j := 0) dX6_offer_69 5 rfl ?_
          refine g_cV C dX6_offer_71 (met_X6_takes C.st hw) (gc_X6_takes _ (Nat.le_of_ble_eq_true rfl) (Nat.le_of_ble_eq_true rfl)) tw1193 tw1195 twp37 (ci := 6) rfl (by decide) hk0 rfl (Nat.le_of_ble_eq_true rfl) (c2 := 0) (s2 := 0) rfl rfl (Nat.le_of_ble_eq_true rfl) (Nat.le_of_ble_eq_true rfl) rfl (kI (fun r_14 M_15 hw => ?_)) tNo
          exact g_iret C dX6_offer_74 (Nat.le_of_ble_eq_true rfl) (Nat.le_of_ble_eq_true rfl) ⟨_, rfl, hw⟩
        · have hw := hw.2 c45
          refine g_aload_n C dX6_offer_48 0 rfl rfl ?_
          refine g_iconst C dX6_offer_49 (v := 3) rfl ?_
          refine g_cV C dX6_offer_50 (met_X6_fails C.st hw) (gc_X6_fails _ (Nat.le_of_ble_eq_true rfl) (Nat.le_of_ble_eq_true rfl)) tw1131 tw1133 twp28 (ci := 6) rfl (by decide) hk0 rfl (Nat.le_of_ble_eq_true rfl) (c2 := 0) (s2 := 0) rfl rfl (Nat.le_of_ble_eq_true rfl) (Nat.le_of_ble_eq_true rfl) rfl (kI (fun r_16 M_17 hw => ?_)) tNo
          exact g_iret C dX6_offer_53 (Nat.le_of_ble_eq_true rfl) (Nat.le_of_ble_eq_true rfl) ⟨_, rfl, hw⟩
    · have hw := hw.2 c22
      refine g_aload_n C dX6_offer_25 0 rfl rfl ?_
      refine g_iconst C dX6_offer_26 (v := 2) rfl ?_
      refine g_cV C dX6_offer_27 (met_X6_fails C.st hw) (gc_X6_fails _ (Nat.le_of_ble_eq_true rfl) (Nat.le_of_ble_eq_true rfl)) tw1131 tw1133 twp28 (ci := 6) rfl (by decide) hk0 rfl (Nat.le_of_ble_eq_true rfl) (c2 := 0) (s2 := 0) rfl rfl (Nat.le_of_ble_eq_true rfl) (Nat.le_of_ble_eq_true rfl) rfl (kI (fun r_18 M_19 hw => ?_)) tNo
      exact g_iret C dX6_offer_30 (Nat.le_of_ble_eq_true rfl) (Nat.le_of_ble_eq_true rfl) ⟨_, rfl, hw⟩
  · have hw := hw.2 c4
    refine g_aload_n C dX6_offer_7 0 rfl rfl ?_
    refine g_iconst C dX6_offer_8 (v := 1) rfl ?_
    refine g_cV C dX6_offer_9 (met_X6_fails C.st hw) (gc_X6_fails _ (Nat.le_of_ble_eq_true rfl) (Nat.le_of_ble_eq_true rfl)) tw1131 tw1133 twp28 (ci := 6) rfl (by decide) hk0 rfl (Nat.le_of_ble_eq_true rfl) (c2 := 0) (s2 := 0) rfl rfl (Nat.le_of_ble_eq_true rfl) (Nat.le_of_ble_eq_true rfl) rfl (kI (fun r_20 M_21 hw => ?_)) tNo
    exact g_iret C dX6_offer_12 (Nat.le_of_ble_eq_true rfl) (Nat.le_of_ble_eq_true rfl) ⟨_, rfl, hw⟩
theorem gc_X6_offer : ∀ rm : Room, rmX6_offer.frames + 1 ≤ rm.frames → 8 + (6 + 11) + rmX6_offer.locals ≤ rm.locals → gCall yX6_offer 6 5 rmX6_offer rm := fun rm a b => ⟨Or.inl ⟨_, _, tw1179⟩, tw8, ⟨by decide, by decide⟩, by decide, a, b⟩
abbrev rmX6_offerDrawn : Room := { frames := 3, cells := 0, slots := 0, locals := 69 }
def wp_X6_offerDrawn_L69 (o : Nat) (p1 : Int32) (p3 : Int32) (Q : Int32 → MEM → Prop) : Nat → Int32 → Int32 → MEM → Prop
  | 0, _, _, _ => False
  | n69 + 1, x4_14, x5_15, M_16 => (p3 ≤ x5_15 → (wp_X6_many o p1 M_16 (fun r_17 => Q r_17 M_16))) ∧ (¬ p3 ≤ x5_15 → (∀ x4_19 : Int32, x4_19 = (x4_14 * 1103515245) + 12345 → (∀ x6_20 : Int32, x6_20 = gush x4_19 8 → (wp_X6_takes o p1 (x6_20 - x6_20 / 100 * 100) ((x6_20 / 100) - (x6_20 / 100) / 4 * 4) (((x6_20 / 400) - (x6_20 / 400) / 99 * 99) + 1) ((x6_20 - x6_20 / 1999 * 1999) - 999) M_16 (fun r_21 M_22 => ∀ x5_23 : Int32, x5_23 = x5_15 + 1 → ((wp_X6_offerDrawn_L69 o p1 p3 Q n69) x4_19 x5_23 M_22))))))
def wp_X6_offerDrawn (o : Nat) (p1 : Int32) (p2 : Int32) (p3 : Int32) (M : MEM) (Q : Int32 → MEM → Prop) : Prop := KD o = (16, 0) ∧ (wp_X6_isSlot p1 M (fun r_1 => (¬ r_1 = 0 → (wp_X6_isBetween p3.toInt64 0 60 M (fun r_3 => (¬ r_3 = 0 → (wp_X6_isThere o p1 M (fun r_5 => (r_5 = 0 → (wp_X6_fails o 3 M (fun r_7 M_8 => Q r_7 M_8))) ∧ (¬ r_5 = 0 → (wp_X6_isFull o p1 p3 M (fun r_9 => (r_9 = 0 → ((∀ M_11 : MEM, M_11 = uI M o 0 0 → (wp_X6_remembers o M_11 (fun M_13 => ∃ m69 : Nat, wp_X6_offerDrawn_L69 o p1 p3 Q m69 p2 0 M_13))))) ∧ (¬ r_9 = 0 → (wp_X6_fails o 3 M (fun r_24 M_25 => Q r_24 M_25))))))))) ∧ (r_3 = 0 → (wp_X6_fails o 2 M (fun r_26 M_27 => Q r_26 M_27)))))) ∧ (r_1 = 0 → (wp_X6_fails o 1 M (fun r_28 M_29 => Q r_28 M_29)))))
set_option maxRecDepth 100000 in
set_option maxHeartbeats 4000000 in
theorem met_X6_offerDrawn {l : Launch} (hl : l.stackTraces = false) {E : MK} {o : Nat} {p1 : Int32} {p2 : Int32} {p3 : Int32} {M : MEM} {Q : Int32 → MEM → Prop} (hw : wp_X6_offerDrawn o p1 p2 p3 M Q) : gMet l E yX6_offerDrawn rmX6_offerDrawn [gR E o, .int p1, .int p2, .int p3] M (qI Q) gNo := by
  obtain ⟨hk0, hw⟩ := hw
  refine g_met hl (cc := cX6_offerDrawn) (maxL := 7) (ret := (some .int)) (hh := []) (loc := [(0, gR E o), (1, .int p1), (2, .int p2), (3, .int p3)]) (by decide +kernel) (Or.inl ⟨tw1208, rfl⟩) (Nat.le_of_ble_eq_true rfl) rfl (fun K hK C => ?_)
  have C : GC K E cX6_offerDrawn RX6 7 (some .int) [] rmX6_offerDrawn := C
  refine g_iload_n C dX6_offerDrawn_0 1 rfl rfl ?_
  refine g_cS C dX6_offerDrawn_1 (met_X6_isSlot C.st hw) (gc_X6_isSlot _ (Nat.le_of_ble_eq_true rfl) (Nat.le_of_ble_eq_true rfl)) (Or.inl tw1128) tw1129 rfl (Nat.le_of_ble_eq_true rfl) (c2 := 0) (s2 := 0) rfl rfl (Nat.le_of_ble_eq_true rfl) (Nat.le_of_ble_eq_true rfl) rfl (kIp (fun r_1 hw => ?_)) tNo
  refine g_if_ne C dX6_offerDrawn_4 (tgt := 13) (by decide) (fun c4 => ?_) (fun c4 => ?_)
  · have hw := hw.1 c4
    refine g_iload_n C dX6_offerDrawn_13 3 rfl rfl ?_
    refine g_i2l C dX6_offerDrawn_14 ?_
    refine g_lconst C dX6_offerDrawn_15 (v := 0) rfl ?_
    refine g_ldc2 C dX6_offerDrawn_16 tw1209 ?_
    refine g_cS C dX6_offerDrawn_19 (met_X6_isBetween C.st hw) (gc_X6_isBetween _ (Nat.le_of_ble_eq_true rfl) (Nat.le_of_ble_eq_true rfl)) (Or.inl tw1139) tw1140 rfl (Nat.le_of_ble_eq_true rfl) (c2 := 0) (s2 := 0) rfl rfl (Nat.le_of_ble_eq_true rfl) (Nat.le_of_ble_eq_true rfl) rfl (kIp (fun r_3 hw => ?_)) tNo
    refine g_if_ne C dX6_offerDrawn_22 (tgt := 31) (by decide) (fun c22 => ?_) (fun c22 => ?_)
    · have hw := hw.1 c22
      refine g_aload_n C dX6_offerDrawn_31 0 rfl rfl ?_
      refine g_iload_n C dX6_offerDrawn_32 1 rfl rfl ?_
      refine g_cV C dX6_offerDrawn_33 (met_X6_isThere C.st hw) (gc_X6_isThere _ (Nat.le_of_ble_eq_true rfl) (Nat.le_of_ble_eq_true rfl)) tw1152 tw1154 twp31 (ci := 6) rfl (by decide) hk0 rfl (Nat.le_of_ble_eq_true rfl) (c2 := 0) (s2 := 0) rfl rfl (Nat.le_of_ble_eq_true rfl) (Nat.le_of_ble_eq_true rfl) rfl (kIp (fun r_5 hw => ?_)) tNo
      refine g_if_eq C dX6_offerDrawn_36 (tgt := 48) (by decide) (fun c36 => ?_) (fun c36 => ?_)
      · have hw := hw.1 c36
        refine g_aload_n C dX6_offerDrawn_48 0 rfl rfl ?_
        refine g_iconst C dX6_offerDrawn_49 (v := 3) rfl ?_
        refine g_cV C dX6_offerDrawn_50 (met_X6_fails C.st hw) (gc_X6_fails _ (Nat.le_of_ble_eq_true rfl) (Nat.le_of_ble_eq_true rfl)) tw1131 tw1133 twp28 (ci := 6) rfl (by decide) hk0 rfl (Nat.le_of_ble_eq_true rfl) (c2 := 0) (s2 := 0) rfl rfl (Nat.le_of_ble_eq_true rfl) (Nat.le_of_ble_eq_true rfl) rfl (kI (fun r_7 M_8 hw => ?_)) tNo
        exact g_iret C dX6_offerDrawn_53 (Nat.le_of_ble_eq_true rfl) (Nat.le_of_ble_eq_true rfl) ⟨_, rfl, hw⟩
      · have hw := hw.2 c36
        refine g_aload_n C dX6_offerDrawn_39 0 rfl rfl ?_
        refine g_iload_n C dX6_offerDrawn_40 1 rfl rfl ?_
        refine g_iload_n C dX6_offerDrawn_41 3 rfl rfl ?_
        refine g_cV C dX6_offerDrawn_42 (met_X6_isFull C.st hw) (gc_X6_isFull _ (Nat.le_of_ble_eq_true rfl) (Nat.le_of_ble_eq_true rfl)) tw1189 tw1191 twp36 (ci := 6) rfl (by decide) hk0 rfl (Nat.le_of_ble_eq_true rfl) (c2 := 0) (s2 := 0) rfl rfl (Nat.le_of_ble_eq_true rfl) (Nat.le_of_ble_eq_true rfl) rfl (kIp (fun r_9 hw => ?_)) tNo
        refine g_if_eq C dX6_offerDrawn_45 (tgt := 54) (by decide) (fun c45 => ?_) (fun c45 => ?_)
        · have hw := hw.1 c45
          refine g_aload_n C dX6_offerDrawn_54 0 rfl rfl ?_
          refine g_iconst C dX6_offerDrawn_55 (v := 0) rfl ?_
          refine pf_RX6_57 C hk0 dX6_offerDrawn_56 ?_
          refine g_nmM (fun M_11 eM_11 => ?_)
          have hw := hw M_11 eM_11
          refine g_aload_n C dX6_offerDrawn_59 0 rfl rfl ?_
          refine g_cV C dX6_offerDrawn_60 (met_X6_remembers C.st hw) (gc_X6_remembers _ (Nat.le_of_ble_eq_true rfl) (Nat.le_of_ble_eq_true rfl)) tw1144 tw1146 twp29 (ci := 6) rfl (by decide) hk0 rfl (Nat.le_of_ble_eq_true rfl) (c2 := 0) (s2 := 0) rfl rfl (Nat.le_of_ble_eq_true rfl) (Nat.le_of_ble_eq_true rfl) rfl (kV (fun M_13 hw => ?_)) tNo
          refine g_iload_n C dX6_offerDrawn_63 2 rfl rfl ?_
          refine g_istore C dX6_offerDrawn_64 (Nat.le_of_ble_eq_true rfl) (loc' := [(4, .int p2), (0, gR E o), (1, .int p1), (2, .int p2), (3, .int p3)]) rfl ?_
          refine g_iconst C dX6_offerDrawn_66 (v := 0) rfl ?_
          refine g_istore C dX6_offerDrawn_67 (Nat.le_of_ble_eq_true rfl) (loc' := [(5, .int 0), (4, .int p2), (0, gR E o), (1, .int p1), (2, .int p2), (3, .int p3)]) rfl ?_
          obtain ⟨m69, hw⟩ := hw
          have hL69 : ∀ (n69 : Nat) (x4_14 : Int32) (x5_15 : Int32) (M_16 : MEM), wp_X6_offerDrawn_L69 o p1 p3 Q n69 x4_14 x5_15 M_16 → GX K E 7 M_16 [(0, gR E o), (1, .int p1), (3, .int p3), (4, .int x4_14), (5, .int x5_15)] [] 69 0 0 (gEnd K E (qI Q) gNo rmX6_offerDrawn.cells rmX6_offerDrawn.slots) := by
            intro n69
            induction n69 with
            | zero => intro _ _ _ hw; exact False.elim hw
            | succ n69 ih69 =>
              intro x4_14 x5_15 M_16 hw
              refine g_iload C (j := 0) dX6_offerDrawn_69 4 rfl ?_
              refine g_iload_n C dX6_offerDrawn_71 2 rfl rfl ?_
              refine g_icmp_ge C dX6_offerDrawn_72 (tgt := 138) (by decide) (fun c72 => ?_) (fun c72 => ?_)
              · have hw := hw.1 c72
                refine g_aload_n C dX6_offerDrawn_138 0 rfl rfl ?_
                refine g_iload_n C dX6_offerDrawn_139 1 rfl rfl ?_
                refine g_cV C dX6_offerDrawn_140 (met_X6_many C.st hw) (gc_X6_many _ (Nat.le_of_ble_eq_true rfl) (Nat.le_of_ble_eq_true rfl)) tw1156 tw1158 twp32 (ci := 6) rfl (by decide) hk0 rfl (Nat.le_of_ble_eq_true rfl) (c2 := 0) (s2 := 0) rfl rfl (Nat.le_of_ble_eq_true rfl) (Nat.le_of_ble_eq_true rfl) rfl (kIp (fun r_17 hw => ?_)) tNo
                exact g_iret C dX6_offerDrawn_143 (Nat.le_of_ble_eq_true rfl) (Nat.le_of_ble_eq_true rfl) ⟨_, rfl, hw⟩
              · have hw := hw.2 c72
                refine g_iload C (j := 0) dX6_offerDrawn_75 3 rfl ?_
                refine g_ldc C dX6_offerDrawn_77 tw1210 ?_
                refine g_imul C dX6_offerDrawn_79 ?_
                refine g_sipush C dX6_offerDrawn_80 (v := 12345) rfl ?_
                refine g_iadd C dX6_offerDrawn_83 ?_
                refine g_nmI (fun x4_19 ex4_19 => ?_)
                have hw := hw x4_19 ex4_19
                refine g_istore C dX6_offerDrawn_84 (Nat.le_of_ble_eq_true rfl) (loc' := [(4, .int x4_19), (0, gR E o), (1, .int p1), (3, .int p3), (5, .int x5_15)]) rfl ?_
                refine g_iload C (j := 0) dX6_offerDrawn_86 0 rfl ?_
                refine g_bipush C dX6_offerDrawn_88 (v := 8) rfl ?_
                refine g_iushr C dX6_offerDrawn_90 ?_
                refine g_nmI (fun x6_20 ex6_20 => ?_)
                have hw := hw x6_20 ex6_20
                refine g_istore C dX6_offerDrawn_91 (Nat.le_of_ble_eq_true rfl) (loc' := [(6, .int x6_20), (4, .int x4_19), (0, gR E o), (1, .int p1), (3, .int p3), (5, .int x5_15)]) rfl ?_
                refine g_aload_n C dX6_offerDrawn_93 2 rfl rfl ?_
                refine g_iload_n C dX6_offerDrawn_94 3 rfl rfl ?_
                refine g_iload C (j := 0) dX6_offerDrawn_95 0 rfl ?_
                refine g_bipush C dX6_offerDrawn_97 (v := 100) rfl ?_
                refine g_irem C dX6_offerDrawn_99 (by decide) ?_
                refine g_iload C (j := 0) dX6_offerDrawn_100 0 rfl ?_
                refine g_bipush C dX6_offerDrawn_102 (v := 100) rfl ?_
                refine g_idiv C dX6_offerDrawn_104 (by decide) ?_
                refine g_iconst C dX6_offerDrawn_105 (v := 4) rfl ?_
                refine g_irem C dX6_offerDrawn_106 (by decide) ?_
                refine g_iload C (j := 0) dX6_offerDrawn_107 0 rfl ?_
                refine g_sipush C dX6_offerDrawn_109 (v := 400) rfl ?_
                refine g_idiv C dX6_offerDrawn_112 (by decide) ?_
                refine g_bipush C dX6_offerDrawn_113 (v := 99) rfl ?_
                refine g_irem C dX6_offerDrawn_115 (by decide) ?_
                refine g_iconst C dX6_offerDrawn_116 (v := 1) rfl ?_
                refine g_iadd C dX6_offerDrawn_117 ?_
                refine g_iload C (j := 0) dX6_offerDrawn_118 0 rfl ?_
                refine g_sipush C dX6_offerDrawn_120 (v := 1999) rfl ?_
                refine g_irem C dX6_offerDrawn_123 (by decide) ?_
                refine g_sipush C dX6_offerDrawn_124 (v := 999) rfl ?_
                refine g_isub C dX6_offerDrawn_127 ?_
                refine g_cV C dX6_offerDrawn_128 (met_X6_takes C.st hw) (gc_X6_takes _ (Nat.le_of_ble_eq_true rfl) (Nat.le_of_ble_eq_true rfl)) tw1193 tw1195 twp37 (ci := 6) rfl (by decide) hk0 rfl (Nat.le_of_ble_eq_true rfl) (c2 := 0) (s2 := 0) rfl rfl (Nat.le_of_ble_eq_true rfl) (Nat.le_of_ble_eq_true rfl) rfl (kI (fun r_21 M_22 hw => ?_)) tNo
                refine g_pop C dX6_offerDrawn_131 rfl ?_
                obtain ⟨x5_23, ex5_23⟩ : ∃ y : Int32, y = x5_15 + 1 := ⟨_, rfl⟩
                have hw := hw x5_23 ex5_23
                refine g_iinc C (j := 0) dX6_offerDrawn_132 5 rfl (v := x5_23) (by rw [ex5_23]; rfl) (Nat.le_of_ble_eq_true rfl) (loc' := [(5, .int x5_23), (6, .int x6_20), (4, .int x4_19), (0, gR E o), (1, .int p1), (3, .int p3)]) rfl ?_
                refine g_goto C dX6_offerDrawn_135 (tgt := 69) (by decide) ?_
                refine g_sub [3, 4, 5, 2, 0] rfl ?_
                exact ih69 _ _ _ hw
          refine g_sub [2, 3, 5, 1, 0] rfl ?_
          exact hL69 m69 _ _ _ hw
        · have hw := hw.2 c45
          refine g_aload_n C dX6_offerDrawn_48 0 rfl rfl ?_
          refine g_iconst C dX6_offerDrawn_49 (v := 3) rfl ?_
          refine g_cV C dX6_offerDrawn_50 (met_X6_fails C.st hw) (gc_X6_fails _ (Nat.le_of_ble_eq_true rfl) (Nat.le_of_ble_eq_true rfl)) tw1131 tw1133 twp28 (ci := 6) rfl (by decide) hk0 rfl (Nat.le_of_ble_eq_true rfl) (c2 := 0) (s2 := 0) rfl rfl (Nat.le_of_ble_eq_true rfl) (Nat.le_of_ble_eq_true rfl) rfl (kI (fun r_24 M_25 hw => ?_)) tNo
          exact g_iret C dX6_offerDrawn_53 (Nat.le_of_ble_eq_true rfl) (Nat.le_of_ble_eq_true rfl) ⟨_, rfl, hw⟩
    · have hw := hw.2 c22
      refine g_aload_n C dX6_offerDrawn_25 0 rfl rfl ?_
      refine g_iconst C dX6_offerDrawn_26 (v := 2) rfl ?_
      refine g_cV C dX6_offerDrawn_27 (met_X6_fails C.st hw) (gc_X6_fails _ (Nat.le_of_ble_eq_true rfl) (Nat.le_of_ble_eq_true rfl)) tw1131 tw1133 twp28 (ci := 6) rfl (by decide) hk0 rfl (Nat.le_of_ble_eq_true rfl) (c2 := 0) (s2 := 0) rfl rfl (Nat.le_of_ble_eq_true rfl) (Nat.le_of_ble_eq_true rfl) rfl (kI (fun r_26 M_27 hw => ?_)) tNo
      exact g_iret C dX6_offerDrawn_30 (Nat.le_of_ble_eq_true rfl) (Nat.le_of_ble_eq_true rfl) ⟨_, rfl, hw⟩
  · have hw := hw.2 c4
    refine g_aload_n C dX6_offerDrawn_7 0 rfl rfl ?_
    refine g_iconst C dX6_offerDrawn_8 (v := 1) rfl ?_
    refine g_cV C dX6_offerDrawn_9 (met_X6_fails C.st hw) (gc_X6_fails _ (Nat.le_of_ble_eq_true rfl) (Nat.le_of_ble_eq_true rfl)) tw1131 tw1133 twp28 (ci := 6) rfl (by decide) hk0 rfl (Nat.le_of_ble_eq_true rfl) (c2 := 0) (s2 := 0) rfl rfl (Nat.le_of_ble_eq_true rfl) (Nat.le_of_ble_eq_true rfl) rfl (kI (fun r_28 M_29 hw => ?_)) tNo
    exact g_iret C dX6_offerDrawn_12 (Nat.le_of_ble_eq_true rfl) (Nat.le_of_ble_eq_true rfl) ⟨_, rfl, hw⟩
theorem gc_X6_offerDrawn : ∀ rm : Room, rmX6_offerDrawn.frames + 1 ≤ rm.frames → 8 + (7 + 11) + rmX6_offerDrawn.locals ≤ rm.locals → gCall yX6_offerDrawn 7 3 rmX6_offerDrawn rm := fun rm a b => ⟨Or.inl ⟨_, _, tw1208⟩, tw8, ⟨by decide, by decide⟩, by decide, a, b⟩
abbrev rmX6_mixOf : Room := { frames := 0, cells := 0, slots := 0, locals := 0 }
def wp_X6_mixOf (p1 : Int32) (p2 : Int32) (M : MEM) (Q : Int64 → Prop) : Prop := ∀ x2_1 : Int32, x2_1 = p1 ^^^ (p2 * (-1640531527)) → (∀ x2_2 : Int32, x2_2 = x2_1 ^^^ (gush x2_1 16) → (∀ x2_3 : Int32, x2_3 = x2_2 * (-2048144789) → (∀ x2_4 : Int32, x2_4 = x2_3 ^^^ (gush x2_3 13) → (∀ x2_5 : Int32, x2_5 = x2_4 * (-1028477387) → (∀ x2_6 : Int32, x2_6 = x2_5 ^^^ (gush x2_5 16) → (Q ((x2_6.toInt64 &&& 2147483647) + 1)))))))
set_option maxRecDepth 100000 in
set_option maxHeartbeats 4000000 in
theorem met_X6_mixOf {l : Launch} (hl : l.stackTraces = false) {E : MK} {p1 : Int32} {p2 : Int32} {M : MEM} {Q : Int64 → Prop} (hw : wp_X6_mixOf p1 p2 M Q) : gMet l E yX6_mixOf rmX6_mixOf [.int p1, .int p2] M (qLp M Q) gNo := by
  refine g_met hl (cc := cX6_mixOf) (maxL := 3) (ret := (some .long)) (hh := []) (loc := [(0, .int p1), (1, .int p2)]) (by decide +kernel) (Or.inl ⟨tw1238, rfl⟩) (Nat.le_of_ble_eq_true rfl) rfl (fun K hK C => ?_)
  have C : GC K E cX6_mixOf RX6 3 (some .long) [] rmX6_mixOf := C
  refine g_iload_n C dX6_mixOf_0 0 rfl rfl ?_
  refine g_iload_n C dX6_mixOf_1 1 rfl rfl ?_
  refine g_ldc C dX6_mixOf_2 tw1239 ?_
  refine g_imul C dX6_mixOf_4 ?_
  refine g_ixor C dX6_mixOf_5 ?_
  refine g_nmI (fun x2_1 ex2_1 => ?_)
  have hw := hw x2_1 ex2_1
  refine g_istore_n C dX6_mixOf_6 rfl (Nat.le_of_ble_eq_true rfl) (loc' := [(2, .int x2_1), (0, .int p1), (1, .int p2)]) rfl ?_
  refine g_iload_n C dX6_mixOf_7 0 rfl rfl ?_
  refine g_iload_n C dX6_mixOf_8 0 rfl rfl ?_
  refine g_bipush C dX6_mixOf_9 (v := 16) rfl ?_
  refine g_iushr C dX6_mixOf_11 ?_
  refine g_ixor C dX6_mixOf_12 ?_
  refine g_nmI (fun x2_2 ex2_2 => ?_)
  have hw := hw x2_2 ex2_2
  refine g_istore_n C dX6_mixOf_13 rfl (Nat.le_of_ble_eq_true rfl) (loc' := [(2, .int x2_2), (0, .int p1), (1, .int p2)]) rfl ?_
  refine g_iload_n C dX6_mixOf_14 0 rfl rfl ?_
  refine g_ldc C dX6_mixOf_15 tw1240 ?_
  refine g_imul C dX6_mixOf_17 ?_
  refine g_nmI (fun x2_3 ex2_3 => ?_)
  have hw := hw x2_3 ex2_3
  refine g_istore_n C dX6_mixOf_18 rfl (Nat.le_of_ble_eq_true rfl) (loc' := [(2, .int x2_3), (0, .int p1), (1, .int p2)]) rfl ?_
  refine g_iload_n C dX6_mixOf_19 0 rfl rfl ?_
  refine g_iload_n C dX6_mixOf_20 0 rfl rfl ?_
  refine g_bipush C dX6_mixOf_21 (v := 13) rfl ?_
  refine g_iushr C dX6_mixOf_23 ?_
  refine g_ixor C dX6_mixOf_24 ?_
  refine g_nmI (fun x2_4 ex2_4 => ?_)
  have hw := hw x2_4 ex2_4
  refine g_istore_n C dX6_mixOf_25 rfl (Nat.le_of_ble_eq_true rfl) (loc' := [(2, .int x2_4), (0, .int p1), (1, .int p2)]) rfl ?_
  refine g_iload_n C dX6_mixOf_26 0 rfl rfl ?_
  refine g_ldc C dX6_mixOf_27 tw1241 ?_
  refine g_imul C dX6_mixOf_29 ?_
  refine g_nmI (fun x2_5 ex2_5 => ?_)
  have hw := hw x2_5 ex2_5
  refine g_istore_n C dX6_mixOf_30 rfl (Nat.le_of_ble_eq_true rfl) (loc' := [(2, .int x2_5), (0, .int p1), (1, .int p2)]) rfl ?_
  refine g_iload_n C dX6_mixOf_31 0 rfl rfl ?_
  refine g_iload_n C dX6_mixOf_32 0 rfl rfl ?_
  refine g_bipush C dX6_mixOf_33 (v := 16) rfl ?_
  refine g_iushr C dX6_mixOf_35 ?_
  refine g_ixor C dX6_mixOf_36 ?_
  refine g_nmI (fun x2_6 ex2_6 => ?_)
  have hw := hw x2_6 ex2_6
  refine g_istore_n C dX6_mixOf_37 rfl (Nat.le_of_ble_eq_true rfl) (loc' := [(2, .int x2_6), (0, .int p1), (1, .int p2)]) rfl ?_
  refine g_iload_n C dX6_mixOf_38 0 rfl rfl ?_
  refine g_i2l C dX6_mixOf_39 ?_
  refine g_ldc2 C dX6_mixOf_40 tw1242 ?_
  refine g_land C dX6_mixOf_43 ?_
  refine g_lconst C dX6_mixOf_44 (v := 1) rfl ?_
  refine g_ladd C dX6_mixOf_45 ?_
  exact g_lret C dX6_mixOf_46 (Nat.le_of_ble_eq_true rfl) (Nat.le_of_ble_eq_true rfl) ⟨_, rfl, rfl, hw⟩
theorem gc_X6_mixOf : ∀ rm : Room, rmX6_mixOf.frames + 1 ≤ rm.frames → 8 + (3 + 11) + rmX6_mixOf.locals ≤ rm.locals → gCall yX6_mixOf 3 2 rmX6_mixOf rm := fun rm a b => ⟨Or.inl ⟨_, _, tw1238⟩, tw8, ⟨by decide, by decide⟩, by decide, a, b⟩
abbrev rmX6_mixAt : Room := { frames := 1, cells := 0, slots := 0, locals := 23 }
def wp_X6_mixAt (o : Nat) (p1 : Int32) (p2 : Int32) (M : MEM) (Q : Int64 → Prop) : Prop := KD o = (16, 0) ∧ (wp_X6_of o p1 3 M (fun r_1 => wp_X6_of o p1 1 M (fun r_3 => (¬ r_3 = 3 → (wp_X6_item o p1 p2 0 M (fun r_5 => wp_X6_mixOf r_1 r_5 M (fun r_7 => Q r_7)))) ∧ (r_3 = 3 → (wp_X6_item o p1 p2 1 M (fun r_9 => wp_X6_mixOf r_1 r_9 M (fun r_11 => Q r_11)))))))
set_option maxRecDepth 100000 in
set_option maxHeartbeats 4000000 in
theorem met_X6_mixAt {l : Launch} (hl : l.stackTraces = false) {E : MK} {o : Nat} {p1 : Int32} {p2 : Int32} {M : MEM} {Q : Int64 → Prop} (hw : wp_X6_mixAt o p1 p2 M Q) : gMet l E yX6_mixAt rmX6_mixAt [gR E o, .int p1, .int p2] M (qLp M Q) gNo := by
  obtain ⟨hk0, hw⟩ := hw
  refine g_met hl (cc := cX6_mixAt) (maxL := 3) (ret := (some .long)) (hh := []) (loc := [(0, gR E o), (1, .int p1), (2, .int p2)]) (by decide +kernel) (Or.inl ⟨tw1235, rfl⟩) (Nat.le_of_ble_eq_true rfl) rfl (fun K hK C => ?_)
  have C : GC K E cX6_mixAt RX6 3 (some .long) [] rmX6_mixAt := C
  refine g_aload_n C dX6_mixAt_0 0 rfl rfl ?_
  refine g_iload_n C dX6_mixAt_1 1 rfl rfl ?_
  refine g_iconst C dX6_mixAt_2 (v := 3) rfl ?_
  refine g_cV C dX6_mixAt_3 (met_X6_of C.st hw) (gc_X6_of _ (Nat.le_of_ble_eq_true rfl) (Nat.le_of_ble_eq_true rfl)) tw1160 tw1162 twp33 (ci := 6) rfl (by decide) hk0 rfl (Nat.le_of_ble_eq_true rfl) (c2 := 0) (s2 := 0) rfl rfl (Nat.le_of_ble_eq_true rfl) (Nat.le_of_ble_eq_true rfl) rfl (kIp (fun r_1 hw => ?_)) tNo
  refine g_aload_n C dX6_mixAt_6 0 rfl rfl ?_
  refine g_iload_n C dX6_mixAt_7 1 rfl rfl ?_
  refine g_iload_n C dX6_mixAt_8 2 rfl rfl ?_
  refine g_aload_n C dX6_mixAt_9 0 rfl rfl ?_
  refine g_iload_n C dX6_mixAt_10 1 rfl rfl ?_
  refine g_iconst C dX6_mixAt_11 (v := 1) rfl ?_
  refine g_cV C dX6_mixAt_12 (met_X6_of C.st hw) (gc_X6_of _ (Nat.le_of_ble_eq_true rfl) (Nat.le_of_ble_eq_true rfl)) tw1160 tw1162 twp33 (ci := 6) rfl (by decide) hk0 rfl (Nat.le_of_ble_eq_true rfl) (c2 := 0) (s2 := 0) rfl rfl (Nat.le_of_ble_eq_true rfl) (Nat.le_of_ble_eq_true rfl) rfl (kIp (fun r_3 hw => ?_)) tNo
  refine g_iconst C dX6_mixAt_15 (v := 3) rfl ?_
  refine g_icmp_ne C dX6_mixAt_16 (tgt := 23) (by decide) (fun c16 => ?_) (fun c16 => ?_)
  · have hw := hw.1 c16
    refine g_iconst C dX6_mixAt_23 (v := 0) rfl ?_
    refine g_cV C dX6_mixAt_24 (met_X6_item C.st hw) (gc_X6_item _ (Nat.le_of_ble_eq_true rfl) (Nat.le_of_ble_eq_true rfl)) tw1197 tw1199 twp38 (ci := 6) rfl (by decide) hk0 rfl (Nat.le_of_ble_eq_true rfl) (c2 := 0) (s2 := 0) rfl rfl (Nat.le_of_ble_eq_true rfl) (Nat.le_of_ble_eq_true rfl) rfl (kIp (fun r_5 hw => ?_)) tNo
    refine g_cS C dX6_mixAt_27 (met_X6_mixOf C.st hw) (gc_X6_mixOf _ (Nat.le_of_ble_eq_true rfl) (Nat.le_of_ble_eq_true rfl)) (Or.inl tw1236) tw1237 rfl (Nat.le_of_ble_eq_true rfl) (c2 := 0) (s2 := 0) rfl rfl (Nat.le_of_ble_eq_true rfl) (Nat.le_of_ble_eq_true rfl) rfl (kLp (fun r_7 hw => ?_)) tNo
    exact g_lret C dX6_mixAt_30 (Nat.le_of_ble_eq_true rfl) (Nat.le_of_ble_eq_true rfl) ⟨_, rfl, rfl, hw⟩
  · have hw := hw.2 c16
    refine g_iconst C dX6_mixAt_19 (v := 1) rfl ?_
    refine g_goto C dX6_mixAt_20 (tgt := 24) (by decide) ?_
    refine g_cV C dX6_mixAt_24 (met_X6_item C.st hw) (gc_X6_item _ (Nat.le_of_ble_eq_true rfl) (Nat.le_of_ble_eq_true rfl)) tw1197 tw1199 twp38 (ci := 6) rfl (by decide) hk0 rfl (Nat.le_of_ble_eq_true rfl) (c2 := 0) (s2 := 0) rfl rfl (Nat.le_of_ble_eq_true rfl) (Nat.le_of_ble_eq_true rfl) rfl (kIp (fun r_9 hw => ?_)) tNo
    refine g_cS C dX6_mixAt_27 (met_X6_mixOf C.st hw) (gc_X6_mixOf _ (Nat.le_of_ble_eq_true rfl) (Nat.le_of_ble_eq_true rfl)) (Or.inl tw1236) tw1237 rfl (Nat.le_of_ble_eq_true rfl) (c2 := 0) (s2 := 0) rfl rfl (Nat.le_of_ble_eq_true rfl) (Nat.le_of_ble_eq_true rfl) rfl (kLp (fun r_11 hw => ?_)) tNo
    exact g_lret C dX6_mixAt_30 (Nat.le_of_ble_eq_true rfl) (Nat.le_of_ble_eq_true rfl) ⟨_, rfl, rfl, hw⟩
theorem gc_X6_mixAt : ∀ rm : Room, rmX6_mixAt.frames + 1 ≤ rm.frames → 8 + (3 + 11) + rmX6_mixAt.locals ≤ rm.locals → gCall yX6_mixAt 3 2 rmX6_mixAt rm := fun rm a b => ⟨Or.inl ⟨_, _, tw1235⟩, tw8, ⟨by decide, by decide⟩, by decide, a, b⟩
abbrev rmX6_isAhead : Room := { frames := 2, cells := 0, slots := 0, locals := 45 }
def wp_X6_isAhead_J65 (p2 : Int32) (p3 : Int32) (Q : Int32 → Prop) (x5_7 : Int64) (r_8 : Int64) (s_10 : Int32) : Prop := ∀ x7_11 : Int64, x7_11 = r_8 * s_10.toInt64 → ((x5_7 = x7_11 → ((p3 ≤ p2 → (Q 0)) ∧ (¬ p3 ≤ p2 → (Q 1)))) ∧ (¬ x5_7 = x7_11 → ((x7_11 ≤ x5_7 → (Q 0)) ∧ (¬ x7_11 ≤ x5_7 → (Q 1)))))
def wp_X6_isAhead_J39 (o : Nat) (p1 : Int32) (p2 : Int32) (p3 : Int32) (M : MEM) (Q : Int32 → Prop) (s_3 : Int32) (r_4 : Int64) (s_6 : Int32) : Prop := ∀ x5_7 : Int64, x5_7 = r_4 * s_6.toInt64 → (wp_X6_mixAt o p1 p3 M (fun r_8 => (s_3 = 0 → (wp_X6_isAhead_J65 p2 p3 Q x5_7 r_8 1)) ∧ (¬ s_3 = 0 → (wp_X6_item o p1 p2 3 M (fun r_12 => wp_X6_isAhead_J65 p2 p3 Q x5_7 r_8 r_12)))))
def wp_X6_isAhead_J15 (o : Nat) (p1 : Int32) (p2 : Int32) (p3 : Int32) (M : MEM) (Q : Int32 → Prop) (s_3 : Int32) : Prop := wp_X6_mixAt o p1 p2 M (fun r_4 => (s_3 = 0 → (wp_X6_isAhead_J39 o p1 p2 p3 M Q s_3 r_4 1)) ∧ (¬ s_3 = 0 → (wp_X6_item o p1 p3 3 M (fun r_14 => wp_X6_isAhead_J39 o p1 p2 p3 M Q s_3 r_4 r_14))))
def wp_X6_isAhead (o : Nat) (p1 : Int32) (p2 : Int32) (p3 : Int32) (M : MEM) (Q : Int32 → Prop) : Prop := KD o = (16, 0) ∧ (wp_X6_of o p1 1 M (fun r_1 => (¬ r_1 = 1 → (wp_X6_isAhead_J15 o p1 p2 p3 M Q 0)) ∧ (r_1 = 1 → (wp_X6_isAhead_J15 o p1 p2 p3 M Q 1))))
set_option maxRecDepth 100000 in
set_option maxHeartbeats 4000000 in
theorem met_X6_isAhead {l : Launch} (hl : l.stackTraces = false) {E : MK} {o : Nat} {p1 : Int32} {p2 : Int32} {p3 : Int32} {M : MEM} {Q : Int32 → Prop} (hw : wp_X6_isAhead o p1 p2 p3 M Q) : gMet l E yX6_isAhead rmX6_isAhead [gR E o, .int p1, .int p2, .int p3] M (qIp M Q) gNo := by
  obtain ⟨hk0, hw⟩ := hw
  refine g_met hl (cc := cX6_isAhead) (maxL := 9) (ret := (some .boolean)) (hh := []) (loc := [(0, gR E o), (1, .int p1), (2, .int p2), (3, .int p3)]) (by decide +kernel) (Or.inl ⟨tw1231, rfl⟩) (Nat.le_of_ble_eq_true rfl) rfl (fun K hK C => ?_)
  have C : GC K E cX6_isAhead RX6 9 (some .boolean) [] rmX6_isAhead := C
  refine g_aload_n C dX6_isAhead_0 0 rfl rfl ?_
  refine g_iload_n C dX6_isAhead_1 1 rfl rfl ?_
  refine g_iconst C dX6_isAhead_2 (v := 1) rfl ?_
  refine g_cV C dX6_isAhead_3 (met_X6_of C.st hw) (gc_X6_of _ (Nat.le_of_ble_eq_true rfl) (Nat.le_of_ble_eq_true rfl)) tw1160 tw1162 twp33 (ci := 6) rfl (by decide) hk0 rfl (Nat.le_of_ble_eq_true rfl) (c2 := 0) (s2 := 0) rfl rfl (Nat.le_of_ble_eq_true rfl) (Nat.le_of_ble_eq_true rfl) rfl (kIp (fun r_1 hw => ?_)) tNo
  refine g_iconst C dX6_isAhead_6 (v := 1) rfl ?_
  have hJ15 : ∀ (s_3 : Int32), wp_X6_isAhead_J15 o p1 p2 p3 M Q s_3 → GX K E 9 M [(0, gR E o), (1, .int p1), (2, .int p2), (3, .int p3)] [.int s_3] 15 0 0 (gEnd K E (qIp M Q) gNo rmX6_isAhead.cells rmX6_isAhead.slots) := by
    intro s_3 hw
    refine g_istore C dX6_isAhead_15 (Nat.le_of_ble_eq_true rfl) (loc' := [(4, .int s_3), (0, gR E o), (1, .int p1), (2, .int p2), (3, .int p3)]) rfl ?_
    refine g_aload_n C dX6_isAhead_17 1 rfl rfl ?_
    refine g_iload_n C dX6_isAhead_18 2 rfl rfl ?_
    refine g_iload_n C dX6_isAhead_19 3 rfl rfl ?_
    refine g_cV C dX6_isAhead_20 (met_X6_mixAt C.st hw) (gc_X6_mixAt _ (Nat.le_of_ble_eq_true rfl) (Nat.le_of_ble_eq_true rfl)) tw1232 tw1234 twp44 (ci := 6) rfl (by decide) hk0 rfl (Nat.le_of_ble_eq_true rfl) (c2 := 0) (s2 := 0) rfl rfl (Nat.le_of_ble_eq_true rfl) (Nat.le_of_ble_eq_true rfl) rfl (kLp (fun r_4 hw => ?_)) tNo
    refine g_iload C (j := 0) dX6_isAhead_23 0 rfl ?_
    have hJ39 : ∀ (s_6 : Int32), wp_X6_isAhead_J39 o p1 p2 p3 M Q s_3 r_4 s_6 → GX K E 9 M [(0, gR E o), (1, .int p1), (2, .int p2), (3, .int p3), (4, .int s_3)] [.int s_6, .long r_4] 39 0 0 (gEnd K E (qIp M Q) gNo rmX6_isAhead.cells rmX6_isAhead.slots) := by
      intro s_6 hw
      refine g_i2l C dX6_isAhead_39 ?_
      refine g_lmul C dX6_isAhead_40 ?_
      refine g_nmL (fun x5_7 ex5_7 => ?_)
      have hw := hw x5_7 ex5_7
      refine g_lstore C dX6_isAhead_41 (Nat.le_of_ble_eq_true rfl) (loc' := [(5, .long x5_7), (0, gR E o), (1, .int p1), (2, .int p2), (3, .int p3), (4, .int s_3)]) rfl ?_
      refine g_aload_n C dX6_isAhead_43 1 rfl rfl ?_
      refine g_iload_n C dX6_isAhead_44 2 rfl rfl ?_
      refine g_iload_n C dX6_isAhead_45 4 rfl rfl ?_
      refine g_cV C dX6_isAhead_46 (met_X6_mixAt C.st hw) (gc_X6_mixAt _ (Nat.le_of_ble_eq_true rfl) (Nat.le_of_ble_eq_true rfl)) tw1232 tw1234 twp44 (ci := 6) rfl (by decide) hk0 rfl (Nat.le_of_ble_eq_true rfl) (c2 := 0) (s2 := 0) rfl rfl (Nat.le_of_ble_eq_true rfl) (Nat.le_of_ble_eq_true rfl) rfl (kLp (fun r_8 hw => ?_)) tNo
      refine g_iload C (j := 0) dX6_isAhead_49 5 rfl ?_
      have hJ65 : ∀ (s_10 : Int32), wp_X6_isAhead_J65 p2 p3 Q x5_7 r_8 s_10 → GX K E 9 M [(2, .int p2), (3, .int p3), (5, .long x5_7)] [.int s_10, .long r_8] 65 0 0 (gEnd K E (qIp M Q) gNo rmX6_isAhead.cells rmX6_isAhead.slots) := by
        intro s_10 hw
        refine g_i2l C dX6_isAhead_65 ?_
        refine g_lmul C dX6_isAhead_66 ?_
        refine g_nmL (fun x7_11 ex7_11 => ?_)
        have hw := hw x7_11 ex7_11
        refine g_lstore C dX6_isAhead_67 (Nat.le_of_ble_eq_true rfl) (loc' := [(7, .long x7_11), (2, .int p2), (3, .int p3), (5, .long x5_7)]) rfl ?_
        refine g_lload C (j := 0) dX6_isAhead_69 3 rfl ?_
        refine g_lload C (j := 0) dX6_isAhead_71 0 rfl ?_
        refine g_lc_eq C dX6_isAhead_73 dX6_isAhead_74 (tgt := 93) (by decide) (fun c74 => ?_) (fun c74 => ?_)
        · have hw := hw.1 c74
          refine g_iload_n C dX6_isAhead_93 1 rfl rfl ?_
          refine g_iload_n C dX6_isAhead_94 2 rfl rfl ?_
          refine g_icmp_ge C dX6_isAhead_95 (tgt := 102) (by decide) (fun c95 => ?_) (fun c95 => ?_)
          · have hw := hw.1 c95
            refine g_iconst C dX6_isAhead_102 (v := 0) rfl ?_
            exact g_zret C dX6_isAhead_103 gB0.1 (Nat.le_of_ble_eq_true rfl) (Nat.le_of_ble_eq_true rfl) ⟨_, rfl, rfl, hw⟩
          · have hw := hw.2 c95
            refine g_iconst C dX6_isAhead_98 (v := 1) rfl ?_
            refine g_goto C dX6_isAhead_99 (tgt := 103) (by decide) ?_
            exact g_zret C dX6_isAhead_103 gB1.1 (Nat.le_of_ble_eq_true rfl) (Nat.le_of_ble_eq_true rfl) ⟨_, rfl, rfl, hw⟩
        · have hw := hw.2 c74
          refine g_lload C (j := 0) dX6_isAhead_77 3 rfl ?_
          refine g_lload C (j := 0) dX6_isAhead_79 0 rfl ?_
          refine g_lc_ge C dX6_isAhead_81 dX6_isAhead_82 (tgt := 89) (by decide) (fun c82 => ?_) (fun c82 => ?_)
          · have hw := hw.1 c82
            refine g_iconst C dX6_isAhead_89 (v := 0) rfl ?_
            refine g_goto C dX6_isAhead_90 (tgt := 103) (by decide) ?_
            exact g_zret C dX6_isAhead_103 gB0.1 (Nat.le_of_ble_eq_true rfl) (Nat.le_of_ble_eq_true rfl) ⟨_, rfl, rfl, hw⟩
          · have hw := hw.2 c82
            refine g_iconst C dX6_isAhead_85 (v := 1) rfl ?_
            refine g_goto C dX6_isAhead_86 (tgt := 103) (by decide) ?_
            exact g_zret C dX6_isAhead_103 gB1.1 (Nat.le_of_ble_eq_true rfl) (Nat.le_of_ble_eq_true rfl) ⟨_, rfl, rfl, hw⟩
      refine g_if_eq C dX6_isAhead_51 (tgt := 64) (by decide) (fun c51 => ?_) (fun c51 => ?_)
      · have hw := hw.1 c51
        refine g_iconst C dX6_isAhead_64 (v := 1) rfl ?_
        refine g_sub [3, 4, 0] rfl ?_
        exact hJ65 _ hw
      · have hw := hw.2 c51
        refine g_aload_n C dX6_isAhead_54 1 rfl rfl ?_
        refine g_iload_n C dX6_isAhead_55 2 rfl rfl ?_
        refine g_iload_n C dX6_isAhead_56 3 rfl rfl ?_
        refine g_iconst C dX6_isAhead_57 (v := 3) rfl ?_
        refine g_cV C dX6_isAhead_58 (met_X6_item C.st hw) (gc_X6_item _ (Nat.le_of_ble_eq_true rfl) (Nat.le_of_ble_eq_true rfl)) tw1197 tw1199 twp38 (ci := 6) rfl (by decide) hk0 rfl (Nat.le_of_ble_eq_true rfl) (c2 := 0) (s2 := 0) rfl rfl (Nat.le_of_ble_eq_true rfl) (Nat.le_of_ble_eq_true rfl) rfl (kIp (fun r_12 hw => ?_)) tNo
        refine g_goto C dX6_isAhead_61 (tgt := 65) (by decide) ?_
        refine g_sub [3, 4, 0] rfl ?_
        exact hJ65 _ hw
    refine g_if_eq C dX6_isAhead_25 (tgt := 38) (by decide) (fun c25 => ?_) (fun c25 => ?_)
    · have hw := hw.1 c25
      refine g_iconst C dX6_isAhead_38 (v := 1) rfl ?_
      refine g_sub [1, 2, 3, 4, 0] rfl ?_
      exact hJ39 _ hw
    · have hw := hw.2 c25
      refine g_aload_n C dX6_isAhead_28 1 rfl rfl ?_
      refine g_iload_n C dX6_isAhead_29 2 rfl rfl ?_
      refine g_iload_n C dX6_isAhead_30 4 rfl rfl ?_
      refine g_iconst C dX6_isAhead_31 (v := 3) rfl ?_
      refine g_cV C dX6_isAhead_32 (met_X6_item C.st hw) (gc_X6_item _ (Nat.le_of_ble_eq_true rfl) (Nat.le_of_ble_eq_true rfl)) tw1197 tw1199 twp38 (ci := 6) rfl (by decide) hk0 rfl (Nat.le_of_ble_eq_true rfl) (c2 := 0) (s2 := 0) rfl rfl (Nat.le_of_ble_eq_true rfl) (Nat.le_of_ble_eq_true rfl) rfl (kIp (fun r_14 hw => ?_)) tNo
      refine g_goto C dX6_isAhead_35 (tgt := 39) (by decide) ?_
      refine g_sub [1, 2, 3, 4, 0] rfl ?_
      exact hJ39 _ hw
  refine g_icmp_ne C dX6_isAhead_7 (tgt := 14) (by decide) (fun c7 => ?_) (fun c7 => ?_)
  · have hw := hw.1 c7
    refine g_iconst C dX6_isAhead_14 (v := 0) rfl ?_
    exact hJ15 _ hw
  · have hw := hw.2 c7
    refine g_iconst C dX6_isAhead_10 (v := 1) rfl ?_
    refine g_goto C dX6_isAhead_11 (tgt := 15) (by decide) ?_
    exact hJ15 _ hw
theorem gc_X6_isAhead : ∀ rm : Room, rmX6_isAhead.frames + 1 ≤ rm.frames → 8 + (9 + 11) + rmX6_isAhead.locals ≤ rm.locals → gCall yX6_isAhead 9 3 rmX6_isAhead rm := fun rm a b => ⟨Or.inl ⟨_, _, tw1231⟩, tw8, ⟨by decide, by decide⟩, by decide, a, b⟩
abbrev rmX6_isCandidate : Room := { frames := 1, cells := 0, slots := 0, locals := 23 }
def wp_X6_isCandidate_L14 (o : Nat) (p1 : Int32) (p2 : Int32) (M : MEM) (Q : Int32 → Prop) : Nat → Int32 → Prop
  | 0, _ => False
  | n14 + 1, x3_3 => (p2 ≤ x3_3 → (Q 1)) ∧ (¬ p2 ≤ x3_3 → (wp_X6_item o p1 x3_3 1 M (fun r_4 => wp_X6_item o p1 p2 1 M (fun r_6 => (¬ r_4 = r_6 → (∀ x3_8 : Int32, x3_8 = x3_3 + 1 → ((wp_X6_isCandidate_L14 o p1 p2 M Q n14) x3_8))) ∧ (r_4 = r_6 → (Q 0))))))
def wp_X6_isCandidate (o : Nat) (p1 : Int32) (p2 : Int32) (M : MEM) (Q : Int32 → Prop) : Prop := KD o = (16, 0) ∧ (wp_X6_of o p1 1 M (fun r_1 => (r_1 = 3 → (∃ m14 : Nat, wp_X6_isCandidate_L14 o p1 p2 M Q m14 0)) ∧ (¬ r_1 = 3 → (Q 1))))
set_option maxRecDepth 100000 in
set_option maxHeartbeats 4000000 in
theorem met_X6_isCandidate {l : Launch} (hl : l.stackTraces = false) {E : MK} {o : Nat} {p1 : Int32} {p2 : Int32} {M : MEM} {Q : Int32 → Prop} (hw : wp_X6_isCandidate o p1 p2 M Q) : gMet l E yX6_isCandidate rmX6_isCandidate [gR E o, .int p1, .int p2] M (qIp M Q) gNo := by
  obtain ⟨hk0, hw⟩ := hw
  refine g_met hl (cc := cX6_isCandidate) (maxL := 4) (ret := (some .boolean)) (hh := []) (loc := [(0, gR E o), (1, .int p1), (2, .int p2)]) (by decide +kernel) (Or.inl ⟨tw1227, rfl⟩) (Nat.le_of_ble_eq_true rfl) rfl (fun K hK C => ?_)
  have C : GC K E cX6_isCandidate RX6 4 (some .boolean) [] rmX6_isCandidate := C
  refine g_aload_n C dX6_isCandidate_0 0 rfl rfl ?_
  refine g_iload_n C dX6_isCandidate_1 1 rfl rfl ?_
  refine g_iconst C dX6_isCandidate_2 (v := 1) rfl ?_
  refine g_cV C dX6_isCandidate_3 (met_X6_of C.st hw) (gc_X6_of _ (Nat.le_of_ble_eq_true rfl) (Nat.le_of_ble_eq_true rfl)) tw1160 tw1162 twp33 (ci := 6) rfl (by decide) hk0 rfl (Nat.le_of_ble_eq_true rfl) (c2 := 0) (s2 := 0) rfl rfl (Nat.le_of_ble_eq_true rfl) (Nat.le_of_ble_eq_true rfl) rfl (kIp (fun r_1 hw => ?_)) tNo
  refine g_iconst C dX6_isCandidate_6 (v := 3) rfl ?_
  refine g_icmp_eq C dX6_isCandidate_7 (tgt := 12) (by decide) (fun c7 => ?_) (fun c7 => ?_)
  · have hw := hw.1 c7
    refine g_iconst C dX6_isCandidate_12 (v := 0) rfl ?_
    refine g_istore_n C dX6_isCandidate_13 rfl (Nat.le_of_ble_eq_true rfl) (loc' := [(3, .int 0), (0, gR E o), (1, .int p1), (2, .int p2)]) rfl ?_
    obtain ⟨m14, hw⟩ := hw
    have hL14 : ∀ (n14 : Nat) (x3_3 : Int32), wp_X6_isCandidate_L14 o p1 p2 M Q n14 x3_3 → GX K E 4 M [(0, gR E o), (1, .int p1), (2, .int p2), (3, .int x3_3)] [] 14 0 0 (gEnd K E (qIp M Q) gNo rmX6_isCandidate.cells rmX6_isCandidate.slots) := by
      intro n14
      induction n14 with
      | zero => intro _ hw; exact False.elim hw
      | succ n14 ih14 =>
        intro x3_3 hw
        refine g_iload_n C dX6_isCandidate_14 3 rfl rfl ?_
        refine g_iload_n C dX6_isCandidate_15 2 rfl rfl ?_
        refine g_icmp_ge C dX6_isCandidate_16 (tgt := 44) (by decide) (fun c16 => ?_) (fun c16 => ?_)
        · have hw := hw.1 c16
          refine g_iconst C dX6_isCandidate_44 (v := 1) rfl ?_
          exact g_zret C dX6_isCandidate_45 gB1.1 (Nat.le_of_ble_eq_true rfl) (Nat.le_of_ble_eq_true rfl) ⟨_, rfl, rfl, hw⟩
        · have hw := hw.2 c16
          refine g_aload_n C dX6_isCandidate_19 0 rfl rfl ?_
          refine g_iload_n C dX6_isCandidate_20 1 rfl rfl ?_
          refine g_iload_n C dX6_isCandidate_21 3 rfl rfl ?_
          refine g_iconst C dX6_isCandidate_22 (v := 1) rfl ?_
          refine g_cV C dX6_isCandidate_23 (met_X6_item C.st hw) (gc_X6_item _ (Nat.le_of_ble_eq_true rfl) (Nat.le_of_ble_eq_true rfl)) tw1197 tw1199 twp38 (ci := 6) rfl (by decide) hk0 rfl (Nat.le_of_ble_eq_true rfl) (c2 := 0) (s2 := 0) rfl rfl (Nat.le_of_ble_eq_true rfl) (Nat.le_of_ble_eq_true rfl) rfl (kIp (fun r_4 hw => ?_)) tNo
          refine g_aload_n C dX6_isCandidate_26 0 rfl rfl ?_
          refine g_iload_n C dX6_isCandidate_27 1 rfl rfl ?_
          refine g_iload_n C dX6_isCandidate_28 2 rfl rfl ?_
          refine g_iconst C dX6_isCandidate_29 (v := 1) rfl ?_
          refine g_cV C dX6_isCandidate_30 (met_X6_item C.st hw) (gc_X6_item _ (Nat.le_of_ble_eq_true rfl) (Nat.le_of_ble_eq_true rfl)) tw1197 tw1199 twp38 (ci := 6) rfl (by decide) hk0 rfl (Nat.le_of_ble_eq_true rfl) (c2 := 0) (s2 := 0) rfl rfl (Nat.le_of_ble_eq_true rfl) (Nat.le_of_ble_eq_true rfl) rfl (kIp (fun r_6 hw => ?_)) tNo
          refine g_icmp_ne C dX6_isCandidate_33 (tgt := 38) (by decide) (fun c33 => ?_) (fun c33 => ?_)
          · have hw := hw.1 c33
            obtain ⟨x3_8, ex3_8⟩ : ∃ y : Int32, y = x3_3 + 1 := ⟨_, rfl⟩
            have hw := hw x3_8 ex3_8
            refine g_iinc C (j := 0) dX6_isCandidate_38 3 rfl (v := x3_8) (by rw [ex3_8]; rfl) (Nat.le_of_ble_eq_true rfl) (loc' := [(3, .int x3_8), (0, gR E o), (1, .int p1), (2, .int p2)]) rfl ?_
            refine g_goto C dX6_isCandidate_41 (tgt := 14) (by decide) ?_
            refine g_sub [1, 2, 3, 0] rfl ?_
            exact ih14 _ hw
          · have hw := hw.2 c33
            refine g_iconst C dX6_isCandidate_36 (v := 0) rfl ?_
            exact g_zret C dX6_isCandidate_37 gB0.1 (Nat.le_of_ble_eq_true rfl) (Nat.le_of_ble_eq_true rfl) ⟨_, rfl, rfl, hw⟩
    refine g_sub [1, 2, 3, 0] rfl ?_
    exact hL14 m14 _ hw
  · have hw := hw.2 c7
    refine g_iconst C dX6_isCandidate_10 (v := 1) rfl ?_
    exact g_zret C dX6_isCandidate_11 gB1.1 (Nat.le_of_ble_eq_true rfl) (Nat.le_of_ble_eq_true rfl) ⟨_, rfl, rfl, hw⟩
theorem gc_X6_isCandidate : ∀ rm : Room, rmX6_isCandidate.frames + 1 ≤ rm.frames → 8 + (4 + 11) + rmX6_isCandidate.locals ≤ rm.locals → gCall yX6_isCandidate 4 2 rmX6_isCandidate rm := fun rm a b => ⟨Or.inl ⟨_, _, tw1227⟩, tw8, ⟨by decide, by decide⟩, by decide, a, b⟩
abbrev rmX6_findCandidates : Room := { frames := 3, cells := 0, slots := 0, locals := 73 }
def wp_X6_findCandidates_J74 (o : Nat) (K7 : Int32 → MEM → Prop) (x2_2 : Int32) (x3_9 : Int32) (M_10 : MEM) : Prop := (KD (RF o 2) = (0, 60) ∧ (vp_in x3_9 60 ∧ (∀ M_13 : MEM, M_13 = uI M_10 (RF o 2) x3_9.toNatClampNeg x2_2 → ((∀ M_14 : MEM, M_14 = uI M_13 o 5 ((mI M_13 o 5) + 1) → (∀ x2_15 : Int32, x2_15 = x2_2 + 1 → (K7 x2_15 M_14)))))))
def wp_X6_findCandidates_L33 (o : Nat) (p1 : Int32) (K7 : Int32 → MEM → Prop) (x2_2 : Int32) : Nat → Int32 → MEM → Prop
  | 0, _, _ => False
  | n33 + 1, x3_9, M_10 => (x3_9 ≤ 0 → (wp_X6_findCandidates_J74 o K7 x2_2 x3_9 M_10)) ∧ (¬ x3_9 ≤ 0 → (KD (RF o 2) = (0, 60) ∧ vp_in (x3_9 - 1) 60 ∧ (wp_X6_isAhead o p1 x2_2 (mI M_10 (RF o 2) (x3_9 - 1).toNatClampNeg) M_10 (fun r_18 => (r_18 = 0 → (wp_X6_findCandidates_J74 o K7 x2_2 x3_9 M_10)) ∧ (¬ r_18 = 0 → (vp_in (x3_9 - 1) 60 ∧ ((vp_in x3_9 60 ∧ (∀ M_22 : MEM, M_22 = uI M_10 (RF o 2) x3_9.toNatClampNeg (mI M_10 (RF o 2) (x3_9 - 1).toNatClampNeg) → (∀ x3_23 : Int32, x3_23 = x3_9 + (-1) → ((wp_X6_findCandidates_L33 o p1 K7 x2_2 n33) x3_23 M_22)))))))))))
def wp_X6_findCandidates_L7 (o : Nat) (p1 : Int32) (Q : MEM → Prop) : Nat → Int32 → MEM → Prop
  | 0, _, _ => False
  | n7 + 1, x2_2, M_3 => wp_X6_many o p1 M_3 (fun r_4 => (r_4 ≤ x2_2 → (Q M_3)) ∧ (¬ r_4 ≤ x2_2 → (wp_X6_isCandidate o p1 x2_2 M_3 (fun r_6 => (¬ r_6 = 0 → (∀ x3_8 : Int32, x3_8 = mI M_3 o 5 → (∃ m33 : Nat, wp_X6_findCandidates_L33 o p1 (wp_X6_findCandidates_L7 o p1 Q n7) x2_2 m33 x3_8 M_3))) ∧ (r_6 = 0 → (∀ x2_24 : Int32, x2_24 = x2_2 + 1 → ((wp_X6_findCandidates_L7 o p1 Q n7) x2_24 M_3)))))))
def wp_X6_findCandidates (o : Nat) (p1 : Int32) (M : MEM) (Q : MEM → Prop) : Prop := KD o = (16, 0) ∧ ((∀ M_1 : MEM, M_1 = uI M o 5 0 → (∃ m7 : Nat, wp_X6_findCandidates_L7 o p1 Q m7 0 M_1)))
set_option maxRecDepth 100000 in
set_option maxHeartbeats 4000000 in
theorem met_X6_findCandidates {l : Launch} (hl : l.stackTraces = false) {E : MK} {o : Nat} {p1 : Int32} {M : MEM} {Q : MEM → Prop} (hw : wp_X6_findCandidates o p1 M Q) : gMet l E yX6_findCandidates rmX6_findCandidates [gR E o, .int p1] M (qV Q) gNo := by
  obtain ⟨hk0, hw⟩ := hw
  refine g_met hl (cc := cX6_findCandidates) (maxL := 4) (ret := none) (hh := []) (loc := [(0, gR E o), (1, .int p1)]) (by decide +kernel) (Or.inl ⟨tw1223, rfl⟩) (Nat.le_of_ble_eq_true rfl) rfl (fun K hK C => ?_)
  have C : GC K E cX6_findCandidates RX6 4 none [] rmX6_findCandidates := C
  refine g_aload_n C dX6_findCandidates_0 0 rfl rfl ?_
  refine g_iconst C dX6_findCandidates_1 (v := 0) rfl ?_
  refine pf_RX6_150 C hk0 dX6_findCandidates_2 ?_
  refine g_nmM (fun M_1 eM_1 => ?_)
  have hw := hw M_1 eM_1
  refine g_iconst C dX6_findCandidates_5 (v := 0) rfl ?_
  refine g_istore_n C dX6_findCandidates_6 rfl (Nat.le_of_ble_eq_true rfl) (loc' := [(2, .int 0), (0, gR E o), (1, .int p1)]) rfl ?_
  obtain ⟨m7, hw⟩ := hw
  have hL7 : ∀ (n7 : Nat) (x2_2 : Int32) (M_3 : MEM), wp_X6_findCandidates_L7 o p1 Q n7 x2_2 M_3 → GX K E 4 M_3 [(0, gR E o), (1, .int p1), (2, .int x2_2)] [] 7 0 0 (gEnd K E (qV Q) gNo rmX6_findCandidates.cells rmX6_findCandidates.slots) := by
    intro n7
    induction n7 with
    | zero => intro _ _ hw; exact False.elim hw
    | succ n7 ih7 =>
      intro x2_2 M_3 hw
      refine g_iload_n C dX6_findCandidates_7 2 rfl rfl ?_
      refine g_aload_n C dX6_findCandidates_8 0 rfl rfl ?_
      refine g_iload_n C dX6_findCandidates_9 1 rfl rfl ?_
      refine g_cV C dX6_findCandidates_10 (met_X6_many C.st hw) (gc_X6_many _ (Nat.le_of_ble_eq_true rfl) (Nat.le_of_ble_eq_true rfl)) tw1156 tw1158 twp32 (ci := 6) rfl (by decide) hk0 rfl (Nat.le_of_ble_eq_true rfl) (c2 := 0) (s2 := 0) rfl rfl (Nat.le_of_ble_eq_true rfl) (Nat.le_of_ble_eq_true rfl) rfl (kIp (fun r_4 hw => ?_)) tNo
      refine g_icmp_ge C dX6_findCandidates_13 (tgt := 97) (by decide) (fun c13 => ?_) (fun c13 => ?_)
      · have hw := hw.1 c13
        exact g_vret C dX6_findCandidates_97 (Nat.le_of_ble_eq_true rfl) (Nat.le_of_ble_eq_true rfl) ⟨rfl, hw⟩
      · have hw := hw.2 c13
        refine g_aload_n C dX6_findCandidates_16 0 rfl rfl ?_
        refine g_iload_n C dX6_findCandidates_17 1 rfl rfl ?_
        refine g_iload_n C dX6_findCandidates_18 2 rfl rfl ?_
        refine g_cV C dX6_findCandidates_19 (met_X6_isCandidate C.st hw) (gc_X6_isCandidate _ (Nat.le_of_ble_eq_true rfl) (Nat.le_of_ble_eq_true rfl)) tw1224 tw1226 twp42 (ci := 6) rfl (by decide) hk0 rfl (Nat.le_of_ble_eq_true rfl) (c2 := 0) (s2 := 0) rfl rfl (Nat.le_of_ble_eq_true rfl) (Nat.le_of_ble_eq_true rfl) rfl (kIp (fun r_6 hw => ?_)) tNo
        refine g_if_ne C dX6_findCandidates_22 (tgt := 28) (by decide) (fun c22 => ?_) (fun c22 => ?_)
        · have hw := hw.1 c22
          refine g_aload_n C dX6_findCandidates_28 0 rfl rfl ?_
          refine gf_RX6_150 C hk0 dX6_findCandidates_29 ?_
          refine g_nmI (fun x3_8 ex3_8 => ?_)
          have hw := hw x3_8 ex3_8
          refine g_istore_n C dX6_findCandidates_32 rfl (Nat.le_of_ble_eq_true rfl) (loc' := [(3, .int x3_8), (0, gR E o), (1, .int p1), (2, .int x2_2)]) rfl ?_
          obtain ⟨m33, hw⟩ := hw
          have hL33 : ∀ (n33 : Nat) (x3_9 : Int32) (M_10 : MEM), wp_X6_findCandidates_L33 o p1 (wp_X6_findCandidates_L7 o p1 Q n7) x2_2 n33 x3_9 M_10 → GX K E 4 M_10 [(0, gR E o), (1, .int p1), (2, .int x2_2), (3, .int x3_9)] [] 33 0 0 (gEnd K E (qV Q) gNo rmX6_findCandidates.cells rmX6_findCandidates.slots) := by
            intro n33
            induction n33 with
            | zero => intro _ _ hw; exact False.elim hw
            | succ n33 ih33 =>
              intro x3_9 M_10 hw
              refine g_iload_n C dX6_findCandidates_33 3 rfl rfl ?_
              have hJ74 : wp_X6_findCandidates_J74 o (wp_X6_findCandidates_L7 o p1 Q n7) x2_2 x3_9 M_10 → GX K E 4 M_10 [(0, gR E o), (1, .int p1), (2, .int x2_2), (3, .int x3_9)] [] 74 0 0 (gEnd K E (qV Q) gNo rmX6_findCandidates.cells rmX6_findCandidates.slots) := by
                intro hw
                refine g_aload_n C dX6_findCandidates_74 0 rfl rfl ?_
                refine gf_RX6_13 C hk0 dX6_findCandidates_75 ?_
                refine g_iload_n C dX6_findCandidates_78 3 rfl rfl ?_
                refine g_iload_n C dX6_findCandidates_79 2 rfl rfl ?_
                obtain ⟨hk_11, hw⟩ := hw
                obtain ⟨hi_12, hw⟩ := hw
                refine g_iastore C hk_11 hi_12 dX6_findCandidates_80 ?_
                refine g_nmM (fun M_13 eM_13 => ?_)
                have hw := hw M_13 eM_13
                refine g_aload_n C dX6_findCandidates_81 0 rfl rfl ?_
                refine g_dup C dX6_findCandidates_82 rfl ?_
                refine gf_RX6_150 C hk0 dX6_findCandidates_83 ?_
                refine g_iconst C dX6_findCandidates_86 (v := 1) rfl ?_
                refine g_iadd C dX6_findCandidates_87 ?_
                refine pf_RX6_150 C hk0 dX6_findCandidates_88 ?_
                refine g_nmM (fun M_14 eM_14 => ?_)
                have hw := hw M_14 eM_14
                obtain ⟨x2_15, ex2_15⟩ : ∃ y : Int32, y = x2_2 + 1 := ⟨_, rfl⟩
                have hw := hw x2_15 ex2_15
                refine g_iinc C (j := 0) dX6_findCandidates_91 2 rfl (v := x2_15) (by rw [ex2_15]; rfl) (Nat.le_of_ble_eq_true rfl) (loc' := [(2, .int x2_15), (0, gR E o), (1, .int p1), (3, .int x3_9)]) rfl ?_
                refine g_goto C dX6_findCandidates_94 (tgt := 7) (by decide) ?_
                refine g_sub [1, 2, 0] rfl ?_
                exact ih7 _ _ hw
              refine g_if_le C dX6_findCandidates_34 (tgt := 74) (by decide) (fun c34 => ?_) (fun c34 => ?_)
              · have hw := hw.1 c34
                exact hJ74 hw
              · have hw := hw.2 c34
                refine g_aload_n C dX6_findCandidates_37 0 rfl rfl ?_
                refine g_iload_n C dX6_findCandidates_38 1 rfl rfl ?_
                refine g_iload_n C dX6_findCandidates_39 2 rfl rfl ?_
                refine g_aload_n C dX6_findCandidates_40 0 rfl rfl ?_
                refine gf_RX6_13 C hk0 dX6_findCandidates_41 ?_
                refine g_iload_n C dX6_findCandidates_44 3 rfl rfl ?_
                refine g_iconst C dX6_findCandidates_45 (v := 1) rfl ?_
                refine g_isub C dX6_findCandidates_46 ?_
                obtain ⟨hk_16, hw⟩ := hw
                obtain ⟨hi_17, hw⟩ := hw
                refine g_iaload C hk_16 hi_17 dX6_findCandidates_47 ?_
                refine g_cV C dX6_findCandidates_48 (met_X6_isAhead C.st hw) (gc_X6_isAhead _ (Nat.le_of_ble_eq_true rfl) (Nat.le_of_ble_eq_true rfl)) tw1228 tw1230 twp43 (ci := 6) rfl (by decide) hk0 rfl (Nat.le_of_ble_eq_true rfl) (c2 := 0) (s2 := 0) rfl rfl (Nat.le_of_ble_eq_true rfl) (Nat.le_of_ble_eq_true rfl) rfl (kIp (fun r_18 hw => ?_)) tNo
                refine g_if_eq C dX6_findCandidates_51 (tgt := 74) (by decide) (fun c51 => ?_) (fun c51 => ?_)
                · have hw := hw.1 c51
                  exact hJ74 hw
                · have hw := hw.2 c51
                  refine g_aload_n C dX6_findCandidates_54 0 rfl rfl ?_
                  refine gf_RX6_13 C hk0 dX6_findCandidates_55 ?_
                  refine g_iload_n C dX6_findCandidates_58 3 rfl rfl ?_
                  refine g_aload_n C dX6_findCandidates_59 0 rfl rfl ?_
                  refine gf_RX6_13 C hk0 dX6_findCandidates_60 ?_
                  refine g_iload_n C dX6_findCandidates_63 3 rfl rfl ?_
                  refine g_iconst C dX6_findCandidates_64 (v := 1) rfl ?_
                  refine g_isub C dX6_findCandidates_65 ?_
                  obtain ⟨hi_20, hw⟩ := hw
                  refine g_iaload C hk_16 hi_20 dX6_findCandidates_66 ?_
                  obtain ⟨hi_21, hw⟩ := hw
                  refine g_iastore C hk_16 hi_21 dX6_findCandidates_67 ?_
                  refine g_nmM (fun M_22 eM_22 => ?_)
                  have hw := hw M_22 eM_22
                  obtain ⟨x3_23, ex3_23⟩ : ∃ y : Int32, y = x3_9 + (-1) := ⟨_, rfl⟩
                  have hw := hw x3_23 ex3_23
                  refine g_iinc C (j := 0) dX6_findCandidates_68 3 rfl (v := x3_23) (by rw [ex3_23]; rfl) (Nat.le_of_ble_eq_true rfl) (loc' := [(3, .int x3_23), (0, gR E o), (1, .int p1), (2, .int x2_2)]) rfl ?_
                  refine g_goto C dX6_findCandidates_71 (tgt := 33) (by decide) ?_
                  refine g_sub [1, 2, 3, 0] rfl ?_
                  exact ih33 _ _ hw
          refine g_sub [1, 2, 3, 0] rfl ?_
          exact hL33 m33 _ _ hw
        · have hw := hw.2 c22
          refine g_goto C dX6_findCandidates_25 (tgt := 91) (by decide) ?_
          obtain ⟨x2_24, ex2_24⟩ : ∃ y : Int32, y = x2_2 + 1 := ⟨_, rfl⟩
          have hw := hw x2_24 ex2_24
          refine g_iinc C (j := 0) dX6_findCandidates_91 2 rfl (v := x2_24) (by rw [ex2_24]; rfl) (Nat.le_of_ble_eq_true rfl) (loc' := [(2, .int x2_24), (0, gR E o), (1, .int p1)]) rfl ?_
          refine g_goto C dX6_findCandidates_94 (tgt := 7) (by decide) ?_
          refine g_sub [1, 2, 0] rfl ?_
          exact ih7 _ _ hw
  refine g_sub [1, 2, 0] rfl ?_
  exact hL7 m7 _ _ hw
theorem gc_X6_findCandidates : ∀ rm : Room, rmX6_findCandidates.frames + 1 ≤ rm.frames → 8 + (4 + 11) + rmX6_findCandidates.locals ≤ rm.locals → gCall yX6_findCandidates 4 1 rmX6_findCandidates rm := fun rm a b => ⟨Or.inl ⟨_, _, tw1223⟩, tw8, ⟨by decide, by decide⟩, by decide, a, b⟩
abbrev rmX6_samples : Room := { frames := 1, cells := 0, slots := 0, locals := 23 }
def wp_X6_samples_J45 (o : Nat) (K6 : Int32 → Int32 → MEM → Prop) (x4_1 : Int32) (x5_2 : Int32) (M_3 : MEM) : Prop := KD (RF o 2) = (0, 60) ∧ vp_in x5_2 60 ∧ ((KD (RF o 4) = (0, 60) ∧ (vp_in (mI M_3 (RF o 2) x5_2.toNatClampNeg) 60 ∧ (∀ M_8 : MEM, M_8 = uI M_3 (RF o 4) (mI M_3 (RF o 2) x5_2.toNatClampNeg).toNatClampNeg (mI M_3 o 6) → (vp_in x5_2 60 ∧ ((KD (RF o 3) = (0, 60) ∧ (vp_in (mI M_8 o 6) 60 ∧ (∀ M_12 : MEM, M_12 = uI M_8 (RF o 3) (mI M_8 o 6).toNatClampNeg (mI M_8 (RF o 2) x5_2.toNatClampNeg) → ((∀ M_13 : MEM, M_13 = uI M_12 o 6 ((mI M_12 o 6) + 1) → (∀ x4_14 : Int32, x4_14 = x4_1 + 1 → (∀ x5_15 : Int32, x5_15 = x5_2 + 1 → (K6 x4_14 x5_15 M_13))))))))))))))
def wp_X6_samples_L6 (o : Nat) (p1 : Int32) (p2 : Int32) (p3 : Int32) (Q : MEM → Prop) : Nat → Int32 → Int32 → MEM → Prop
  | 0, _, _, _ => False
  | n6 + 1, x4_1, x5_2, M_3 => ((mI M_3 o 5) ≤ x5_2 → (Q M_3)) ∧ (¬ (mI M_3 o 5) ≤ x5_2 → ((p3 ≤ x4_1 → (Q M_3)) ∧ (¬ p3 ≤ x4_1 → ((p2 < 0 → (wp_X6_samples_J45 o (wp_X6_samples_L6 o p1 p2 p3 Q n6) x4_1 x5_2 M_3)) ∧ (¬ p2 < 0 → (KD (RF o 2) = (0, 60) ∧ vp_in x5_2 60 ∧ (wp_X6_item o p1 (mI M_3 (RF o 2) x5_2.toNatClampNeg) 2 M_3 (fun r_18 => (r_18 = p2 → (wp_X6_samples_J45 o (wp_X6_samples_L6 o p1 p2 p3 Q n6) x4_1 x5_2 M_3)) ∧ (¬ r_18 = p2 → (∀ x5_20 : Int32, x5_20 = x5_2 + 1 → ((wp_X6_samples_L6 o p1 p2 p3 Q n6) x4_1 x5_20 M_3)))))))))))
def wp_X6_samples (o : Nat) (p1 : Int32) (p2 : Int32) (p3 : Int32) (M : MEM) (Q : MEM → Prop) : Prop := KD o = (16, 0) ∧ (∃ m6 : Nat, wp_X6_samples_L6 o p1 p2 p3 Q m6 0 0 M)
set_option maxRecDepth 100000 in
set_option maxHeartbeats 4000000 in
theorem met_X6_samples {l : Launch} (hl : l.stackTraces = false) {E : MK} {o : Nat} {p1 : Int32} {p2 : Int32} {p3 : Int32} {M : MEM} {Q : MEM → Prop} (hw : wp_X6_samples o p1 p2 p3 M Q) : gMet l E yX6_samples rmX6_samples [gR E o, .int p1, .int p2, .int p3] M (qV Q) gNo := by
  obtain ⟨hk0, hw⟩ := hw
  refine g_met hl (cc := cX6_samples) (maxL := 6) (ret := none) (hh := []) (loc := [(0, gR E o), (1, .int p1), (2, .int p2), (3, .int p3)]) (by decide +kernel) (Or.inl ⟨tw1246, rfl⟩) (Nat.le_of_ble_eq_true rfl) rfl (fun K hK C => ?_)
  have C : GC K E cX6_samples RX6 6 none [] rmX6_samples := C
  refine g_iconst C dX6_samples_0 (v := 0) rfl ?_
  refine g_istore C dX6_samples_1 (Nat.le_of_ble_eq_true rfl) (loc' := [(4, .int 0), (0, gR E o), (1, .int p1), (2, .int p2), (3, .int p3)]) rfl ?_
  refine g_iconst C dX6_samples_3 (v := 0) rfl ?_
  refine g_istore C dX6_samples_4 (Nat.le_of_ble_eq_true rfl) (loc' := [(5, .int 0), (4, .int 0), (0, gR E o), (1, .int p1), (2, .int p2), (3, .int p3)]) rfl ?_
  obtain ⟨m6, hw⟩ := hw
  have hL6 : ∀ (n6 : Nat) (x4_1 : Int32) (x5_2 : Int32) (M_3 : MEM), wp_X6_samples_L6 o p1 p2 p3 Q n6 x4_1 x5_2 M_3 → GX K E 6 M_3 [(0, gR E o), (1, .int p1), (2, .int p2), (3, .int p3), (4, .int x4_1), (5, .int x5_2)] [] 6 0 0 (gEnd K E (qV Q) gNo rmX6_samples.cells rmX6_samples.slots) := by
    intro n6
    induction n6 with
    | zero => intro _ _ _ hw; exact False.elim hw
    | succ n6 ih6 =>
      intro x4_1 x5_2 M_3 hw
      refine g_iload C (j := 0) dX6_samples_6 5 rfl ?_
      refine g_aload_n C dX6_samples_8 0 rfl rfl ?_
      refine gf_RX6_150 C hk0 dX6_samples_9 ?_
      refine g_icmp_ge C dX6_samples_12 (tgt := 96) (by decide) (fun c12 => ?_) (fun c12 => ?_)
      · have hw := hw.1 c12
        exact g_vret C dX6_samples_96 (Nat.le_of_ble_eq_true rfl) (Nat.le_of_ble_eq_true rfl) ⟨rfl, hw⟩
      · have hw := hw.2 c12
        refine g_iload C (j := 0) dX6_samples_15 4 rfl ?_
        refine g_iload_n C dX6_samples_17 3 rfl rfl ?_
        refine g_icmp_ge C dX6_samples_18 (tgt := 96) (by decide) (fun c18 => ?_) (fun c18 => ?_)
        · have hw := hw.1 c18
          exact g_vret C dX6_samples_96 (Nat.le_of_ble_eq_true rfl) (Nat.le_of_ble_eq_true rfl) ⟨rfl, hw⟩
        · have hw := hw.2 c18
          refine g_iload_n C dX6_samples_21 2 rfl rfl ?_
          have hJ45 : wp_X6_samples_J45 o (wp_X6_samples_L6 o p1 p2 p3 Q n6) x4_1 x5_2 M_3 → GX K E 6 M_3 [(0, gR E o), (1, .int p1), (2, .int p2), (3, .int p3), (4, .int x4_1), (5, .int x5_2)] [] 45 0 0 (gEnd K E (qV Q) gNo rmX6_samples.cells rmX6_samples.slots) := by
            intro hw
            refine g_aload_n C dX6_samples_45 0 rfl rfl ?_
            refine gf_RX6_19 C hk0 dX6_samples_46 ?_
            refine g_aload_n C dX6_samples_49 0 rfl rfl ?_
            refine gf_RX6_13 C hk0 dX6_samples_50 ?_
            refine g_iload C (j := 0) dX6_samples_53 5 rfl ?_
            obtain ⟨hk_4, hw⟩ := hw
            obtain ⟨hi_5, hw⟩ := hw
            refine g_iaload C hk_4 hi_5 dX6_samples_55 ?_
            refine g_aload_n C dX6_samples_56 0 rfl rfl ?_
            refine gf_RX6_160 C hk0 dX6_samples_57 ?_
            obtain ⟨hk_6, hw⟩ := hw
            obtain ⟨hi_7, hw⟩ := hw
            refine g_iastore C hk_6 hi_7 dX6_samples_60 ?_
            refine g_nmM (fun M_8 eM_8 => ?_)
            have hw := hw M_8 eM_8
            refine g_aload_n C dX6_samples_61 0 rfl rfl ?_
            refine gf_RX6_16 C hk0 dX6_samples_62 ?_
            refine g_aload_n C dX6_samples_65 0 rfl rfl ?_
            refine gf_RX6_160 C hk0 dX6_samples_66 ?_
            refine g_aload_n C dX6_samples_69 0 rfl rfl ?_
            refine gf_RX6_13 C hk0 dX6_samples_70 ?_
            refine g_iload C (j := 0) dX6_samples_73 5 rfl ?_
            obtain ⟨hi_9, hw⟩ := hw
            refine g_iaload C hk_4 hi_9 dX6_samples_75 ?_
            obtain ⟨hk_10, hw⟩ := hw
            obtain ⟨hi_11, hw⟩ := hw
            refine g_iastore C hk_10 hi_11 dX6_samples_76 ?_
            refine g_nmM (fun M_12 eM_12 => ?_)
            have hw := hw M_12 eM_12
            refine g_aload_n C dX6_samples_77 0 rfl rfl ?_
            refine g_dup C dX6_samples_78 rfl ?_
            refine gf_RX6_160 C hk0 dX6_samples_79 ?_
            refine g_iconst C dX6_samples_82 (v := 1) rfl ?_
            refine g_iadd C dX6_samples_83 ?_
            refine pf_RX6_160 C hk0 dX6_samples_84 ?_
            refine g_nmM (fun M_13 eM_13 => ?_)
            have hw := hw M_13 eM_13
            obtain ⟨x4_14, ex4_14⟩ : ∃ y : Int32, y = x4_1 + 1 := ⟨_, rfl⟩
            have hw := hw x4_14 ex4_14
            refine g_iinc C (j := 0) dX6_samples_87 4 rfl (v := x4_14) (by rw [ex4_14]; rfl) (Nat.le_of_ble_eq_true rfl) (loc' := [(4, .int x4_14), (0, gR E o), (1, .int p1), (2, .int p2), (3, .int p3), (5, .int x5_2)]) rfl ?_
            obtain ⟨x5_15, ex5_15⟩ : ∃ y : Int32, y = x5_2 + 1 := ⟨_, rfl⟩
            have hw := hw x5_15 ex5_15
            refine g_iinc C (j := 0) dX6_samples_90 5 rfl (v := x5_15) (by rw [ex5_15]; rfl) (Nat.le_of_ble_eq_true rfl) (loc' := [(5, .int x5_15), (4, .int x4_14), (0, gR E o), (1, .int p1), (2, .int p2), (3, .int p3)]) rfl ?_
            refine g_goto C dX6_samples_93 (tgt := 6) (by decide) ?_
            refine g_sub [2, 3, 4, 5, 1, 0] rfl ?_
            exact ih6 _ _ _ hw
          refine g_if_lt C dX6_samples_22 (tgt := 45) (by decide) (fun c22 => ?_) (fun c22 => ?_)
          · have hw := hw.1 c22
            exact hJ45 hw
          · have hw := hw.2 c22
            refine g_aload_n C dX6_samples_25 0 rfl rfl ?_
            refine g_iload_n C dX6_samples_26 1 rfl rfl ?_
            refine g_aload_n C dX6_samples_27 0 rfl rfl ?_
            refine gf_RX6_13 C hk0 dX6_samples_28 ?_
            refine g_iload C (j := 0) dX6_samples_31 5 rfl ?_
            obtain ⟨hk_16, hw⟩ := hw
            obtain ⟨hi_17, hw⟩ := hw
            refine g_iaload C hk_16 hi_17 dX6_samples_33 ?_
            refine g_iconst C dX6_samples_34 (v := 2) rfl ?_
            refine g_cV C dX6_samples_35 (met_X6_item C.st hw) (gc_X6_item _ (Nat.le_of_ble_eq_true rfl) (Nat.le_of_ble_eq_true rfl)) tw1197 tw1199 twp38 (ci := 6) rfl (by decide) hk0 rfl (Nat.le_of_ble_eq_true rfl) (c2 := 0) (s2 := 0) rfl rfl (Nat.le_of_ble_eq_true rfl) (Nat.le_of_ble_eq_true rfl) rfl (kIp (fun r_18 hw => ?_)) tNo
            refine g_iload_n C dX6_samples_38 2 rfl rfl ?_
            refine g_icmp_eq C dX6_samples_39 (tgt := 45) (by decide) (fun c39 => ?_) (fun c39 => ?_)
            · have hw := hw.1 c39
              exact hJ45 hw
            · have hw := hw.2 c39
              refine g_goto C dX6_samples_42 (tgt := 90) (by decide) ?_
              obtain ⟨x5_20, ex5_20⟩ : ∃ y : Int32, y = x5_2 + 1 := ⟨_, rfl⟩
              have hw := hw x5_20 ex5_20
              refine g_iinc C (j := 0) dX6_samples_90 5 rfl (v := x5_20) (by rw [ex5_20]; rfl) (Nat.le_of_ble_eq_true rfl) (loc' := [(5, .int x5_20), (0, gR E o), (1, .int p1), (2, .int p2), (3, .int p3), (4, .int x4_1)]) rfl ?_
              refine g_goto C dX6_samples_93 (tgt := 6) (by decide) ?_
              refine g_sub [1, 2, 3, 4, 5, 0] rfl ?_
              exact ih6 _ _ _ hw
  refine g_sub [2, 3, 4, 5, 1, 0] rfl ?_
  exact hL6 m6 _ _ _ hw
theorem gc_X6_samples : ∀ rm : Room, rmX6_samples.frames + 1 ≤ rm.frames → 8 + (6 + 11) + rmX6_samples.locals ≤ rm.locals → gCall yX6_samples 6 3 rmX6_samples rm := fun rm a b => ⟨Or.inl ⟨_, _, tw1246⟩, tw8, ⟨by decide, by decide⟩, by decide, a, b⟩
abbrev rmX6_finds : Room := { frames := 4, cells := 0, slots := 0, locals := 96 }
def wp_X6_finds_L56 (o : Nat) (p1 : Int32) (Q : MEM → Prop) : Nat → Int32 → MEM → Prop
  | 0, _, _ => False
  | n56 + 1, x2_8, M_9 => (4 ≤ x2_8 → (Q M_9)) ∧ (¬ 4 ≤ x2_8 → (wp_X6_of o p1 (5 + x2_8) M_9 (fun r_10 => wp_X6_samples o p1 x2_8 r_10 M_9 (fun M_13 => ∀ x2_14 : Int32, x2_14 = x2_8 + 1 → ((wp_X6_finds_L56 o p1 Q n56) x2_14 M_13)))))
def wp_X6_finds_L7 (o : Nat) (p1 : Int32) (Q : MEM → Prop) : Nat → Int32 → MEM → Prop
  | 0, _, _ => False
  | n7 + 1, x2_3, M_4 => (60 ≤ x2_3 → ((∀ M_5 : MEM, M_5 = uI M_4 o 6 0 → (wp_X6_of o p1 1 M_5 (fun r_6 => (r_6 = 2 → (∃ m56 : Nat, wp_X6_finds_L56 o p1 Q m56 0 M_5)) ∧ (¬ r_6 = 2 → (wp_X6_of o p1 2 M_5 (fun r_15 => wp_X6_samples o p1 (-1) r_15 M_5 (fun M_18 => Q M_18))))))))) ∧ (¬ 60 ≤ x2_3 → ((KD (RF o 4) = (0, 60) ∧ (vp_in x2_3 60 ∧ (∀ M_21 : MEM, M_21 = uI M_4 (RF o 4) x2_3.toNatClampNeg (-1) → (∀ x2_22 : Int32, x2_22 = x2_3 + 1 → ((wp_X6_finds_L7 o p1 Q n7) x2_22 M_21)))))))
def wp_X6_finds (o : Nat) (p1 : Int32) (M : MEM) (Q : MEM → Prop) : Prop := KD o = (16, 0) ∧ (wp_X6_findCandidates o p1 M (fun M_2 => ∃ m7 : Nat, wp_X6_finds_L7 o p1 Q m7 0 M_2))
set_option maxRecDepth 100000 in
set_option maxHeartbeats 4000000 in
theorem met_X6_finds {l : Launch} (hl : l.stackTraces = false) {E : MK} {o : Nat} {p1 : Int32} {M : MEM} {Q : MEM → Prop} (hw : wp_X6_finds o p1 M Q) : gMet l E yX6_finds rmX6_finds [gR E o, .int p1] M (qV Q) gNo := by
  obtain ⟨hk0, hw⟩ := hw
  refine g_met hl (cc := cX6_finds) (maxL := 3) (ret := none) (hh := []) (loc := [(0, gR E o), (1, .int p1)]) (by decide +kernel) (Or.inl ⟨tw1219, rfl⟩) (Nat.le_of_ble_eq_true rfl) rfl (fun K hK C => ?_)
  have C : GC K E cX6_finds RX6 3 none [] rmX6_finds := C
  refine g_aload_n C dX6_finds_0 0 rfl rfl ?_
  refine g_iload_n C dX6_finds_1 1 rfl rfl ?_
  refine g_cV C dX6_finds_2 (met_X6_findCandidates C.st hw) (gc_X6_findCandidates _ (Nat.le_of_ble_eq_true rfl) (Nat.le_of_ble_eq_true rfl)) tw1220 tw1222 twp41 (ci := 6) rfl (by decide) hk0 rfl (Nat.le_of_ble_eq_true rfl) (c2 := 0) (s2 := 0) rfl rfl (Nat.le_of_ble_eq_true rfl) (Nat.le_of_ble_eq_true rfl) rfl (kV (fun M_2 hw => ?_)) tNo
  refine g_iconst C dX6_finds_5 (v := 0) rfl ?_
  refine g_istore_n C dX6_finds_6 rfl (Nat.le_of_ble_eq_true rfl) (loc' := [(2, .int 0), (0, gR E o), (1, .int p1)]) rfl ?_
  obtain ⟨m7, hw⟩ := hw
  have hL7 : ∀ (n7 : Nat) (x2_3 : Int32) (M_4 : MEM), wp_X6_finds_L7 o p1 Q n7 x2_3 M_4 → GX K E 3 M_4 [(0, gR E o), (1, .int p1), (2, .int x2_3)] [] 7 0 0 (gEnd K E (qV Q) gNo rmX6_finds.cells rmX6_finds.slots) := by
    intro n7
    induction n7 with
    | zero => intro _ _ hw; exact False.elim hw
    | succ n7 ih7 =>
      intro x2_3 M_4 hw
      refine g_iload_n C dX6_finds_7 2 rfl rfl ?_
      refine g_bipush C dX6_finds_8 (v := 60) rfl ?_
      refine g_icmp_ge C dX6_finds_10 (tgt := 26) (by decide) (fun c10 => ?_) (fun c10 => ?_)
      · have hw := hw.1 c10
        refine g_aload_n C dX6_finds_26 0 rfl rfl ?_
        refine g_iconst C dX6_finds_27 (v := 0) rfl ?_
        refine pf_RX6_160 C hk0 dX6_finds_28 ?_
        refine g_nmM (fun M_5 eM_5 => ?_)
        have hw := hw M_5 eM_5
        refine g_aload_n C dX6_finds_31 0 rfl rfl ?_
        refine g_iload_n C dX6_finds_32 1 rfl rfl ?_
        refine g_iconst C dX6_finds_33 (v := 1) rfl ?_
        refine g_cV C dX6_finds_34 (met_X6_of C.st hw) (gc_X6_of _ (Nat.le_of_ble_eq_true rfl) (Nat.le_of_ble_eq_true rfl)) tw1160 tw1162 twp33 (ci := 6) rfl (by decide) hk0 rfl (Nat.le_of_ble_eq_true rfl) (c2 := 0) (s2 := 0) rfl rfl (Nat.le_of_ble_eq_true rfl) (Nat.le_of_ble_eq_true rfl) rfl (kIp (fun r_6 hw => ?_)) tNo
        refine g_iconst C dX6_finds_37 (v := 2) rfl ?_
        refine g_icmp_eq C dX6_finds_38 (tgt := 54) (by decide) (fun c38 => ?_) (fun c38 => ?_)
        · have hw := hw.1 c38
          refine g_iconst C dX6_finds_54 (v := 0) rfl ?_
          refine g_istore_n C dX6_finds_55 rfl (Nat.le_of_ble_eq_true rfl) (loc' := [(2, .int 0), (0, gR E o), (1, .int p1)]) rfl ?_
          obtain ⟨m56, hw⟩ := hw
          have hL56 : ∀ (n56 : Nat) (x2_8 : Int32) (M_9 : MEM), wp_X6_finds_L56 o p1 Q n56 x2_8 M_9 → GX K E 3 M_9 [(0, gR E o), (1, .int p1), (2, .int x2_8)] [] 56 0 0 (gEnd K E (qV Q) gNo rmX6_finds.cells rmX6_finds.slots) := by
            intro n56
            induction n56 with
            | zero => intro _ _ hw; exact False.elim hw
            | succ n56 ih56 =>
              intro x2_8 M_9 hw
              refine g_iload_n C dX6_finds_56 2 rfl rfl ?_
              refine g_iconst C dX6_finds_57 (v := 4) rfl ?_
              refine g_icmp_ge C dX6_finds_58 (tgt := 81) (by decide) (fun c58 => ?_) (fun c58 => ?_)
              · have hw := hw.1 c58
                exact g_vret C dX6_finds_81 (Nat.le_of_ble_eq_true rfl) (Nat.le_of_ble_eq_true rfl) ⟨rfl, hw⟩
              · have hw := hw.2 c58
                refine g_aload_n C dX6_finds_61 0 rfl rfl ?_
                refine g_iload_n C dX6_finds_62 1 rfl rfl ?_
                refine g_iload_n C dX6_finds_63 2 rfl rfl ?_
                refine g_aload_n C dX6_finds_64 0 rfl rfl ?_
                refine g_iload_n C dX6_finds_65 1 rfl rfl ?_
                refine g_iconst C dX6_finds_66 (v := 5) rfl ?_
                refine g_iload_n C dX6_finds_67 2 rfl rfl ?_
                refine g_iadd C dX6_finds_68 ?_
                refine g_cV C dX6_finds_69 (met_X6_of C.st hw) (gc_X6_of _ (Nat.le_of_ble_eq_true rfl) (Nat.le_of_ble_eq_true rfl)) tw1160 tw1162 twp33 (ci := 6) rfl (by decide) hk0 rfl (Nat.le_of_ble_eq_true rfl) (c2 := 0) (s2 := 0) rfl rfl (Nat.le_of_ble_eq_true rfl) (Nat.le_of_ble_eq_true rfl) rfl (kIp (fun r_10 hw => ?_)) tNo
                refine g_cV C dX6_finds_72 (met_X6_samples C.st hw) (gc_X6_samples _ (Nat.le_of_ble_eq_true rfl) (Nat.le_of_ble_eq_true rfl)) tw1243 tw1245 twp45 (ci := 6) rfl (by decide) hk0 rfl (Nat.le_of_ble_eq_true rfl) (c2 := 0) (s2 := 0) rfl rfl (Nat.le_of_ble_eq_true rfl) (Nat.le_of_ble_eq_true rfl) rfl (kV (fun M_13 hw => ?_)) tNo
                obtain ⟨x2_14, ex2_14⟩ : ∃ y : Int32, y = x2_8 + 1 := ⟨_, rfl⟩
                have hw := hw x2_14 ex2_14
                refine g_iinc C (j := 0) dX6_finds_75 2 rfl (v := x2_14) (by rw [ex2_14]; rfl) (Nat.le_of_ble_eq_true rfl) (loc' := [(2, .int x2_14), (0, gR E o), (1, .int p1)]) rfl ?_
                refine g_goto C dX6_finds_78 (tgt := 56) (by decide) ?_
                refine g_sub [1, 2, 0] rfl ?_
                exact ih56 _ _ hw
          refine g_sub [1, 2, 0] rfl ?_
          exact hL56 m56 _ _ hw
        · have hw := hw.2 c38
          refine g_aload_n C dX6_finds_41 0 rfl rfl ?_
          refine g_iload_n C dX6_finds_42 1 rfl rfl ?_
          refine g_iconst C dX6_finds_43 (v := (-1)) rfl ?_
          refine g_aload_n C dX6_finds_44 0 rfl rfl ?_
          refine g_iload_n C dX6_finds_45 1 rfl rfl ?_
          refine g_iconst C dX6_finds_46 (v := 2) rfl ?_
          refine g_cV C dX6_finds_47 (met_X6_of C.st hw) (gc_X6_of _ (Nat.le_of_ble_eq_true rfl) (Nat.le_of_ble_eq_true rfl)) tw1160 tw1162 twp33 (ci := 6) rfl (by decide) hk0 rfl (Nat.le_of_ble_eq_true rfl) (c2 := 0) (s2 := 0) rfl rfl (Nat.le_of_ble_eq_true rfl) (Nat.le_of_ble_eq_true rfl) rfl (kIp (fun r_15 hw => ?_)) tNo
          refine g_cV C dX6_finds_50 (met_X6_samples C.st hw) (gc_X6_samples _ (Nat.le_of_ble_eq_true rfl) (Nat.le_of_ble_eq_true rfl)) tw1243 tw1245 twp45 (ci := 6) rfl (by decide) hk0 rfl (Nat.le_of_ble_eq_true rfl) (c2 := 0) (s2 := 0) rfl rfl (Nat.le_of_ble_eq_true rfl) (Nat.le_of_ble_eq_true rfl) rfl (kV (fun M_18 hw => ?_)) tNo
          exact g_vret C dX6_finds_53 (Nat.le_of_ble_eq_true rfl) (Nat.le_of_ble_eq_true rfl) ⟨rfl, hw⟩
      · have hw := hw.2 c10
        refine g_aload_n C dX6_finds_13 0 rfl rfl ?_
        refine gf_RX6_19 C hk0 dX6_finds_14 ?_
        refine g_iload_n C dX6_finds_17 2 rfl rfl ?_
        refine g_iconst C dX6_finds_18 (v := (-1)) rfl ?_
        obtain ⟨hk_19, hw⟩ := hw
        obtain ⟨hi_20, hw⟩ := hw
        refine g_iastore C hk_19 hi_20 dX6_finds_19 ?_
        refine g_nmM (fun M_21 eM_21 => ?_)
        have hw := hw M_21 eM_21
        obtain ⟨x2_22, ex2_22⟩ : ∃ y : Int32, y = x2_3 + 1 := ⟨_, rfl⟩
        have hw := hw x2_22 ex2_22
        refine g_iinc C (j := 0) dX6_finds_20 2 rfl (v := x2_22) (by rw [ex2_22]; rfl) (Nat.le_of_ble_eq_true rfl) (loc' := [(2, .int x2_22), (0, gR E o), (1, .int p1)]) rfl ?_
        refine g_goto C dX6_finds_23 (tgt := 7) (by decide) ?_
        refine g_sub [1, 2, 0] rfl ?_
        exact ih7 _ _ hw
  refine g_sub [1, 2, 0] rfl ?_
  exact hL7 m7 _ _ hw
theorem gc_X6_finds : ∀ rm : Room, rmX6_finds.frames + 1 ≤ rm.frames → 8 + (3 + 11) + rmX6_finds.locals ≤ rm.locals → gCall yX6_finds 3 1 rmX6_finds rm := fun rm a b => ⟨Or.inl ⟨_, _, tw1219⟩, tw8, ⟨by decide, by decide⟩, by decide, a, b⟩
