abbrev rmX0_count : Room := { frames := 0, cells := 0, slots := 0, locals := 0 }
def wp_X0_count (o : Nat) (M : MEM) (Q : Int32 → Prop) : Prop := KD o = (10, 0) ∧ (Q (mI M o 3))
set_option maxRecDepth 100000 in
set_option maxHeartbeats 4000000 in
theorem met_X0_count {l : Launch} (hl : l.stackTraces = false) {E : MK} {o : Nat} {M : MEM} {Q : Int32 → Prop} (hw : wp_X0_count o M Q) : gMet l E yX0_count rmX0_count [gR E o] M (qIp M Q) gNo := by
  obtain ⟨hk0, hw⟩ := hw
  refine g_met hl (cc := cX0_count) (maxL := 1) (ret := (some .int)) (hh := []) (loc := [(0, gR E o)]) (by decide +kernel) (Or.inl ⟨tw995, rfl⟩) (Nat.le_of_ble_eq_true rfl) rfl (fun K hK C => ?_)
  have C : GC K E cX0_count RX0 1 (some .int) [] rmX0_count := C
  refine g_aload_n C dX0_count_0 0 rfl rfl ?_
  refine gf_RX0_25 C hk0 dX0_count_1 ?_
  exact g_iret C dX0_count_4 (Nat.le_of_ble_eq_true rfl) (Nat.le_of_ble_eq_true rfl) ⟨_, rfl, rfl, hw⟩
theorem gc_X0_count : ∀ rm : Room, rmX0_count.frames + 1 ≤ rm.frames → 8 + (1 + 11) + rmX0_count.locals ≤ rm.locals → gCall yX0_count 1 0 rmX0_count rm := fun rm a b => ⟨Or.inl ⟨_, _, tw995⟩, tw3, ⟨by decide, by decide⟩, by decide, a, b⟩
abbrev rmX0_forget : Room := { frames := 0, cells := 0, slots := 0, locals := 0 }
def wp_X0_forget (o : Nat) (M : MEM) (Q : MEM → Prop) : Prop := KD o = (10, 0) ∧ ((∀ M_1 : MEM, M_1 = uI M o 3 0 → (Q M_1)))
set_option maxRecDepth 100000 in
set_option maxHeartbeats 4000000 in
theorem met_X0_forget {l : Launch} (hl : l.stackTraces = false) {E : MK} {o : Nat} {M : MEM} {Q : MEM → Prop} (hw : wp_X0_forget o M Q) : gMet l E yX0_forget rmX0_forget [gR E o] M (qV Q) gNo := by
  obtain ⟨hk0, hw⟩ := hw
  refine g_met hl (cc := cX0_forget) (maxL := 1) (ret := none) (hh := []) (loc := [(0, gR E o)]) (by decide +kernel) (Or.inl ⟨tw1025, rfl⟩) (Nat.le_of_ble_eq_true rfl) rfl (fun K hK C => ?_)
  have C : GC K E cX0_forget RX0 1 none [] rmX0_forget := C
  refine g_aload_n C dX0_forget_0 0 rfl rfl ?_
  refine g_iconst C dX0_forget_1 (v := 0) rfl ?_
  refine pf_RX0_25 C hk0 dX0_forget_2 ?_
  refine g_nmM (fun M_1 eM_1 => ?_)
  have hw := hw M_1 eM_1
  exact g_vret C dX0_forget_5 (Nat.le_of_ble_eq_true rfl) (Nat.le_of_ble_eq_true rfl) ⟨rfl, hw⟩
theorem gc_X0_forget : ∀ rm : Room, rmX0_forget.frames + 1 ≤ rm.frames → 8 + (1 + 11) + rmX0_forget.locals ≤ rm.locals → gCall yX0_forget 1 0 rmX0_forget rm := fun rm a b => ⟨Or.inl ⟨_, _, tw1025⟩, tw3, ⟨by decide, by decide⟩, by decide, a, b⟩
abbrev rmX0_topIndex : Room := { frames := 0, cells := 0, slots := 0, locals := 0 }
def wp_X0_topIndex (o : Nat) (M : MEM) (Q : Int32 → Prop) : Prop := KD o = (10, 0) ∧ (((mI M o 4) < 0 → (Q 0)) ∧ (¬ (mI M o 4) < 0 → (((mI M o 4) < 10 → (Q (mI M o 4))) ∧ (¬ (mI M o 4) < 10 → (Q 0)))))
set_option maxRecDepth 100000 in
set_option maxHeartbeats 4000000 in
theorem met_X0_topIndex {l : Launch} (hl : l.stackTraces = false) {E : MK} {o : Nat} {M : MEM} {Q : Int32 → Prop} (hw : wp_X0_topIndex o M Q) : gMet l E yX0_topIndex rmX0_topIndex [gR E o] M (qIp M Q) gNo := by
  obtain ⟨hk0, hw⟩ := hw
  refine g_met hl (cc := cX0_topIndex) (maxL := 1) (ret := (some .int)) (hh := []) (loc := [(0, gR E o)]) (by decide +kernel) (Or.inl ⟨tw371, rfl⟩) (Nat.le_of_ble_eq_true rfl) rfl (fun K hK C => ?_)
  have C : GC K E cX0_topIndex RX0 1 (some .int) [] rmX0_topIndex := C
  refine g_aload_n C dX0_topIndex_0 0 rfl rfl ?_
  refine gf_RX0_37 C hk0 dX0_topIndex_1 ?_
  refine g_if_lt C dX0_topIndex_4 (tgt := 16) (by decide) (fun c4 => ?_) (fun c4 => ?_)
  · have hw := hw.1 c4
    refine g_iconst C dX0_topIndex_16 (v := 0) rfl ?_
    refine g_goto C dX0_topIndex_17 (tgt := 24) (by decide) ?_
    exact g_iret C dX0_topIndex_24 (Nat.le_of_ble_eq_true rfl) (Nat.le_of_ble_eq_true rfl) ⟨_, rfl, rfl, hw⟩
  · have hw := hw.2 c4
    refine g_aload_n C dX0_topIndex_7 0 rfl rfl ?_
    refine gf_RX0_37 C hk0 dX0_topIndex_8 ?_
    refine g_bipush C dX0_topIndex_11 (v := 10) rfl ?_
    refine g_icmp_lt C dX0_topIndex_13 (tgt := 20) (by decide) (fun c13 => ?_) (fun c13 => ?_)
    · have hw := hw.1 c13
      refine g_aload_n C dX0_topIndex_20 0 rfl rfl ?_
      refine gf_RX0_37 C hk0 dX0_topIndex_21 ?_
      exact g_iret C dX0_topIndex_24 (Nat.le_of_ble_eq_true rfl) (Nat.le_of_ble_eq_true rfl) ⟨_, rfl, rfl, hw⟩
    · have hw := hw.2 c13
      refine g_iconst C dX0_topIndex_16 (v := 0) rfl ?_
      refine g_goto C dX0_topIndex_17 (tgt := 24) (by decide) ?_
      exact g_iret C dX0_topIndex_24 (Nat.le_of_ble_eq_true rfl) (Nat.le_of_ble_eq_true rfl) ⟨_, rfl, rfl, hw⟩
theorem gc_X0_topIndex : ∀ rm : Room, rmX0_topIndex.frames + 1 ≤ rm.frames → 8 + (1 + 11) + rmX0_topIndex.locals ≤ rm.locals → gCall yX0_topIndex 1 0 rmX0_topIndex rm := fun rm a b => ⟨Or.inl ⟨_, _, tw371⟩, tw3, ⟨by decide, by decide⟩, by decide, a, b⟩
abbrev rmX4_takeSettings : Room := { frames := 1, cells := 0, slots := 0, locals := 18 }
def wp_X4_takeSettings (o : Nat) (p1 : Nat) (M : MEM) (Q : MEM → Prop) : Prop := KD o = (14, 0) ∧ (KD p1 = (14, 0) ∧ ((gB (mI M p1 0) ∧ (∀ M_2 : MEM, M_2 = uI M o 0 (mI M p1 0) → ((∀ M_4 : MEM, M_4 = uI M_2 o 1 (mI M_2 p1 1) → ((∀ M_5 : MEM, M_5 = uI M_4 o 2 (mI M_4 p1 2) → ((∀ M_6 : MEM, M_6 = uI M_5 o 3 (mI M_5 p1 3) → ((∀ M_7 : MEM, M_7 = uI M_6 o 4 (mI M_6 p1 4) → ((KD (RF p1 6) = (0, 4) ∧ (KD (RF o 6) = (0, 4) ∧ (¬ (0 : Int32) < 0 ∧ (¬ (0 : Int32) < 0 ∧ (¬ (4 : Int32) < 0 ∧ ((0 : Int32).toNatClampNeg + (4 : Int32).toNatClampNeg ≤ 4 ∧ ((0 : Int32).toNatClampNeg + (4 : Int32).toNatClampNeg ≤ 4 ∧ (∀ M_15 : MEM, M_15 = uC M_7 (RF p1 6) (RF o 6) (0 : Int32).toNatClampNeg (0 : Int32).toNatClampNeg (4 : Int32).toNatClampNeg → (Q M_15))))))))))))))))))))))
set_option maxRecDepth 100000 in
set_option maxHeartbeats 4000000 in
theorem met_X4_takeSettings {l : Launch} (hl : l.stackTraces = false) {E : MK} {o : Nat} {p1 : Nat} {M : MEM} {Q : MEM → Prop} (hw : wp_X4_takeSettings o p1 M Q) : gMet l E yX4_takeSettings rmX4_takeSettings [gR E o, gR E p1] M (qV Q) gNo := by
  obtain ⟨hk0, hw⟩ := hw
  refine g_met hl (cc := cX4_takeSettings) (maxL := 2) (ret := none) (hh := []) (loc := [(0, gR E o), (1, gR E p1)]) (by decide +kernel) (Or.inl ⟨tw215, rfl⟩) (Nat.le_of_ble_eq_true rfl) rfl (fun K hK C => ?_)
  have C : GC K E cX4_takeSettings RX4 2 none [] rmX4_takeSettings := C
  refine g_aload_n C dX4_takeSettings_0 0 rfl rfl ?_
  refine g_aload_n C dX4_takeSettings_1 1 rfl rfl ?_
  obtain ⟨hk_1, hw⟩ := hw
  refine gf_RX4_18 C hk_1 dX4_takeSettings_2 ?_
  obtain ⟨hb_3, hw⟩ := hw
  refine pf_RX4_18 C hk0 hb_3 dX4_takeSettings_5 ?_
  refine g_nmM (fun M_2 eM_2 => ?_)
  have hw := hw M_2 eM_2
  refine g_aload_n C dX4_takeSettings_8 0 rfl rfl ?_
  refine g_aload_n C dX4_takeSettings_9 1 rfl rfl ?_
  refine gf_RX4_26 C hk_1 dX4_takeSettings_10 ?_
  refine pf_RX4_26 C hk0 dX4_takeSettings_13 ?_
  refine g_nmM (fun M_4 eM_4 => ?_)
  have hw := hw M_4 eM_4
  refine g_aload_n C dX4_takeSettings_16 0 rfl rfl ?_
  refine g_aload_n C dX4_takeSettings_17 1 rfl rfl ?_
  refine gf_RX4_29 C hk_1 dX4_takeSettings_18 ?_
  refine pf_RX4_29 C hk0 dX4_takeSettings_21 ?_
  refine g_nmM (fun M_5 eM_5 => ?_)
  have hw := hw M_5 eM_5
  refine g_aload_n C dX4_takeSettings_24 0 rfl rfl ?_
  refine g_aload_n C dX4_takeSettings_25 1 rfl rfl ?_
  refine gf_RX4_32 C hk_1 dX4_takeSettings_26 ?_
  refine pf_RX4_32 C hk0 dX4_takeSettings_29 ?_
  refine g_nmM (fun M_6 eM_6 => ?_)
  have hw := hw M_6 eM_6
  refine g_aload_n C dX4_takeSettings_32 0 rfl rfl ?_
  refine g_aload_n C dX4_takeSettings_33 1 rfl rfl ?_
  refine gf_RX4_35 C hk_1 dX4_takeSettings_34 ?_
  refine pf_RX4_35 C hk0 dX4_takeSettings_37 ?_
  refine g_nmM (fun M_7 eM_7 => ?_)
  have hw := hw M_7 eM_7
  refine g_aload_n C dX4_takeSettings_40 1 rfl rfl ?_
  refine gf_RX4_9 C hk_1 dX4_takeSettings_41 ?_
  refine g_iconst C dX4_takeSettings_44 (v := 0) rfl ?_
  refine g_aload_n C dX4_takeSettings_45 0 rfl rfl ?_
  refine gf_RX4_9 C hk0 dX4_takeSettings_46 ?_
  refine g_iconst C dX4_takeSettings_49 (v := 0) rfl ?_
  refine g_iconst C dX4_takeSettings_50 (v := 4) rfl ?_
  obtain ⟨hk_8, hw⟩ := hw
  obtain ⟨hk_9, hw⟩ := hw
  obtain ⟨hq_10, hq_11, hq_12, hq_13, hq_14, hw⟩ := hw
  refine g_copy C dX4_takeSettings_51 tw216 tw218 tw217 tw16 hk_8 hk_9 hq_10 hq_11 hq_12 hq_13 hq_14 (Nat.le_of_ble_eq_true rfl) (Nat.le_of_ble_eq_true rfl) ?_
  refine g_nmM (fun M_15 eM_15 => ?_)
  have hw := hw M_15 eM_15
  exact g_vret C dX4_takeSettings_54 (Nat.le_of_ble_eq_true rfl) (Nat.le_of_ble_eq_true rfl) ⟨rfl, hw⟩
theorem gc_X4_takeSettings : ∀ rm : Room, rmX4_takeSettings.frames + 1 ≤ rm.frames → 8 + (2 + 11) + rmX4_takeSettings.locals ≤ rm.locals → gCall yX4_takeSettings 2 1 rmX4_takeSettings rm := fun rm a b => ⟨Or.inl ⟨_, _, tw215⟩, tw2, ⟨by decide, by decide⟩, by decide, a, b⟩
abbrev rmX4_become : Room := { frames := 2, cells := 0, slots := 0, locals := 39 }
def wp_X4_become (o : Nat) (p1 : Nat) (M : MEM) (Q : MEM → Prop) : Prop := KD o = (14, 0) ∧ (wp_X4_takeSettings o p1 M (fun M_2 => KD p1 = (14, 0) ∧ ((∀ M_4 : MEM, M_4 = uI M_2 o 5 (mI M_2 p1 5) → (KD (RF o 7) = (0, 300) ∧ ((KD (RF p1 7) = (0, 300) ∧ (¬ (0 : Int32) < 0 ∧ (¬ (0 : Int32) < 0 ∧ (¬ (300 : Int32) < 0 ∧ ((0 : Int32).toNatClampNeg + (300 : Int32).toNatClampNeg ≤ 300 ∧ ((0 : Int32).toNatClampNeg + (300 : Int32).toNatClampNeg ≤ 300 ∧ (∀ M_12 : MEM, M_12 = uC M_4 (RF p1 7) (RF o 7) (0 : Int32).toNatClampNeg (0 : Int32).toNatClampNeg (300 : Int32).toNatClampNeg → (Q M_12))))))))))))))
set_option maxRecDepth 100000 in
set_option maxHeartbeats 4000000 in
theorem met_X4_become {l : Launch} (hl : l.stackTraces = false) {E : MK} {o : Nat} {p1 : Nat} {M : MEM} {Q : MEM → Prop} (hw : wp_X4_become o p1 M Q) : gMet l E yX4_become rmX4_become [gR E o, gR E p1] M (qV Q) gNo := by
  obtain ⟨hk0, hw⟩ := hw
  refine g_met hl (cc := cX4_become) (maxL := 2) (ret := none) (hh := []) (loc := [(0, gR E o), (1, gR E p1)]) (by decide +kernel) (Or.inl ⟨tw211, rfl⟩) (Nat.le_of_ble_eq_true rfl) rfl (fun K hK C => ?_)
  have C : GC K E cX4_become RX4 2 none [] rmX4_become := C
  refine g_aload_n C dX4_become_0 0 rfl rfl ?_
  refine g_aload_n C dX4_become_1 1 rfl rfl ?_
  refine g_cV C dX4_become_2 (met_X4_takeSettings C.st hw) (gc_X4_takeSettings _ (Nat.le_of_ble_eq_true rfl) (Nat.le_of_ble_eq_true rfl)) tw212 tw214 twp0 (ci := 4) rfl (by decide) hk0 rfl (Nat.le_of_ble_eq_true rfl) (c2 := 0) (s2 := 0) rfl rfl (Nat.le_of_ble_eq_true rfl) (Nat.le_of_ble_eq_true rfl) rfl (kV (fun M_2 hw => ?_)) tNo
  refine g_aload_n C dX4_become_5 0 rfl rfl ?_
  refine g_aload_n C dX4_become_6 1 rfl rfl ?_
  obtain ⟨hk_3, hw⟩ := hw
  refine gf_RX4_22 C hk_3 dX4_become_7 ?_
  refine pf_RX4_22 C hk0 dX4_become_10 ?_
  refine g_nmM (fun M_4 eM_4 => ?_)
  have hw := hw M_4 eM_4
  refine g_aload_n C dX4_become_13 1 rfl rfl ?_
  refine gf_RX4_15 C hk_3 dX4_become_14 ?_
  refine g_iconst C dX4_become_17 (v := 0) rfl ?_
  refine g_aload_n C dX4_become_18 0 rfl rfl ?_
  refine gf_RX4_15 C hk0 dX4_become_19 ?_
  refine g_iconst C dX4_become_22 (v := 0) rfl ?_
  refine g_aload_n C dX4_become_23 0 rfl rfl ?_
  refine gf_RX4_15 C hk0 dX4_become_24 ?_
  obtain ⟨hk_5, hw⟩ := hw
  refine g_alen C hk_5 (by decide) (v := 300) rfl dX4_become_27 ?_
  obtain ⟨hk_6, hw⟩ := hw
  obtain ⟨hq_7, hq_8, hq_9, hq_10, hq_11, hw⟩ := hw
  refine g_copy C dX4_become_28 tw216 tw218 tw217 tw16 hk_6 hk_5 hq_7 hq_8 hq_9 hq_10 hq_11 (Nat.le_of_ble_eq_true rfl) (Nat.le_of_ble_eq_true rfl) ?_
  refine g_nmM (fun M_12 eM_12 => ?_)
  have hw := hw M_12 eM_12
  exact g_vret C dX4_become_31 (Nat.le_of_ble_eq_true rfl) (Nat.le_of_ble_eq_true rfl) ⟨rfl, hw⟩
theorem gc_X4_become : ∀ rm : Room, rmX4_become.frames + 1 ≤ rm.frames → 8 + (2 + 11) + rmX4_become.locals ≤ rm.locals → gCall yX4_become 2 1 rmX4_become rm := fun rm a b => ⟨Or.inl ⟨_, _, tw211⟩, tw2, ⟨by decide, by decide⟩, by decide, a, b⟩
abbrev rmX0_remember : Room := { frames := 3, cells := 0, slots := 0, locals := 60 }
def wp_X0_remember (o : Nat) (p1 : Int32) (p2 : Nat) (p3 : Int32) (M : MEM) (Q : MEM → Prop) : Prop := KD o = (10, 0) ∧ (wp_X0_topIndex o M (fun r_1 => KD (RF o 0) = (4, 10) ∧ vp_in r_1 10 ∧ (KD (RF (RF o 0) r_1.toNatClampNeg) = (14, 0) ∧ wp_X4_become (RF (RF o 0) r_1.toNatClampNeg) p2 M (fun M_6 => (KD (RF o 1) = (0, 10) ∧ (vp_in r_1 10 ∧ (∀ M_10 : MEM, M_10 = uI M_6 (RF o 1) r_1.toNatClampNeg p1 → ((KD (RF o 2) = (0, 10) ∧ (vp_in r_1 10 ∧ (∀ M_13 : MEM, M_13 = uI M_10 (RF o 2) r_1.toNatClampNeg p3 → ((∀ M_14 : MEM, M_14 = uI M_13 o 4 ((r_1 + 1) - (r_1 + 1) / 10 * 10) → (∀ v_15 : Int32, v_15 = (if (10 : Int32) < ((mI M_14 o 3) + 1) then 10 else ((mI M_14 o 3) + 1)) → ((∀ M_16 : MEM, M_16 = uI M_14 o 3 v_15 → (Q M_16)))))))))))))))))
set_option maxRecDepth 100000 in
set_option maxHeartbeats 4000000 in
theorem met_X0_remember {l : Launch} (hl : l.stackTraces = false) {E : MK} {o : Nat} {p1 : Int32} {p2 : Nat} {p3 : Int32} {M : MEM} {Q : MEM → Prop} (hw : wp_X0_remember o p1 p2 p3 M Q) : gMet l E yX0_remember rmX0_remember [gR E o, .int p1, gR E p2, .int p3] M (qV Q) gNo := by
  obtain ⟨hk0, hw⟩ := hw
  refine g_met hl (cc := cX0_remember) (maxL := 5) (ret := none) (hh := []) (loc := [(0, gR E o), (1, .int p1), (2, gR E p2), (3, .int p3)]) (by decide +kernel) (Or.inl ⟨tw367, rfl⟩) (Nat.le_of_ble_eq_true rfl) rfl (fun K hK C => ?_)
  have C : GC K E cX0_remember RX0 5 none [] rmX0_remember := C
  refine g_aload_n C dX0_remember_0 0 rfl rfl ?_
  refine g_cV C dX0_remember_1 (met_X0_topIndex C.st hw) (gc_X0_topIndex _ (Nat.le_of_ble_eq_true rfl) (Nat.le_of_ble_eq_true rfl)) tw368 tw370 twp4 (ci := 0) rfl (by decide) hk0 rfl (Nat.le_of_ble_eq_true rfl) (c2 := 0) (s2 := 0) rfl rfl (Nat.le_of_ble_eq_true rfl) (Nat.le_of_ble_eq_true rfl) rfl (kIp (fun r_1 hw => ?_)) tNo
  refine g_istore C dX0_remember_4 (Nat.le_of_ble_eq_true rfl) (loc' := [(4, .int r_1), (0, gR E o), (1, .int p1), (2, gR E p2), (3, .int p3)]) rfl ?_
  refine g_aload_n C dX0_remember_6 1 rfl rfl ?_
  refine gf_RX0_11 C hk0 dX0_remember_7 ?_
  refine g_iload C (j := 0) dX0_remember_10 0 rfl ?_
  obtain ⟨hk_3, hw⟩ := hw
  obtain ⟨hi_4, hw⟩ := hw
  refine g_aaload C hk_3 hi_4 dX0_remember_12 ?_
  refine g_aload_n C dX0_remember_13 3 rfl rfl ?_
  obtain ⟨hk_7, hw⟩ := hw
  refine g_cV C dX0_remember_14 (met_X4_become C.st hw) (gc_X4_become _ (Nat.le_of_ble_eq_true rfl) (Nat.le_of_ble_eq_true rfl)) tw372 tw209 tw210 (ci := 4) rfl (by decide) hk_7 rfl (Nat.le_of_ble_eq_true rfl) (c2 := 0) (s2 := 0) rfl rfl (Nat.le_of_ble_eq_true rfl) (Nat.le_of_ble_eq_true rfl) rfl (kV (fun M_6 hw => ?_)) tNo
  refine g_aload_n C dX0_remember_17 1 rfl rfl ?_
  refine gf_RX0_17 C hk0 dX0_remember_18 ?_
  refine g_iload C (j := 0) dX0_remember_21 0 rfl ?_
  refine g_iload_n C dX0_remember_23 2 rfl rfl ?_
  obtain ⟨hk_8, hw⟩ := hw
  obtain ⟨hi_9, hw⟩ := hw
  refine g_iastore C hk_8 hi_9 dX0_remember_24 ?_
  refine g_nmM (fun M_10 eM_10 => ?_)
  have hw := hw M_10 eM_10
  refine g_aload_n C dX0_remember_25 1 rfl rfl ?_
  refine gf_RX0_21 C hk0 dX0_remember_26 ?_
  refine g_iload C (j := 0) dX0_remember_29 0 rfl ?_
  refine g_iload_n C dX0_remember_31 4 rfl rfl ?_
  obtain ⟨hk_11, hw⟩ := hw
  obtain ⟨hi_12, hw⟩ := hw
  refine g_iastore C hk_11 hi_12 dX0_remember_32 ?_
  refine g_nmM (fun M_13 eM_13 => ?_)
  have hw := hw M_13 eM_13
  refine g_aload_n C dX0_remember_33 1 rfl rfl ?_
  refine g_iload C (j := 0) dX0_remember_34 0 rfl ?_
  refine g_iconst C dX0_remember_36 (v := 1) rfl ?_
  refine g_iadd C dX0_remember_37 ?_
  refine g_bipush C dX0_remember_38 (v := 10) rfl ?_
  refine g_irem C dX0_remember_40 (by decide) ?_
  refine pf_RX0_37 C hk0 dX0_remember_41 ?_
  refine g_nmM (fun M_14 eM_14 => ?_)
  have hw := hw M_14 eM_14
  refine g_aload_n C dX0_remember_44 1 rfl rfl ?_
  refine g_aload_n C dX0_remember_45 1 rfl rfl ?_
  refine gf_RX0_25 C hk0 dX0_remember_46 ?_
  refine g_iconst C dX0_remember_49 (v := 1) rfl ?_
  refine g_iadd C dX0_remember_50 ?_
  refine g_bipush C dX0_remember_51 (v := 10) rfl ?_
  refine g_min C dX0_remember_53 tw373 tw374 tw6 tw375 (Nat.le_of_ble_eq_true rfl) (Nat.le_of_ble_eq_true rfl) (Nat.le_of_ble_eq_true rfl) (Nat.le_of_ble_eq_true rfl) ?_
  refine g_nmI (fun v_15 ev_15 => ?_)
  have hw := hw v_15 ev_15
  refine pf_RX0_25 C hk0 dX0_remember_56 ?_
  refine g_nmM (fun M_16 eM_16 => ?_)
  have hw := hw M_16 eM_16
  exact g_vret C dX0_remember_59 (Nat.le_of_ble_eq_true rfl) (Nat.le_of_ble_eq_true rfl) ⟨rfl, hw⟩
theorem gc_X0_remember : ∀ rm : Room, rmX0_remember.frames + 1 ≤ rm.frames → 8 + (5 + 11) + rmX0_remember.locals ≤ rm.locals → gCall yX0_remember 5 3 rmX0_remember rm := fun rm a b => ⟨Or.inl ⟨_, _, tw367⟩, tw3, ⟨by decide, by decide⟩, by decide, a, b⟩
abbrev rmX0_stepBack : Room := { frames := 1, cells := 0, slots := 0, locals := 20 }
def wp_X0_stepBack (o : Nat) (M : MEM) (Q : MEM → Prop) : Prop := KD o = (10, 0) ∧ (wp_X0_topIndex o M (fun r_1 => (∀ M_3 : MEM, M_3 = uI M o 4 (((r_1 + 10) - 1) - ((r_1 + 10) - 1) / 10 * 10) → (∀ v_4 : Int32, v_4 = (if ((mI M_3 o 3) - 1) < 0 then 0 else ((mI M_3 o 3) - 1)) → ((∀ M_5 : MEM, M_5 = uI M_3 o 3 v_4 → (Q M_5)))))))
set_option maxRecDepth 100000 in
set_option maxHeartbeats 4000000 in
theorem met_X0_stepBack {l : Launch} (hl : l.stackTraces = false) {E : MK} {o : Nat} {M : MEM} {Q : MEM → Prop} (hw : wp_X0_stepBack o M Q) : gMet l E yX0_stepBack rmX0_stepBack [gR E o] M (qV Q) gNo := by
  obtain ⟨hk0, hw⟩ := hw
  refine g_met hl (cc := cX0_stepBack) (maxL := 1) (ret := none) (hh := []) (loc := [(0, gR E o)]) (by decide +kernel) (Or.inl ⟨tw1000, rfl⟩) (Nat.le_of_ble_eq_true rfl) rfl (fun K hK C => ?_)
  have C : GC K E cX0_stepBack RX0 1 none [] rmX0_stepBack := C
  refine g_aload_n C dX0_stepBack_0 0 rfl rfl ?_
  refine g_aload_n C dX0_stepBack_1 0 rfl rfl ?_
  refine g_cV C dX0_stepBack_2 (met_X0_topIndex C.st hw) (gc_X0_topIndex _ (Nat.le_of_ble_eq_true rfl) (Nat.le_of_ble_eq_true rfl)) tw368 tw370 twp4 (ci := 0) rfl (by decide) hk0 rfl (Nat.le_of_ble_eq_true rfl) (c2 := 0) (s2 := 0) rfl rfl (Nat.le_of_ble_eq_true rfl) (Nat.le_of_ble_eq_true rfl) rfl (kIp (fun r_1 hw => ?_)) tNo
  refine g_bipush C dX0_stepBack_5 (v := 10) rfl ?_
  refine g_iadd C dX0_stepBack_7 ?_
  refine g_iconst C dX0_stepBack_8 (v := 1) rfl ?_
  refine g_isub C dX0_stepBack_9 ?_
  refine g_bipush C dX0_stepBack_10 (v := 10) rfl ?_
  refine g_irem C dX0_stepBack_12 (by decide) ?_
  refine pf_RX0_37 C hk0 dX0_stepBack_13 ?_
  refine g_nmM (fun M_3 eM_3 => ?_)
  have hw := hw M_3 eM_3
  refine g_aload_n C dX0_stepBack_16 0 rfl rfl ?_
  refine g_aload_n C dX0_stepBack_17 0 rfl rfl ?_
  refine gf_RX0_25 C hk0 dX0_stepBack_18 ?_
  refine g_iconst C dX0_stepBack_21 (v := 1) rfl ?_
  refine g_isub C dX0_stepBack_22 ?_
  refine g_iconst C dX0_stepBack_23 (v := 0) rfl ?_
  refine g_max C dX0_stepBack_24 tw1001 tw135 tw6 tw136 (Nat.le_of_ble_eq_true rfl) (Nat.le_of_ble_eq_true rfl) (Nat.le_of_ble_eq_true rfl) (Nat.le_of_ble_eq_true rfl) ?_
  refine g_nmI (fun v_4 ev_4 => ?_)
  have hw := hw v_4 ev_4
  refine pf_RX0_25 C hk0 dX0_stepBack_27 ?_
  refine g_nmM (fun M_5 eM_5 => ?_)
  have hw := hw M_5 eM_5
  exact g_vret C dX0_stepBack_30 (Nat.le_of_ble_eq_true rfl) (Nat.le_of_ble_eq_true rfl) ⟨rfl, hw⟩
theorem gc_X0_stepBack : ∀ rm : Room, rmX0_stepBack.frames + 1 ≤ rm.frames → 8 + (1 + 11) + rmX0_stepBack.locals ≤ rm.locals → gCall yX0_stepBack 1 0 rmX0_stepBack rm := fun rm a b => ⟨Or.inl ⟨_, _, tw1000⟩, tw3, ⟨by decide, by decide⟩, by decide, a, b⟩
abbrev rmX0_slot : Room := { frames := 1, cells := 0, slots := 0, locals := 20 }
def wp_X0_slot (o : Nat) (M : MEM) (Q : Int32 → Prop) : Prop := KD o = (10, 0) ∧ (wp_X0_topIndex o M (fun r_1 => KD (RF o 1) = (0, 10) ∧ vp_in r_1 10 ∧ (Q (mI M (RF o 1) r_1.toNatClampNeg))))
set_option maxRecDepth 100000 in
set_option maxHeartbeats 4000000 in
theorem met_X0_slot {l : Launch} (hl : l.stackTraces = false) {E : MK} {o : Nat} {M : MEM} {Q : Int32 → Prop} (hw : wp_X0_slot o M Q) : gMet l E yX0_slot rmX0_slot [gR E o] M (qIp M Q) gNo := by
  obtain ⟨hk0, hw⟩ := hw
  refine g_met hl (cc := cX0_slot) (maxL := 1) (ret := (some .int)) (hh := []) (loc := [(0, gR E o)]) (by decide +kernel) (Or.inl ⟨tw1005, rfl⟩) (Nat.le_of_ble_eq_true rfl) rfl (fun K hK C => ?_)
  have C : GC K E cX0_slot RX0 1 (some .int) [] rmX0_slot := C
  refine g_aload_n C dX0_slot_0 0 rfl rfl ?_
  refine gf_RX0_17 C hk0 dX0_slot_1 ?_
  refine g_aload_n C dX0_slot_4 0 rfl rfl ?_
  refine g_cV C dX0_slot_5 (met_X0_topIndex C.st hw) (gc_X0_topIndex _ (Nat.le_of_ble_eq_true rfl) (Nat.le_of_ble_eq_true rfl)) tw368 tw370 twp4 (ci := 0) rfl (by decide) hk0 rfl (Nat.le_of_ble_eq_true rfl) (c2 := 0) (s2 := 0) rfl rfl (Nat.le_of_ble_eq_true rfl) (Nat.le_of_ble_eq_true rfl) rfl (kIp (fun r_1 hw => ?_)) tNo
  obtain ⟨hk_3, hw⟩ := hw
  obtain ⟨hi_4, hw⟩ := hw
  refine g_iaload C hk_3 hi_4 dX0_slot_8 ?_
  exact g_iret C dX0_slot_9 (Nat.le_of_ble_eq_true rfl) (Nat.le_of_ble_eq_true rfl) ⟨_, rfl, rfl, hw⟩
theorem gc_X0_slot : ∀ rm : Room, rmX0_slot.frames + 1 ≤ rm.frames → 8 + (1 + 11) + rmX0_slot.locals ≤ rm.locals → gCall yX0_slot 1 0 rmX0_slot rm := fun rm a b => ⟨Or.inl ⟨_, _, tw1005⟩, tw3, ⟨by decide, by decide⟩, by decide, a, b⟩
abbrev rmX0_held : Room := { frames := 1, cells := 0, slots := 0, locals := 20 }
def wp_X0_held (o : Nat) (M : MEM) (Q : Nat → Prop) : Prop := KD o = (10, 0) ∧ (wp_X0_topIndex o M (fun r_1 => KD (RF o 0) = (4, 10) ∧ vp_in r_1 10 ∧ (Q (RF (RF o 0) r_1.toNatClampNeg))))
set_option maxRecDepth 100000 in
set_option maxHeartbeats 4000000 in
theorem met_X0_held {l : Launch} (hl : l.stackTraces = false) {E : MK} {o : Nat} {M : MEM} {Q : Nat → Prop} (hw : wp_X0_held o M Q) : gMet l E yX0_held rmX0_held [gR E o] M (qRp E M Q) gNo := by
  obtain ⟨hk0, hw⟩ := hw
  refine g_met hl (cc := cX0_held) (maxL := 1) (ret := (some (.object "SampleBench$Summary"))) (hh := []) (loc := [(0, gR E o)]) (by decide +kernel) (Or.inl ⟨tw1009, rfl⟩) (Nat.le_of_ble_eq_true rfl) rfl (fun K hK C => ?_)
  have C : GC K E cX0_held RX0 1 (some (.object "SampleBench$Summary")) [] rmX0_held := C
  refine g_aload_n C dX0_held_0 0 rfl rfl ?_
  refine gf_RX0_11 C hk0 dX0_held_1 ?_
  refine g_aload_n C dX0_held_4 0 rfl rfl ?_
  refine g_cV C dX0_held_5 (met_X0_topIndex C.st hw) (gc_X0_topIndex _ (Nat.le_of_ble_eq_true rfl) (Nat.le_of_ble_eq_true rfl)) tw368 tw370 twp4 (ci := 0) rfl (by decide) hk0 rfl (Nat.le_of_ble_eq_true rfl) (c2 := 0) (s2 := 0) rfl rfl (Nat.le_of_ble_eq_true rfl) (Nat.le_of_ble_eq_true rfl) rfl (kIp (fun r_1 hw => ?_)) tNo
  obtain ⟨hk_3, hw⟩ := hw
  obtain ⟨hi_4, hw⟩ := hw
  refine g_aaload C hk_3 hi_4 dX0_held_8 ?_
  exact g_aret C dX0_held_9 (Nat.le_of_ble_eq_true rfl) (Nat.le_of_ble_eq_true rfl) ⟨_, rfl, rfl, hw⟩
theorem gc_X0_held : ∀ rm : Room, rmX0_held.frames + 1 ≤ rm.frames → 8 + (1 + 11) + rmX0_held.locals ≤ rm.locals → gCall yX0_held 1 0 rmX0_held rm := fun rm a b => ⟨Or.inl ⟨_, _, tw1009⟩, tw3, ⟨by decide, by decide⟩, by decide, a, b⟩
abbrev rmX0_next : Room := { frames := 1, cells := 0, slots := 0, locals := 20 }
def wp_X0_next (o : Nat) (M : MEM) (Q : Int32 → Prop) : Prop := KD o = (10, 0) ∧ (wp_X0_topIndex o M (fun r_1 => KD (RF o 2) = (0, 10) ∧ vp_in r_1 10 ∧ (Q (mI M (RF o 2) r_1.toNatClampNeg))))
set_option maxRecDepth 100000 in
set_option maxHeartbeats 4000000 in
theorem met_X0_next {l : Launch} (hl : l.stackTraces = false) {E : MK} {o : Nat} {M : MEM} {Q : Int32 → Prop} (hw : wp_X0_next o M Q) : gMet l E yX0_next rmX0_next [gR E o] M (qIp M Q) gNo := by
  obtain ⟨hk0, hw⟩ := hw
  refine g_met hl (cc := cX0_next) (maxL := 1) (ret := (some .int)) (hh := []) (loc := [(0, gR E o)]) (by decide +kernel) (Or.inl ⟨tw1013, rfl⟩) (Nat.le_of_ble_eq_true rfl) rfl (fun K hK C => ?_)
  have C : GC K E cX0_next RX0 1 (some .int) [] rmX0_next := C
  refine g_aload_n C dX0_next_0 0 rfl rfl ?_
  refine gf_RX0_21 C hk0 dX0_next_1 ?_
  refine g_aload_n C dX0_next_4 0 rfl rfl ?_
  refine g_cV C dX0_next_5 (met_X0_topIndex C.st hw) (gc_X0_topIndex _ (Nat.le_of_ble_eq_true rfl) (Nat.le_of_ble_eq_true rfl)) tw368 tw370 twp4 (ci := 0) rfl (by decide) hk0 rfl (Nat.le_of_ble_eq_true rfl) (c2 := 0) (s2 := 0) rfl rfl (Nat.le_of_ble_eq_true rfl) (Nat.le_of_ble_eq_true rfl) rfl (kIp (fun r_1 hw => ?_)) tNo
  obtain ⟨hk_3, hw⟩ := hw
  obtain ⟨hi_4, hw⟩ := hw
  refine g_iaload C hk_3 hi_4 dX0_next_8 ?_
  exact g_iret C dX0_next_9 (Nat.le_of_ble_eq_true rfl) (Nat.le_of_ble_eq_true rfl) ⟨_, rfl, rfl, hw⟩
theorem gc_X0_next : ∀ rm : Room, rmX0_next.frames + 1 ≤ rm.frames → 8 + (1 + 11) + rmX0_next.locals ≤ rm.locals → gCall yX0_next 1 0 rmX0_next rm := fun rm a b => ⟨Or.inl ⟨_, _, tw1013⟩, tw3, ⟨by decide, by decide⟩, by decide, a, b⟩
abbrev rmX1_length : Room := { frames := 0, cells := 0, slots := 0, locals := 0 }
def wp_X1_length (o : Nat) (M : MEM) (Q : Int32 → Prop) : Prop := KD o = (11, 0) ∧ (Q (mI M o 1))
set_option maxRecDepth 100000 in
set_option maxHeartbeats 4000000 in
theorem met_X1_length {l : Launch} (hl : l.stackTraces = false) {E : MK} {o : Nat} {M : MEM} {Q : Int32 → Prop} (hw : wp_X1_length o M Q) : gMet l E yX1_length rmX1_length [gR E o] M (qIp M Q) gNo := by
  obtain ⟨hk0, hw⟩ := hw
  refine g_met hl (cc := cX1_length) (maxL := 1) (ret := (some .int)) (hh := []) (loc := [(0, gR E o)]) (by decide +kernel) (Or.inl ⟨tw881, rfl⟩) (Nat.le_of_ble_eq_true rfl) rfl (fun K hK C => ?_)
  have C : GC K E cX1_length RX1 1 (some .int) [] rmX1_length := C
  refine g_aload_n C dX1_length_0 0 rfl rfl ?_
  refine gf_RX1_21 C hk0 dX1_length_1 ?_
  exact g_iret C dX1_length_4 (Nat.le_of_ble_eq_true rfl) (Nat.le_of_ble_eq_true rfl) ⟨_, rfl, rfl, hw⟩
theorem gc_X1_length : ∀ rm : Room, rmX1_length.frames + 1 ≤ rm.frames → 8 + (1 + 11) + rmX1_length.locals ≤ rm.locals → gCall yX1_length 1 0 rmX1_length rm := fun rm a b => ⟨Or.inl ⟨_, _, tw881⟩, tw5, ⟨by decide, by decide⟩, by decide, a, b⟩
abbrev rmX1_isFull : Room := { frames := 0, cells := 0, slots := 0, locals := 0 }
def wp_X1_isFull (o : Nat) (M : MEM) (Q : Int32 → Prop) : Prop := KD o = (11, 0) ∧ (∃ len_1 : Nat, KD (RF o 0) = (1, len_1) ∧ (((mI M o 1) < (nI len_1) → (Q 0)) ∧ (¬ (mI M o 1) < (nI len_1) → (Q 1))))
set_option maxRecDepth 100000 in
set_option maxHeartbeats 4000000 in
theorem met_X1_isFull {l : Launch} (hl : l.stackTraces = false) {E : MK} {o : Nat} {M : MEM} {Q : Int32 → Prop} (hw : wp_X1_isFull o M Q) : gMet l E yX1_isFull rmX1_isFull [gR E o] M (qIp M Q) gNo := by
  obtain ⟨hk0, hw⟩ := hw
  refine g_met hl (cc := cX1_isFull) (maxL := 1) (ret := (some .boolean)) (hh := []) (loc := [(0, gR E o)]) (by decide +kernel) (Or.inl ⟨tw872, rfl⟩) (Nat.le_of_ble_eq_true rfl) rfl (fun K hK C => ?_)
  have C : GC K E cX1_isFull RX1 1 (some .boolean) [] rmX1_isFull := C
  refine g_aload_n C dX1_isFull_0 0 rfl rfl ?_
  refine gf_RX1_21 C hk0 dX1_isFull_1 ?_
  refine g_aload_n C dX1_isFull_4 0 rfl rfl ?_
  refine gf_RX1_15 C hk0 dX1_isFull_5 ?_
  obtain ⟨len_1, hw⟩ := hw
  obtain ⟨hk_2, hw⟩ := hw
  refine g_alen C hk_2 (by decide) (v := nI len_1) rfl dX1_isFull_8 ?_
  refine g_icmp_lt C dX1_isFull_9 (tgt := 16) (by decide) (fun c9 => ?_) (fun c9 => ?_)
  · have hw := hw.1 c9
    refine g_iconst C dX1_isFull_16 (v := 0) rfl ?_
    exact g_zret C dX1_isFull_17 gB0.1 (Nat.le_of_ble_eq_true rfl) (Nat.le_of_ble_eq_true rfl) ⟨_, rfl, rfl, hw⟩
  · have hw := hw.2 c9
    refine g_iconst C dX1_isFull_12 (v := 1) rfl ?_
    refine g_goto C dX1_isFull_13 (tgt := 17) (by decide) ?_
    exact g_zret C dX1_isFull_17 gB1.1 (Nat.le_of_ble_eq_true rfl) (Nat.le_of_ble_eq_true rfl) ⟨_, rfl, rfl, hw⟩
theorem gc_X1_isFull : ∀ rm : Room, rmX1_isFull.frames + 1 ≤ rm.frames → 8 + (1 + 11) + rmX1_isFull.locals ≤ rm.locals → gCall yX1_isFull 1 0 rmX1_isFull rm := fun rm a b => ⟨Or.inl ⟨_, _, tw872⟩, tw5, ⟨by decide, by decide⟩, by decide, a, b⟩
abbrev rmX1_clear : Room := { frames := 0, cells := 0, slots := 0, locals := 0 }
def wp_X1_clear (o : Nat) (M : MEM) (Q : MEM → Prop) : Prop := KD o = (11, 0) ∧ ((∀ M_1 : MEM, M_1 = uI M o 1 0 → (Q M_1)))
set_option maxRecDepth 100000 in
set_option maxHeartbeats 4000000 in
theorem met_X1_clear {l : Launch} (hl : l.stackTraces = false) {E : MK} {o : Nat} {M : MEM} {Q : MEM → Prop} (hw : wp_X1_clear o M Q) : gMet l E yX1_clear rmX1_clear [gR E o] M (qV Q) gNo := by
  obtain ⟨hk0, hw⟩ := hw
  refine g_met hl (cc := cX1_clear) (maxL := 1) (ret := none) (hh := []) (loc := [(0, gR E o)]) (by decide +kernel) (Or.inl ⟨tw918, rfl⟩) (Nat.le_of_ble_eq_true rfl) rfl (fun K hK C => ?_)
  have C : GC K E cX1_clear RX1 1 none [] rmX1_clear := C
  refine g_aload_n C dX1_clear_0 0 rfl rfl ?_
  refine g_iconst C dX1_clear_1 (v := 0) rfl ?_
  refine pf_RX1_21 C hk0 dX1_clear_2 ?_
  refine g_nmM (fun M_1 eM_1 => ?_)
  have hw := hw M_1 eM_1
  exact g_vret C dX1_clear_5 (Nat.le_of_ble_eq_true rfl) (Nat.le_of_ble_eq_true rfl) ⟨rfl, hw⟩
theorem gc_X1_clear : ∀ rm : Room, rmX1_clear.frames + 1 ≤ rm.frames → 8 + (1 + 11) + rmX1_clear.locals ≤ rm.locals → gCall yX1_clear 1 0 rmX1_clear rm := fun rm a b => ⟨Or.inl ⟨_, _, tw918⟩, tw5, ⟨by decide, by decide⟩, by decide, a, b⟩
abbrev rmX1_add : Room := { frames := 0, cells := 0, slots := 0, locals := 0 }
def wp_X1_add (o : Nat) (p1 : Int32) (M : MEM) (Q : MEM → Prop) : Prop := KD o = (11, 0) ∧ (((mI M o 1) < 0 → (Q M)) ∧ (¬ (mI M o 1) < 0 → (∃ len_1 : Nat, KD (RF o 0) = (1, len_1) ∧ (((nI len_1) ≤ (mI M o 1) → (Q M)) ∧ (¬ (nI len_1) ≤ (mI M o 1) → ((vp_in (mI M o 1) len_1 ∧ (gC p1 ∧ (∀ M_5 : MEM, M_5 = uI M (RF o 0) (mI M o 1).toNatClampNeg p1 → ((∀ M_6 : MEM, M_6 = uI M_5 o 1 ((mI M_5 o 1) + 1) → (Q M_6))))))))))))
set_option maxRecDepth 100000 in
set_option maxHeartbeats 4000000 in
theorem met_X1_add {l : Launch} (hl : l.stackTraces = false) {E : MK} {o : Nat} {p1 : Int32} {M : MEM} {Q : MEM → Prop} (hw : wp_X1_add o p1 M Q) : gMet l E yX1_add rmX1_add [gR E o, .int p1] M (qV Q) gNo := by
  obtain ⟨hk0, hw⟩ := hw
  refine g_met hl (cc := cX1_add) (maxL := 2) (ret := none) (hh := []) (loc := [(0, gR E o), (1, .int p1)]) (by decide +kernel) (Or.inl ⟨tw877, rfl⟩) (Nat.le_of_ble_eq_true rfl) rfl (fun K hK C => ?_)
  have C : GC K E cX1_add RX1 2 none [] rmX1_add := C
  refine g_aload_n C dX1_add_0 0 rfl rfl ?_
  refine gf_RX1_21 C hk0 dX1_add_1 ?_
  refine g_if_lt C dX1_add_4 (tgt := 39) (by decide) (fun c4 => ?_) (fun c4 => ?_)
  · have hw := hw.1 c4
    exact g_vret C dX1_add_39 (Nat.le_of_ble_eq_true rfl) (Nat.le_of_ble_eq_true rfl) ⟨rfl, hw⟩
  · have hw := hw.2 c4
    refine g_aload_n C dX1_add_7 0 rfl rfl ?_
    refine gf_RX1_21 C hk0 dX1_add_8 ?_
    refine g_aload_n C dX1_add_11 0 rfl rfl ?_
    refine gf_RX1_15 C hk0 dX1_add_12 ?_
    obtain ⟨len_1, hw⟩ := hw
    obtain ⟨hk_2, hw⟩ := hw
    refine g_alen C hk_2 (by decide) (v := nI len_1) rfl dX1_add_15 ?_
    refine g_icmp_ge C dX1_add_16 (tgt := 39) (by decide) (fun c16 => ?_) (fun c16 => ?_)
    · have hw := hw.1 c16
      exact g_vret C dX1_add_39 (Nat.le_of_ble_eq_true rfl) (Nat.le_of_ble_eq_true rfl) ⟨rfl, hw⟩
    · have hw := hw.2 c16
      refine g_aload_n C dX1_add_19 0 rfl rfl ?_
      refine gf_RX1_15 C hk0 dX1_add_20 ?_
      refine g_aload_n C dX1_add_23 0 rfl rfl ?_
      refine gf_RX1_21 C hk0 dX1_add_24 ?_
      refine g_iload_n C dX1_add_27 1 rfl rfl ?_
      obtain ⟨hi_3, hw⟩ := hw
      obtain ⟨hc_4, hw⟩ := hw
      refine g_castore C hk_2 hi_3 hc_4.v dX1_add_28 ?_
      refine g_nmM (fun M_5 eM_5 => ?_)
      have hw := hw M_5 eM_5
      refine g_aload_n C dX1_add_29 0 rfl rfl ?_
      refine g_dup C dX1_add_30 rfl ?_
      refine gf_RX1_21 C hk0 dX1_add_31 ?_
      refine g_iconst C dX1_add_34 (v := 1) rfl ?_
      refine g_iadd C dX1_add_35 ?_
      refine pf_RX1_21 C hk0 dX1_add_36 ?_
      refine g_nmM (fun M_6 eM_6 => ?_)
      have hw := hw M_6 eM_6
      exact g_vret C dX1_add_39 (Nat.le_of_ble_eq_true rfl) (Nat.le_of_ble_eq_true rfl) ⟨rfl, hw⟩
theorem gc_X1_add : ∀ rm : Room, rmX1_add.frames + 1 ≤ rm.frames → 8 + (2 + 11) + rmX1_add.locals ≤ rm.locals → gCall yX1_add 2 1 rmX1_add rm := fun rm a b => ⟨Or.inl ⟨_, _, tw877⟩, tw5, ⟨by decide, by decide⟩, by decide, a, b⟩
abbrev rmX1_letterAt : Room := { frames := 0, cells := 0, slots := 0, locals := 0 }
def wp_X1_letterAt (o : Nat) (p1 : Int32) (M : MEM) (Q : Int32 → Prop) : Prop := KD o = (11, 0) ∧ ((p1 < 0 → (Q 0)) ∧ (¬ p1 < 0 → (((mI M o 1) ≤ p1 → (Q 0)) ∧ (¬ (mI M o 1) ≤ p1 → (∃ len_1 : Nat, KD (RF o 0) = (1, len_1) ∧ ((p1 < (nI len_1) → (vp_in p1 len_1 ∧ (gC (mI M (RF o 0) p1.toNatClampNeg) ∧ Q (mI M (RF o 0) p1.toNatClampNeg)))) ∧ (¬ p1 < (nI len_1) → (Q 0))))))))
set_option maxRecDepth 100000 in
set_option maxHeartbeats 4000000 in
theorem met_X1_letterAt {l : Launch} (hl : l.stackTraces = false) {E : MK} {o : Nat} {p1 : Int32} {M : MEM} {Q : Int32 → Prop} (hw : wp_X1_letterAt o p1 M Q) : gMet l E yX1_letterAt rmX1_letterAt [gR E o, .int p1] M (qIp M Q) gNo := by
  obtain ⟨hk0, hw⟩ := hw
  refine g_met hl (cc := cX1_letterAt) (maxL := 2) (ret := (some .char)) (hh := []) (loc := [(0, gR E o), (1, .int p1)]) (by decide +kernel) (Or.inl ⟨tw901, rfl⟩) (Nat.le_of_ble_eq_true rfl) rfl (fun K hK C => ?_)
  have C : GC K E cX1_letterAt RX1 2 (some .char) [] rmX1_letterAt := C
  refine g_iload_n C dX1_letterAt_0 1 rfl rfl ?_
  refine g_if_lt C dX1_letterAt_1 (tgt := 21) (by decide) (fun c1 => ?_) (fun c1 => ?_)
  · have hw := hw.1 c1
    refine g_iconst C dX1_letterAt_21 (v := 0) rfl ?_
    refine g_goto C dX1_letterAt_22 (tgt := 31) (by decide) ?_
    exact g_zret C dX1_letterAt_31 rfl (Nat.le_of_ble_eq_true rfl) (Nat.le_of_ble_eq_true rfl) ⟨_, rfl, rfl, hw⟩
  · have hw := hw.2 c1
    refine g_iload_n C dX1_letterAt_4 1 rfl rfl ?_
    refine g_aload_n C dX1_letterAt_5 0 rfl rfl ?_
    refine gf_RX1_21 C hk0 dX1_letterAt_6 ?_
    refine g_icmp_ge C dX1_letterAt_9 (tgt := 21) (by decide) (fun c9 => ?_) (fun c9 => ?_)
    · have hw := hw.1 c9
      refine g_iconst C dX1_letterAt_21 (v := 0) rfl ?_
      refine g_goto C dX1_letterAt_22 (tgt := 31) (by decide) ?_
      exact g_zret C dX1_letterAt_31 rfl (Nat.le_of_ble_eq_true rfl) (Nat.le_of_ble_eq_true rfl) ⟨_, rfl, rfl, hw⟩
    · have hw := hw.2 c9
      refine g_iload_n C dX1_letterAt_12 1 rfl rfl ?_
      refine g_aload_n C dX1_letterAt_13 0 rfl rfl ?_
      refine gf_RX1_15 C hk0 dX1_letterAt_14 ?_
      obtain ⟨len_1, hw⟩ := hw
      obtain ⟨hk_2, hw⟩ := hw
      refine g_alen C hk_2 (by decide) (v := nI len_1) rfl dX1_letterAt_17 ?_
      refine g_icmp_lt C dX1_letterAt_18 (tgt := 25) (by decide) (fun c18 => ?_) (fun c18 => ?_)
      · have hw := hw.1 c18
        refine g_aload_n C dX1_letterAt_25 0 rfl rfl ?_
        refine gf_RX1_15 C hk0 dX1_letterAt_26 ?_
        refine g_iload_n C dX1_letterAt_29 1 rfl rfl ?_
        obtain ⟨hi_3, hw⟩ := hw
        refine g_caload C hk_2 hi_3 dX1_letterAt_30 ?_
        obtain ⟨hc_4, hw⟩ := hw
        exact g_zret C dX1_letterAt_31 hc_4 (Nat.le_of_ble_eq_true rfl) (Nat.le_of_ble_eq_true rfl) ⟨_, rfl, rfl, hw⟩
      · have hw := hw.2 c18
        refine g_iconst C dX1_letterAt_21 (v := 0) rfl ?_
        refine g_goto C dX1_letterAt_22 (tgt := 31) (by decide) ?_
        exact g_zret C dX1_letterAt_31 rfl (Nat.le_of_ble_eq_true rfl) (Nat.le_of_ble_eq_true rfl) ⟨_, rfl, rfl, hw⟩
theorem gc_X1_letterAt : ∀ rm : Room, rmX1_letterAt.frames + 1 ≤ rm.frames → 8 + (2 + 11) + rmX1_letterAt.locals ≤ rm.locals → gCall yX1_letterAt 2 1 rmX1_letterAt rm := fun rm a b => ⟨Or.inl ⟨_, _, tw901⟩, tw5, ⟨by decide, by decide⟩, by decide, a, b⟩
abbrev rmX1_addNumber : Room := { frames := 1, cells := 0, slots := 0, locals := 21 }
def wp_X1_addNumber_L56 (o : Nat) (Q : MEM → Prop) (x2_2 : Int64) : Nat → Int64 → MEM → Prop
  | 0, _, _ => False
  | n56 + 1, x4_6, M_7 => (x4_6 ≤ 0 → (Q M_7)) ∧ (¬ x4_6 ≤ 0 → (¬ x4_6 = 0 ∧ (wp_X1_add o (gch ((48 + ((x2_2 / x4_6) - (x2_2 / x4_6) / 10 * 10) : Int64).toInt32)) M_7 (fun M_10 => ∀ x4_11 : Int64, x4_11 = x4_6 / 10 → ((wp_X1_addNumber_L56 o Q x2_2 n56) x4_11 M_10)))))
def wp_X1_addNumber_J56 (o : Nat) (Q : MEM → Prop) (x2_2 : Int64) (M_3 : MEM) (x4_4 : Int64) : Prop := ∃ m56 : Nat, wp_X1_addNumber_L56 o Q x2_2 m56 x4_4 M_3
def wp_X1_addNumber_L24 (o : Nat) (Q : MEM → Prop) (x2_2 : Int64) (M_3 : MEM) : Nat → Int64 → Int32 → Prop
  | 0, _, _ => False
  | n24 + 1, x4_4, x6_5 => (10 ≤ x6_5 → (wp_X1_addNumber_J56 o Q x2_2 M_3 x4_4)) ∧ (¬ 10 ≤ x6_5 → ((x2_2 < (x4_4 * 10) → (wp_X1_addNumber_J56 o Q x2_2 M_3 x4_4)) ∧ (¬ x2_2 < (x4_4 * 10) → (∀ x4_12 : Int64, x4_12 = x4_4 * 10 → (∀ x6_13 : Int32, x6_13 = x6_5 + 1 → ((wp_X1_addNumber_L24 o Q x2_2 M_3 n24) x4_12 x6_13))))))
def wp_X1_addNumber_J18 (o : Nat) (Q : MEM → Prop) (x2_2 : Int64) (M_3 : MEM) : Prop := ∃ m24 : Nat, wp_X1_addNumber_L24 o Q x2_2 M_3 m24 1 1
def wp_X1_addNumber (o : Nat) (p1 : Int32) (M : MEM) (Q : MEM → Prop) : Prop := KD o = (11, 0) ∧ (∀ x2_1 : Int64, x2_1 = p1.toInt64 → ((0 ≤ x2_1 → (wp_X1_addNumber_J18 o Q x2_1 M)) ∧ (¬ 0 ≤ x2_1 → (wp_X1_add o 45 M (fun M_15 => ∀ x2_16 : Int64, x2_16 = -x2_1 → (wp_X1_addNumber_J18 o Q x2_16 M_15))))))
set_option maxRecDepth 100000 in
set_option maxHeartbeats 4000000 in
theorem met_X1_addNumber {l : Launch} (hl : l.stackTraces = false) {E : MK} {o : Nat} {p1 : Int32} {M : MEM} {Q : MEM → Prop} (hw : wp_X1_addNumber o p1 M Q) : gMet l E yX1_addNumber rmX1_addNumber [gR E o, .int p1] M (qV Q) gNo := by
  obtain ⟨hk0, hw⟩ := hw
  refine g_met hl (cc := cX1_addNumber) (maxL := 7) (ret := none) (hh := []) (loc := [(0, gR E o), (1, .int p1)]) (by decide +kernel) (Or.inl ⟨tw971, rfl⟩) (Nat.le_of_ble_eq_true rfl) rfl (fun K hK C => ?_)
  have C : GC K E cX1_addNumber RX1 7 none [] rmX1_addNumber := C
  refine g_iload_n C dX1_addNumber_0 1 rfl rfl ?_
  refine g_i2l C dX1_addNumber_1 ?_
  refine g_nmL (fun x2_1 ex2_1 => ?_)
  have hw := hw x2_1 ex2_1
  refine g_lstore_n C dX1_addNumber_2 rfl (Nat.le_of_ble_eq_true rfl) (loc' := [(2, .long x2_1), (0, gR E o), (1, .int p1)]) rfl ?_
  refine g_lload_n C dX1_addNumber_3 0 rfl rfl ?_
  refine g_lconst C dX1_addNumber_4 (v := 0) rfl ?_
  have hJ18 : ∀ (x2_2 : Int64) (M_3 : MEM), wp_X1_addNumber_J18 o Q x2_2 M_3 → GX K E 7 M_3 [(0, gR E o), (2, .long x2_2)] [] 18 0 0 (gEnd K E (qV Q) gNo rmX1_addNumber.cells rmX1_addNumber.slots) := by
    intro x2_2 M_3 hw
    refine g_lconst C dX1_addNumber_18 (v := 1) rfl ?_
    refine g_lstore C dX1_addNumber_19 (Nat.le_of_ble_eq_true rfl) (loc' := [(4, .long 1), (0, gR E o), (2, .long x2_2)]) rfl ?_
    refine g_iconst C dX1_addNumber_21 (v := 1) rfl ?_
    refine g_istore C dX1_addNumber_22 (Nat.le_of_ble_eq_true rfl) (loc' := [(6, .int 1), (4, .long 1), (0, gR E o), (2, .long x2_2)]) rfl ?_
    obtain ⟨m24, hw⟩ := hw
    have hL24 : ∀ (n24 : Nat) (x4_4 : Int64) (x6_5 : Int32), wp_X1_addNumber_L24 o Q x2_2 M_3 n24 x4_4 x6_5 → GX K E 7 M_3 [(0, gR E o), (2, .long x2_2), (4, .long x4_4), (6, .int x6_5)] [] 24 0 0 (gEnd K E (qV Q) gNo rmX1_addNumber.cells rmX1_addNumber.slots) := by
      intro n24
      induction n24 with
      | zero => intro _ _ hw; exact False.elim hw
      | succ n24 ih24 =>
        intro x4_4 x6_5 hw
        refine g_iload C (j := 0) dX1_addNumber_24 3 rfl ?_
        refine g_bipush C dX1_addNumber_26 (v := 10) rfl ?_
        have hJ56 : wp_X1_addNumber_J56 o Q x2_2 M_3 x4_4 → GX K E 7 M_3 [(0, gR E o), (2, .long x2_2), (4, .long x4_4)] [] 56 0 0 (gEnd K E (qV Q) gNo rmX1_addNumber.cells rmX1_addNumber.slots) := by
          intro hw
          obtain ⟨m56, hw⟩ := hw
          have hL56 : ∀ (n56 : Nat) (x4_6 : Int64) (M_7 : MEM), wp_X1_addNumber_L56 o Q x2_2 n56 x4_6 M_7 → GX K E 7 M_7 [(0, gR E o), (2, .long x2_2), (4, .long x4_6)] [] 56 0 0 (gEnd K E (qV Q) gNo rmX1_addNumber.cells rmX1_addNumber.slots) := by
            intro n56
            induction n56 with
            | zero => intro _ _ hw; exact False.elim hw
            | succ n56 ih56 =>
              intro x4_6 M_7 hw
              refine g_lload C (j := 0) dX1_addNumber_56 2 rfl ?_
              refine g_lconst C dX1_addNumber_58 (v := 0) rfl ?_
              refine g_lc_le C dX1_addNumber_59 dX1_addNumber_60 (tgt := 92) (by decide) (fun c60 => ?_) (fun c60 => ?_)
              · have hw := hw.1 c60
                exact g_vret C dX1_addNumber_92 (Nat.le_of_ble_eq_true rfl) (Nat.le_of_ble_eq_true rfl) ⟨rfl, hw⟩
              · have hw := hw.2 c60
                refine g_aload_n C dX1_addNumber_63 0 rfl rfl ?_
                refine g_ldc2 C dX1_addNumber_64 tw974 ?_
                refine g_lload_n C dX1_addNumber_67 1 rfl rfl ?_
                refine g_lload C (j := 0) dX1_addNumber_68 2 rfl ?_
                obtain ⟨hz_8, hw⟩ := hw
                refine g_ldiv C dX1_addNumber_70 hz_8 ?_
                refine g_ldc2 C dX1_addNumber_71 tw973 ?_
                refine g_lrem C dX1_addNumber_74 (by decide) ?_
                refine g_ladd C dX1_addNumber_75 ?_
                refine g_l2i C dX1_addNumber_76 ?_
                refine g_i2c C dX1_addNumber_77 ?_
                refine g_cV C dX1_addNumber_78 (met_X1_add C.st hw) (gc_X1_add _ (Nat.le_of_ble_eq_true rfl) (Nat.le_of_ble_eq_true rfl)) tw972 tw875 tw876 (ci := 1) rfl (by decide) hk0 rfl (Nat.le_of_ble_eq_true rfl) (c2 := 0) (s2 := 0) rfl rfl (Nat.le_of_ble_eq_true rfl) (Nat.le_of_ble_eq_true rfl) rfl (kV (fun M_10 hw => ?_)) tNo
                refine g_lload C (j := 0) dX1_addNumber_81 2 rfl ?_
                refine g_ldc2 C dX1_addNumber_83 tw973 ?_
                refine g_ldiv C dX1_addNumber_86 (by decide) ?_
                refine g_nmL (fun x4_11 ex4_11 => ?_)
                have hw := hw x4_11 ex4_11
                refine g_lstore C dX1_addNumber_87 (Nat.le_of_ble_eq_true rfl) (loc' := [(4, .long x4_11), (0, gR E o), (2, .long x2_2)]) rfl ?_
                refine g_goto C dX1_addNumber_89 (tgt := 56) (by decide) ?_
                refine g_sub [1, 2, 0] rfl ?_
                exact ih56 _ _ hw
          exact hL56 m56 _ _ hw
        refine g_icmp_ge C dX1_addNumber_28 (tgt := 56) (by decide) (fun c28 => ?_) (fun c28 => ?_)
        · have hw := hw.1 c28
          refine g_sub [0, 1, 2] rfl ?_
          exact hJ56 hw
        · have hw := hw.2 c28
          refine g_lload_n C dX1_addNumber_31 1 rfl rfl ?_
          refine g_lload C (j := 0) dX1_addNumber_32 2 rfl ?_
          refine g_ldc2 C dX1_addNumber_34 tw973 ?_
          refine g_lmul C dX1_addNumber_37 ?_
          refine g_lc_lt C dX1_addNumber_38 dX1_addNumber_39 (tgt := 56) (by decide) (fun c39 => ?_) (fun c39 => ?_)
          · have hw := hw.1 c39
            refine g_sub [0, 1, 2] rfl ?_
            exact hJ56 hw
          · have hw := hw.2 c39
            refine g_lload C (j := 0) dX1_addNumber_42 2 rfl ?_
            refine g_ldc2 C dX1_addNumber_44 tw973 ?_
            refine g_lmul C dX1_addNumber_47 ?_
            refine g_nmL (fun x4_12 ex4_12 => ?_)
            have hw := hw x4_12 ex4_12
            refine g_lstore C dX1_addNumber_48 (Nat.le_of_ble_eq_true rfl) (loc' := [(4, .long x4_12), (0, gR E o), (2, .long x2_2), (6, .int x6_5)]) rfl ?_
            obtain ⟨x6_13, ex6_13⟩ : ∃ y : Int32, y = x6_5 + 1 := ⟨_, rfl⟩
            have hw := hw x6_13 ex6_13
            refine g_iinc C (j := 0) dX1_addNumber_50 3 rfl (v := x6_13) (by rw [ex6_13]; rfl) (Nat.le_of_ble_eq_true rfl) (loc' := [(6, .int x6_13), (4, .long x4_12), (0, gR E o), (2, .long x2_2)]) rfl ?_
            refine g_goto C dX1_addNumber_53 (tgt := 24) (by decide) ?_
            refine g_sub [2, 3, 1, 0] rfl ?_
            exact ih24 _ _ hw
    refine g_sub [2, 3, 1, 0] rfl ?_
    exact hL24 m24 _ _ hw
  refine g_lc_ge C dX1_addNumber_5 dX1_addNumber_6 (tgt := 18) (by decide) (fun c6 => ?_) (fun c6 => ?_)
  · have hw := hw.1 c6
    refine g_sub [1, 0] rfl ?_
    exact hJ18 _ _ hw
  · have hw := hw.2 c6
    refine g_aload_n C dX1_addNumber_9 1 rfl rfl ?_
    refine g_bipush C dX1_addNumber_10 (v := 45) rfl ?_
    refine g_cV C dX1_addNumber_12 (met_X1_add C.st hw) (gc_X1_add _ (Nat.le_of_ble_eq_true rfl) (Nat.le_of_ble_eq_true rfl)) tw972 tw875 tw876 (ci := 1) rfl (by decide) hk0 rfl (Nat.le_of_ble_eq_true rfl) (c2 := 0) (s2 := 0) rfl rfl (Nat.le_of_ble_eq_true rfl) (Nat.le_of_ble_eq_true rfl) rfl (kV (fun M_15 hw => ?_)) tNo
    refine g_lload_n C dX1_addNumber_15 0 rfl rfl ?_
    refine g_lneg C dX1_addNumber_16 ?_
    refine g_nmL (fun x2_16 ex2_16 => ?_)
    have hw := hw x2_16 ex2_16
    refine g_lstore_n C dX1_addNumber_17 rfl (Nat.le_of_ble_eq_true rfl) (loc' := [(2, .long x2_16), (0, gR E o), (1, .int p1)]) rfl ?_
    refine g_sub [1, 0] rfl ?_
    exact hJ18 _ _ hw
theorem gc_X1_addNumber : ∀ rm : Room, rmX1_addNumber.frames + 1 ≤ rm.frames → 8 + (7 + 11) + rmX1_addNumber.locals ≤ rm.locals → gCall yX1_addNumber 7 1 rmX1_addNumber rm := fun rm a b => ⟨Or.inl ⟨_, _, tw971⟩, tw5, ⟨by decide, by decide⟩, by decide, a, b⟩
abbrev rmX2_isLastOfPart : Room := { frames := 0, cells := 0, slots := 0, locals := 0 }
def wp_X2_isLastOfPart (p1 : Int32) (M : MEM) (Q : Int32 → Prop) : Prop := (4 ≤ p1 → ((¬ ((p1 - 4) - (p1 - 4) / 5 * 5) = 4 → (Q 0)) ∧ (((p1 - 4) - (p1 - 4) / 5 * 5) = 4 → (Q 1)))) ∧ (¬ 4 ≤ p1 → ((¬ p1 = 3 → (Q 0)) ∧ (p1 = 3 → (Q 1))))
set_option maxRecDepth 100000 in
set_option maxHeartbeats 4000000 in
theorem met_X2_isLastOfPart {l : Launch} (hl : l.stackTraces = false) {E : MK} {p1 : Int32} {M : MEM} {Q : Int32 → Prop} (hw : wp_X2_isLastOfPart p1 M Q) : gMet l E yX2_isLastOfPart rmX2_isLastOfPart [.int p1] M (qIp M Q) gNo := by
  refine g_met hl (cc := cX2_isLastOfPart) (maxL := 1) (ret := (some .boolean)) (hh := []) (loc := [(0, .int p1)]) (by decide +kernel) (Or.inl ⟨tw911, rfl⟩) (Nat.le_of_ble_eq_true rfl) rfl (fun K hK C => ?_)
  have C : GC K E cX2_isLastOfPart RX2 1 (some .boolean) [] rmX2_isLastOfPart := C
  refine g_iload_n C dX2_isLastOfPart_0 0 rfl rfl ?_
  refine g_iconst C dX2_isLastOfPart_1 (v := 4) rfl ?_
  refine g_icmp_ge C dX2_isLastOfPart_2 (tgt := 18) (by decide) (fun c2 => ?_) (fun c2 => ?_)
  · have hw := hw.1 c2
    refine g_iload_n C dX2_isLastOfPart_18 0 rfl rfl ?_
    refine g_iconst C dX2_isLastOfPart_19 (v := 4) rfl ?_
    refine g_isub C dX2_isLastOfPart_20 ?_
    refine g_iconst C dX2_isLastOfPart_21 (v := 5) rfl ?_
    refine g_irem C dX2_isLastOfPart_22 (by decide) ?_
    refine g_iconst C dX2_isLastOfPart_23 (v := 4) rfl ?_
    refine g_icmp_ne C dX2_isLastOfPart_24 (tgt := 31) (by decide) (fun c24 => ?_) (fun c24 => ?_)
    · have hw := hw.1 c24
      refine g_iconst C dX2_isLastOfPart_31 (v := 0) rfl ?_
      exact g_zret C dX2_isLastOfPart_32 gB0.1 (Nat.le_of_ble_eq_true rfl) (Nat.le_of_ble_eq_true rfl) ⟨_, rfl, rfl, hw⟩
    · have hw := hw.2 c24
      refine g_iconst C dX2_isLastOfPart_27 (v := 1) rfl ?_
      refine g_goto C dX2_isLastOfPart_28 (tgt := 32) (by decide) ?_
      exact g_zret C dX2_isLastOfPart_32 gB1.1 (Nat.le_of_ble_eq_true rfl) (Nat.le_of_ble_eq_true rfl) ⟨_, rfl, rfl, hw⟩
  · have hw := hw.2 c2
    refine g_iload_n C dX2_isLastOfPart_5 0 rfl rfl ?_
    refine g_iconst C dX2_isLastOfPart_6 (v := 3) rfl ?_
    refine g_icmp_ne C dX2_isLastOfPart_7 (tgt := 14) (by decide) (fun c7 => ?_) (fun c7 => ?_)
    · have hw := hw.1 c7
      refine g_iconst C dX2_isLastOfPart_14 (v := 0) rfl ?_
      refine g_goto C dX2_isLastOfPart_15 (tgt := 32) (by decide) ?_
      exact g_zret C dX2_isLastOfPart_32 gB0.1 (Nat.le_of_ble_eq_true rfl) (Nat.le_of_ble_eq_true rfl) ⟨_, rfl, rfl, hw⟩
    · have hw := hw.2 c7
      refine g_iconst C dX2_isLastOfPart_10 (v := 1) rfl ?_
      refine g_goto C dX2_isLastOfPart_11 (tgt := 32) (by decide) ?_
      exact g_zret C dX2_isLastOfPart_32 gB1.1 (Nat.le_of_ble_eq_true rfl) (Nat.le_of_ble_eq_true rfl) ⟨_, rfl, rfl, hw⟩
theorem gc_X2_isLastOfPart : ∀ rm : Room, rmX2_isLastOfPart.frames + 1 ≤ rm.frames → 8 + (1 + 11) + rmX2_isLastOfPart.locals ≤ rm.locals → gCall yX2_isLastOfPart 1 1 rmX2_isLastOfPart rm := fun rm a b => ⟨Or.inl ⟨_, _, tw911⟩, tw7, ⟨by decide, by decide⟩, by decide, a, b⟩
abbrev rmX2_separatorAfter : Room := { frames := 1, cells := 0, slots := 0, locals := 20 }
def wp_X2_separatorAfter (p1 : Int32) (M : MEM) (Q : Int32 → Prop) : Prop := wp_X2_isLastOfPart p1 M (fun r_1 => (r_1 = 0 → ((4 ≤ p1 → (Q 44)) ∧ (¬ 4 ≤ p1 → (Q 47)))) ∧ (¬ r_1 = 0 → (Q 59)))
set_option maxRecDepth 100000 in
set_option maxHeartbeats 4000000 in
theorem met_X2_separatorAfter {l : Launch} (hl : l.stackTraces = false) {E : MK} {p1 : Int32} {M : MEM} {Q : Int32 → Prop} (hw : wp_X2_separatorAfter p1 M Q) : gMet l E yX2_separatorAfter rmX2_separatorAfter [.int p1] M (qIp M Q) gNo := by
  refine g_met hl (cc := cX2_separatorAfter) (maxL := 1) (ret := (some .char)) (hh := []) (loc := [(0, .int p1)]) (by decide +kernel) (Or.inl ⟨tw914, rfl⟩) (Nat.le_of_ble_eq_true rfl) rfl (fun K hK C => ?_)
  have C : GC K E cX2_separatorAfter RX2 1 (some .char) [] rmX2_separatorAfter := C
  refine g_iload_n C dX2_separatorAfter_0 0 rfl rfl ?_
  refine g_cS C dX2_separatorAfter_1 (met_X2_isLastOfPart C.st hw) (gc_X2_isLastOfPart _ (Nat.le_of_ble_eq_true rfl) (Nat.le_of_ble_eq_true rfl)) (Or.inl tw909) tw910 rfl (Nat.le_of_ble_eq_true rfl) (c2 := 0) (s2 := 0) rfl rfl (Nat.le_of_ble_eq_true rfl) (Nat.le_of_ble_eq_true rfl) rfl (kIp (fun r_1 hw => ?_)) tNo
  refine g_if_eq C dX2_separatorAfter_4 (tgt := 10) (by decide) (fun c4 => ?_) (fun c4 => ?_)
  · have hw := hw.1 c4
    refine g_iload_n C dX2_separatorAfter_10 0 rfl rfl ?_
    refine g_iconst C dX2_separatorAfter_11 (v := 4) rfl ?_
    refine g_icmp_ge C dX2_separatorAfter_12 (tgt := 20) (by decide) (fun c12 => ?_) (fun c12 => ?_)
    · have hw := hw.1 c12
      refine g_bipush C dX2_separatorAfter_20 (v := 44) rfl ?_
      exact g_zret C dX2_separatorAfter_22 rfl (Nat.le_of_ble_eq_true rfl) (Nat.le_of_ble_eq_true rfl) ⟨_, rfl, rfl, hw⟩
    · have hw := hw.2 c12
      refine g_bipush C dX2_separatorAfter_15 (v := 47) rfl ?_
      refine g_goto C dX2_separatorAfter_17 (tgt := 22) (by decide) ?_
      exact g_zret C dX2_separatorAfter_22 rfl (Nat.le_of_ble_eq_true rfl) (Nat.le_of_ble_eq_true rfl) ⟨_, rfl, rfl, hw⟩
  · have hw := hw.2 c4
    refine g_bipush C dX2_separatorAfter_7 (v := 59) rfl ?_
    exact g_zret C dX2_separatorAfter_9 rfl (Nat.le_of_ble_eq_true rfl) (Nat.le_of_ble_eq_true rfl) ⟨_, rfl, rfl, hw⟩
theorem gc_X2_separatorAfter : ∀ rm : Room, rmX2_separatorAfter.frames + 1 ≤ rm.frames → 8 + (1 + 11) + rmX2_separatorAfter.locals ≤ rm.locals → gCall yX2_separatorAfter 1 1 rmX2_separatorAfter rm := fun rm a b => ⟨Or.inl ⟨_, _, tw914⟩, tw7, ⟨by decide, by decide⟩, by decide, a, b⟩
abbrev rmX5_isWithin : Room := { frames := 0, cells := 0, slots := 0, locals := 0 }
def wp_X5_isWithin (p1 : Int64) (p2 : Int64) (p3 : Int64) (M : MEM) (Q : Int32 → Prop) : Prop := (p1 < p2 → (Q 0)) ∧ (¬ p1 < p2 → ((p3 < p1 → (Q 0)) ∧ (¬ p3 < p1 → (Q 1))))
set_option maxRecDepth 100000 in
set_option maxHeartbeats 4000000 in
theorem met_X5_isWithin {l : Launch} (hl : l.stackTraces = false) {E : MK} {p1 : Int64} {p2 : Int64} {p3 : Int64} {M : MEM} {Q : Int32 → Prop} (hw : wp_X5_isWithin p1 p2 p3 M Q) : gMet l E yX5_isWithin rmX5_isWithin [.long p1, .long p2, .long p3] M (qIp M Q) gNo := by
  refine g_met hl (cc := cX5_isWithin) (maxL := 6) (ret := (some .boolean)) (hh := []) (loc := [(0, .long p1), (2, .long p2), (4, .long p3)]) (by decide +kernel) (Or.inl ⟨tw338, rfl⟩) (Nat.le_of_ble_eq_true rfl) rfl (fun K hK C => ?_)
  have C : GC K E cX5_isWithin RX5 6 (some .boolean) [] rmX5_isWithin := C
  refine g_lload_n C dX5_isWithin_0 0 rfl rfl ?_
  refine g_lload_n C dX5_isWithin_1 1 rfl rfl ?_
  refine g_lc_lt C dX5_isWithin_2 dX5_isWithin_3 (tgt := 17) (by decide) (fun c3 => ?_) (fun c3 => ?_)
  · have hw := hw.1 c3
    refine g_iconst C dX5_isWithin_17 (v := 0) rfl ?_
    exact g_zret C dX5_isWithin_18 gB0.1 (Nat.le_of_ble_eq_true rfl) (Nat.le_of_ble_eq_true rfl) ⟨_, rfl, rfl, hw⟩
  · have hw := hw.2 c3
    refine g_lload_n C dX5_isWithin_6 0 rfl rfl ?_
    refine g_lload C (j := 0) dX5_isWithin_7 2 rfl ?_
    refine g_lc_gt C dX5_isWithin_9 dX5_isWithin_10 (tgt := 17) (by decide) (fun c10 => ?_) (fun c10 => ?_)
    · have hw := hw.1 c10
      refine g_iconst C dX5_isWithin_17 (v := 0) rfl ?_
      exact g_zret C dX5_isWithin_18 gB0.1 (Nat.le_of_ble_eq_true rfl) (Nat.le_of_ble_eq_true rfl) ⟨_, rfl, rfl, hw⟩
    · have hw := hw.2 c10
      refine g_iconst C dX5_isWithin_13 (v := 1) rfl ?_
      refine g_goto C dX5_isWithin_14 (tgt := 18) (by decide) ?_
      exact g_zret C dX5_isWithin_18 gB1.1 (Nat.le_of_ble_eq_true rfl) (Nat.le_of_ble_eq_true rfl) ⟨_, rfl, rfl, hw⟩
theorem gc_X5_isWithin : ∀ rm : Room, rmX5_isWithin.frames + 1 ≤ rm.frames → 8 + (6 + 11) + rmX5_isWithin.locals ≤ rm.locals → gCall yX5_isWithin 6 3 rmX5_isWithin rm := fun rm a b => ⟨Or.inl ⟨_, _, tw338⟩, tw1, ⟨by decide, by decide⟩, by decide, a, b⟩
abbrev rmX2_isDigit : Room := { frames := 1, cells := 0, slots := 0, locals := 25 }
def wp_X2_isDigit (p1 : Nat) (p2 : Int32) (M : MEM) (Q : Int32 → Prop) : Prop := KD p1 = (11, 0) ∧ wp_X1_length p1 M (fun r_1 => (r_1 ≤ p2 → (Q 0)) ∧ (¬ r_1 ≤ p2 → (wp_X1_letterAt p1 p2 M (fun r_4 => wp_X5_isWithin r_4.toInt64 48 57 M (fun r_6 => (r_6 = 0 → (Q 0)) ∧ (¬ r_6 = 0 → (Q 1)))))))
set_option maxRecDepth 100000 in
set_option maxHeartbeats 4000000 in
theorem met_X2_isDigit {l : Launch} (hl : l.stackTraces = false) {E : MK} {p1 : Nat} {p2 : Int32} {M : MEM} {Q : Int32 → Prop} (hw : wp_X2_isDigit p1 p2 M Q) : gMet l E yX2_isDigit rmX2_isDigit [gR E p1, .int p2] M (qIp M Q) gNo := by
  refine g_met hl (cc := cX2_isDigit) (maxL := 2) (ret := (some .boolean)) (hh := []) (loc := [(0, gR E p1), (1, .int p2)]) (by decide +kernel) (Or.inl ⟨tw904, rfl⟩) (Nat.le_of_ble_eq_true rfl) rfl (fun K hK C => ?_)
  have C : GC K E cX2_isDigit RX2 2 (some .boolean) [] rmX2_isDigit := C
  refine g_iload_n C dX2_isDigit_0 1 rfl rfl ?_
  refine g_aload_n C dX2_isDigit_1 0 rfl rfl ?_
  obtain ⟨hk_3, hw⟩ := hw
  refine g_cV C dX2_isDigit_2 (met_X1_length C.st hw) (gc_X1_length _ (Nat.le_of_ble_eq_true rfl) (Nat.le_of_ble_eq_true rfl)) tw897 tw879 tw880 (ci := 1) rfl (by decide) hk_3 rfl (Nat.le_of_ble_eq_true rfl) (c2 := 0) (s2 := 0) rfl rfl (Nat.le_of_ble_eq_true rfl) (Nat.le_of_ble_eq_true rfl) rfl (kIp (fun r_1 hw => ?_)) tNo
  refine g_icmp_ge C dX2_isDigit_5 (tgt := 30) (by decide) (fun c5 => ?_) (fun c5 => ?_)
  · have hw := hw.1 c5
    refine g_iconst C dX2_isDigit_30 (v := 0) rfl ?_
    exact g_zret C dX2_isDigit_31 gB0.1 (Nat.le_of_ble_eq_true rfl) (Nat.le_of_ble_eq_true rfl) ⟨_, rfl, rfl, hw⟩
  · have hw := hw.2 c5
    refine g_aload_n C dX2_isDigit_8 0 rfl rfl ?_
    refine g_iload_n C dX2_isDigit_9 1 rfl rfl ?_
    refine g_cV C dX2_isDigit_10 (met_X1_letterAt C.st hw) (gc_X1_letterAt _ (Nat.le_of_ble_eq_true rfl) (Nat.le_of_ble_eq_true rfl)) tw898 tw899 tw900 (ci := 1) rfl (by decide) hk_3 rfl (Nat.le_of_ble_eq_true rfl) (c2 := 0) (s2 := 0) rfl rfl (Nat.le_of_ble_eq_true rfl) (Nat.le_of_ble_eq_true rfl) rfl (kIp (fun r_4 hw => ?_)) tNo
    refine g_i2l C dX2_isDigit_13 ?_
    refine g_ldc2 C dX2_isDigit_14 tw905 ?_
    refine g_ldc2 C dX2_isDigit_17 tw906 ?_
    refine g_cS C dX2_isDigit_20 (met_X5_isWithin C.st hw) (gc_X5_isWithin _ (Nat.le_of_ble_eq_true rfl) (Nat.le_of_ble_eq_true rfl)) (Or.inr ⟨_, List.mem_of_getElem? (i := 8) rfl⟩) tw337 rfl (Nat.le_of_ble_eq_true rfl) (c2 := 0) (s2 := 0) rfl rfl (Nat.le_of_ble_eq_true rfl) (Nat.le_of_ble_eq_true rfl) rfl (kIp (fun r_6 hw => ?_)) tNo
    refine g_if_eq C dX2_isDigit_23 (tgt := 30) (by decide) (fun c23 => ?_) (fun c23 => ?_)
    · have hw := hw.1 c23
      refine g_iconst C dX2_isDigit_30 (v := 0) rfl ?_
      exact g_zret C dX2_isDigit_31 gB0.1 (Nat.le_of_ble_eq_true rfl) (Nat.le_of_ble_eq_true rfl) ⟨_, rfl, rfl, hw⟩
    · have hw := hw.2 c23
      refine g_iconst C dX2_isDigit_26 (v := 1) rfl ?_
      refine g_goto C dX2_isDigit_27 (tgt := 31) (by decide) ?_
      exact g_zret C dX2_isDigit_31 gB1.1 (Nat.le_of_ble_eq_true rfl) (Nat.le_of_ble_eq_true rfl) ⟨_, rfl, rfl, hw⟩
theorem gc_X2_isDigit : ∀ rm : Room, rmX2_isDigit.frames + 1 ≤ rm.frames → 8 + (2 + 11) + rmX2_isDigit.locals ≤ rm.locals → gCall yX2_isDigit 2 2 rmX2_isDigit rm := fun rm a b => ⟨Or.inl ⟨_, _, tw904⟩, tw7, ⟨by decide, by decide⟩, by decide, a, b⟩
abbrev rmX2_takeNumber : Room := { frames := 2, cells := 0, slots := 0, locals := 46 }
def wp_X2_takeNumber_J139 (o : Nat) (Q : Int32 → MEM → Prop) (M_8 : MEM) (s_10 : Int64) : Prop := (vp_in (mI M_8 o 1) 60 ∧ (∀ M_12 : MEM, M_12 = uL M_8 (RF o 0) (mI M_8 o 1).toNatClampNeg s_10 → ((∀ M_13 : MEM, M_13 = uI M_12 o 1 ((mI M_12 o 1) + 1) → (Q 1 M_13)))))
def wp_X2_takeNumber_J102 (o : Nat) (Q : Int32 → MEM → Prop) (s_4 : Int32) (x3_6 : Int64) (x5_7 : Int32) (M_8 : MEM) : Prop := (x5_7 = 0 → (Q 0 M_8)) ∧ (¬ x5_7 = 0 → (KD (RF o 0) = (2, 60) ∧ (((mI M_8 o 1) < 60 → ((s_4 = 0 → (wp_X2_takeNumber_J139 o Q M_8 x3_6)) ∧ (¬ s_4 = 0 → (wp_X2_takeNumber_J139 o Q M_8 (-x3_6))))) ∧ (¬ (mI M_8 o 1) < 60 → (Q 0 M_8)))))
def wp_X2_takeNumber_L49 (o : Nat) (p1 : Nat) (Q : Int32 → MEM → Prop) (s_4 : Int32) : Nat → Int64 → Int32 → MEM → Prop
  | 0, _, _, _ => False
  | n49 + 1, x3_6, x5_7, M_8 => (10 ≤ x5_7 → (wp_X2_takeNumber_J102 o Q s_4 x3_6 x5_7 M_8)) ∧ (¬ 10 ≤ x5_7 → (wp_X2_isDigit p1 (mI M_8 o 2) M_8 (fun r_14 => (r_14 = 0 → (wp_X2_takeNumber_J102 o Q s_4 x3_6 x5_7 M_8)) ∧ (¬ r_14 = 0 → (wp_X1_letterAt p1 (mI M_8 o 2) M_8 (fun r_16 => ∀ x3_18 : Int64, x3_18 = (x3_6 * 10) + ((r_16 - 48 : Int32).toInt64) → ((∀ M_19 : MEM, M_19 = uI M_8 o 2 ((mI M_8 o 2) + 1) → (∀ x5_20 : Int32, x5_20 = x5_7 + 1 → ((wp_X2_takeNumber_L49 o p1 Q s_4 n49) x3_18 x5_20 M_19))))))))))
def wp_X2_takeNumber_J44 (o : Nat) (p1 : Nat) (Q : Int32 → MEM → Prop) (s_4 : Int32) (M_5 : MEM) : Prop := ∃ m49 : Nat, wp_X2_takeNumber_L49 o p1 Q s_4 m49 0 0 M_5
def wp_X2_takeNumber_J29 (o : Nat) (p1 : Nat) (M : MEM) (Q : Int32 → MEM → Prop) (s_4 : Int32) : Prop := (s_4 = 0 → (wp_X2_takeNumber_J44 o p1 Q s_4 M)) ∧ (¬ s_4 = 0 → ((∀ M_21 : MEM, M_21 = uI M o 2 ((mI M o 2) + 1) → (wp_X2_takeNumber_J44 o p1 Q s_4 M_21))))
def wp_X2_takeNumber_J28 (o : Nat) (p1 : Nat) (M : MEM) (Q : Int32 → MEM → Prop) : Prop := wp_X2_takeNumber_J29 o p1 M Q 0
def wp_X2_takeNumber (o : Nat) (p1 : Nat) (M : MEM) (Q : Int32 → MEM → Prop) : Prop := KD o = (12, 0) ∧ (KD p1 = (11, 0) ∧ wp_X1_length p1 M (fun r_1 => (r_1 ≤ (mI M o 2) → (wp_X2_takeNumber_J28 o p1 M Q)) ∧ (¬ r_1 ≤ (mI M o 2) → (wp_X1_letterAt p1 (mI M o 2) M (fun r_22 => (¬ r_22 = 45 → (wp_X2_takeNumber_J28 o p1 M Q)) ∧ (r_22 = 45 → (wp_X2_takeNumber_J29 o p1 M Q 1)))))))
set_option maxRecDepth 100000 in
set_option maxHeartbeats 4000000 in
theorem met_X2_takeNumber {l : Launch} (hl : l.stackTraces = false) {E : MK} {o : Nat} {p1 : Nat} {M : MEM} {Q : Int32 → MEM → Prop} (hw : wp_X2_takeNumber o p1 M Q) : gMet l E yX2_takeNumber rmX2_takeNumber [gR E o, gR E p1] M (qI Q) gNo := by
  obtain ⟨hk0, hw⟩ := hw
  refine g_met hl (cc := cX2_takeNumber) (maxL := 6) (ret := (some .boolean)) (hh := []) (loc := [(0, gR E o), (1, gR E p1)]) (by decide +kernel) (Or.inl ⟨tw896, rfl⟩) (Nat.le_of_ble_eq_true rfl) rfl (fun K hK C => ?_)
  have C : GC K E cX2_takeNumber RX2 6 (some .boolean) [] rmX2_takeNumber := C
  refine g_aload_n C dX2_takeNumber_0 0 rfl rfl ?_
  refine gf_RX2_19 C hk0 dX2_takeNumber_1 ?_
  refine g_aload_n C dX2_takeNumber_4 1 rfl rfl ?_
  obtain ⟨hk_3, hw⟩ := hw
  refine g_cV C dX2_takeNumber_5 (met_X1_length C.st hw) (gc_X1_length _ (Nat.le_of_ble_eq_true rfl) (Nat.le_of_ble_eq_true rfl)) tw897 tw879 tw880 (ci := 1) rfl (by decide) hk_3 rfl (Nat.le_of_ble_eq_true rfl) (c2 := 0) (s2 := 0) rfl rfl (Nat.le_of_ble_eq_true rfl) (Nat.le_of_ble_eq_true rfl) rfl (kIp (fun r_1 hw => ?_)) tNo
  have hJ29 : ∀ (s_4 : Int32), wp_X2_takeNumber_J29 o p1 M Q s_4 → GX K E 6 M [(0, gR E o), (1, gR E p1)] [.int s_4] 29 0 0 (gEnd K E (qI Q) gNo rmX2_takeNumber.cells rmX2_takeNumber.slots) := by
    intro s_4 hw
    refine g_istore_n C dX2_takeNumber_29 rfl (Nat.le_of_ble_eq_true rfl) (loc' := [(2, .int s_4), (0, gR E o), (1, gR E p1)]) rfl ?_
    refine g_iload_n C dX2_takeNumber_30 0 rfl rfl ?_
    have hJ44 : ∀ (M_5 : MEM), wp_X2_takeNumber_J44 o p1 Q s_4 M_5 → GX K E 6 M_5 [(0, gR E o), (1, gR E p1), (2, .int s_4)] [] 44 0 0 (gEnd K E (qI Q) gNo rmX2_takeNumber.cells rmX2_takeNumber.slots) := by
      intro M_5 hw
      refine g_lconst C dX2_takeNumber_44 (v := 0) rfl ?_
      refine g_lstore_n C dX2_takeNumber_45 rfl (Nat.le_of_ble_eq_true rfl) (loc' := [(3, .long 0), (0, gR E o), (1, gR E p1), (2, .int s_4)]) rfl ?_
      refine g_iconst C dX2_takeNumber_46 (v := 0) rfl ?_
      refine g_istore C dX2_takeNumber_47 (Nat.le_of_ble_eq_true rfl) (loc' := [(5, .int 0), (3, .long 0), (0, gR E o), (1, gR E p1), (2, .int s_4)]) rfl ?_
      obtain ⟨m49, hw⟩ := hw
      have hL49 : ∀ (n49 : Nat) (x3_6 : Int64) (x5_7 : Int32) (M_8 : MEM), wp_X2_takeNumber_L49 o p1 Q s_4 n49 x3_6 x5_7 M_8 → GX K E 6 M_8 [(0, gR E o), (1, gR E p1), (2, .int s_4), (3, .long x3_6), (5, .int x5_7)] [] 49 0 0 (gEnd K E (qI Q) gNo rmX2_takeNumber.cells rmX2_takeNumber.slots) := by
        intro n49
        induction n49 with
        | zero => intro _ _ _ hw; exact False.elim hw
        | succ n49 ih49 =>
          intro x3_6 x5_7 M_8 hw
          refine g_iload C (j := 0) dX2_takeNumber_49 4 rfl ?_
          refine g_bipush C dX2_takeNumber_51 (v := 10) rfl ?_
          have hJ102 : wp_X2_takeNumber_J102 o Q s_4 x3_6 x5_7 M_8 → GX K E 6 M_8 [(0, gR E o), (2, .int s_4), (3, .long x3_6), (5, .int x5_7)] [] 102 0 0 (gEnd K E (qI Q) gNo rmX2_takeNumber.cells rmX2_takeNumber.slots) := by
            intro hw
            refine g_iload C (j := 0) dX2_takeNumber_102 3 rfl ?_
            refine g_if_eq C dX2_takeNumber_104 (tgt := 119) (by decide) (fun c104 => ?_) (fun c104 => ?_)
            · have hw := hw.1 c104
              refine g_iconst C dX2_takeNumber_119 (v := 0) rfl ?_
              exact g_zret C dX2_takeNumber_120 gB0.1 (Nat.le_of_ble_eq_true rfl) (Nat.le_of_ble_eq_true rfl) ⟨_, rfl, hw⟩
            · have hw := hw.2 c104
              refine g_aload_n C dX2_takeNumber_107 0 rfl rfl ?_
              refine gf_RX2_15 C hk0 dX2_takeNumber_108 ?_
              refine g_aload_n C dX2_takeNumber_111 0 rfl rfl ?_
              refine gf_RX2_9 C hk0 dX2_takeNumber_112 ?_
              obtain ⟨hk_9, hw⟩ := hw
              refine g_alen C hk_9 (by decide) (v := 60) rfl dX2_takeNumber_115 ?_
              refine g_icmp_lt C dX2_takeNumber_116 (tgt := 121) (by decide) (fun c116 => ?_) (fun c116 => ?_)
              · have hw := hw.1 c116
                refine g_aload_n C dX2_takeNumber_121 0 rfl rfl ?_
                refine gf_RX2_9 C hk0 dX2_takeNumber_122 ?_
                refine g_aload_n C dX2_takeNumber_125 0 rfl rfl ?_
                refine gf_RX2_15 C hk0 dX2_takeNumber_126 ?_
                refine g_iload_n C dX2_takeNumber_129 1 rfl rfl ?_
                have hJ139 : ∀ (s_10 : Int64), wp_X2_takeNumber_J139 o Q M_8 s_10 → GX K E 6 M_8 [(0, gR E o)] [.long s_10, .int (mI M_8 o 1), gR E (RF o 0)] 139 0 0 (gEnd K E (qI Q) gNo rmX2_takeNumber.cells rmX2_takeNumber.slots) := by
                  intro s_10 hw
                  obtain ⟨hi_11, hw⟩ := hw
                  refine g_lastore C hk_9 hi_11 dX2_takeNumber_139 ?_
                  refine g_nmM (fun M_12 eM_12 => ?_)
                  have hw := hw M_12 eM_12
                  refine g_aload_n C dX2_takeNumber_140 0 rfl rfl ?_
                  refine g_dup C dX2_takeNumber_141 rfl ?_
                  refine gf_RX2_15 C hk0 dX2_takeNumber_142 ?_
                  refine g_iconst C dX2_takeNumber_145 (v := 1) rfl ?_
                  refine g_iadd C dX2_takeNumber_146 ?_
                  refine pf_RX2_15 C hk0 dX2_takeNumber_147 ?_
                  refine g_nmM (fun M_13 eM_13 => ?_)
                  have hw := hw M_13 eM_13
                  refine g_iconst C dX2_takeNumber_150 (v := 1) rfl ?_
                  exact g_zret C dX2_takeNumber_151 gB1.1 (Nat.le_of_ble_eq_true rfl) (Nat.le_of_ble_eq_true rfl) ⟨_, rfl, hw⟩
                refine g_if_eq C dX2_takeNumber_130 (tgt := 138) (by decide) (fun c130 => ?_) (fun c130 => ?_)
                · have hw := hw.1 c130
                  refine g_lload_n C dX2_takeNumber_138 2 rfl rfl ?_
                  refine g_sub [0] rfl ?_
                  exact hJ139 _ hw
                · have hw := hw.2 c130
                  refine g_lload_n C dX2_takeNumber_133 2 rfl rfl ?_
                  refine g_lneg C dX2_takeNumber_134 ?_
                  refine g_goto C dX2_takeNumber_135 (tgt := 139) (by decide) ?_
                  refine g_sub [0] rfl ?_
                  exact hJ139 _ hw
              · have hw := hw.2 c116
                refine g_iconst C dX2_takeNumber_119 (v := 0) rfl ?_
                exact g_zret C dX2_takeNumber_120 gB0.1 (Nat.le_of_ble_eq_true rfl) (Nat.le_of_ble_eq_true rfl) ⟨_, rfl, hw⟩
          refine g_icmp_ge C dX2_takeNumber_53 (tgt := 102) (by decide) (fun c53 => ?_) (fun c53 => ?_)
          · have hw := hw.1 c53
            refine g_sub [0, 2, 3, 4] rfl ?_
            exact hJ102 hw
          · have hw := hw.2 c53
            refine g_aload_n C dX2_takeNumber_56 1 rfl rfl ?_
            refine g_aload_n C dX2_takeNumber_57 0 rfl rfl ?_
            refine gf_RX2_19 C hk0 dX2_takeNumber_58 ?_
            refine g_cS C dX2_takeNumber_61 (met_X2_isDigit C.st hw) (gc_X2_isDigit _ (Nat.le_of_ble_eq_true rfl) (Nat.le_of_ble_eq_true rfl)) (Or.inl tw902) tw903 rfl (Nat.le_of_ble_eq_true rfl) (c2 := 0) (s2 := 0) rfl rfl (Nat.le_of_ble_eq_true rfl) (Nat.le_of_ble_eq_true rfl) rfl (kIp (fun r_14 hw => ?_)) tNo
            refine g_if_eq C dX2_takeNumber_64 (tgt := 102) (by decide) (fun c64 => ?_) (fun c64 => ?_)
            · have hw := hw.1 c64
              refine g_sub [0, 2, 3, 4] rfl ?_
              exact hJ102 hw
            · have hw := hw.2 c64
              refine g_lload_n C dX2_takeNumber_67 3 rfl rfl ?_
              refine g_ldc2 C dX2_takeNumber_68 tw908 ?_
              refine g_lmul C dX2_takeNumber_71 ?_
              refine g_aload_n C dX2_takeNumber_72 1 rfl rfl ?_
              refine g_aload_n C dX2_takeNumber_73 0 rfl rfl ?_
              refine gf_RX2_19 C hk0 dX2_takeNumber_74 ?_
              refine g_cV C dX2_takeNumber_77 (met_X1_letterAt C.st hw) (gc_X1_letterAt _ (Nat.le_of_ble_eq_true rfl) (Nat.le_of_ble_eq_true rfl)) tw898 tw899 tw900 (ci := 1) rfl (by decide) hk_3 rfl (Nat.le_of_ble_eq_true rfl) (c2 := 0) (s2 := 0) rfl rfl (Nat.le_of_ble_eq_true rfl) (Nat.le_of_ble_eq_true rfl) rfl (kIp (fun r_16 hw => ?_)) tNo
              refine g_bipush C dX2_takeNumber_80 (v := 48) rfl ?_
              refine g_isub C dX2_takeNumber_82 ?_
              refine g_i2l C dX2_takeNumber_83 ?_
              refine g_ladd C dX2_takeNumber_84 ?_
              refine g_nmL (fun x3_18 ex3_18 => ?_)
              have hw := hw x3_18 ex3_18
              refine g_lstore_n C dX2_takeNumber_85 rfl (Nat.le_of_ble_eq_true rfl) (loc' := [(3, .long x3_18), (0, gR E o), (1, gR E p1), (2, .int s_4), (5, .int x5_7)]) rfl ?_
              refine g_aload_n C dX2_takeNumber_86 1 rfl rfl ?_
              refine g_dup C dX2_takeNumber_87 rfl ?_
              refine gf_RX2_19 C hk0 dX2_takeNumber_88 ?_
              refine g_iconst C dX2_takeNumber_91 (v := 1) rfl ?_
              refine g_iadd C dX2_takeNumber_92 ?_
              refine pf_RX2_19 C hk0 dX2_takeNumber_93 ?_
              refine g_nmM (fun M_19 eM_19 => ?_)
              have hw := hw M_19 eM_19
              obtain ⟨x5_20, ex5_20⟩ : ∃ y : Int32, y = x5_7 + 1 := ⟨_, rfl⟩
              have hw := hw x5_20 ex5_20
              refine g_iinc C (j := 0) dX2_takeNumber_96 4 rfl (v := x5_20) (by rw [ex5_20]; rfl) (Nat.le_of_ble_eq_true rfl) (loc' := [(5, .int x5_20), (3, .long x3_18), (0, gR E o), (1, gR E p1), (2, .int s_4)]) rfl ?_
              refine g_goto C dX2_takeNumber_99 (tgt := 49) (by decide) ?_
              refine g_sub [2, 3, 4, 1, 0] rfl ?_
              exact ih49 _ _ _ hw
      refine g_sub [2, 3, 4, 1, 0] rfl ?_
      exact hL49 m49 _ _ _ hw
    refine g_if_eq C dX2_takeNumber_31 (tgt := 44) (by decide) (fun c31 => ?_) (fun c31 => ?_)
    · have hw := hw.1 c31
      refine g_sub [1, 2, 0] rfl ?_
      exact hJ44 _ hw
    · have hw := hw.2 c31
      refine g_aload_n C dX2_takeNumber_34 1 rfl rfl ?_
      refine g_dup C dX2_takeNumber_35 rfl ?_
      refine gf_RX2_19 C hk0 dX2_takeNumber_36 ?_
      refine g_iconst C dX2_takeNumber_39 (v := 1) rfl ?_
      refine g_iadd C dX2_takeNumber_40 ?_
      refine pf_RX2_19 C hk0 dX2_takeNumber_41 ?_
      refine g_nmM (fun M_21 eM_21 => ?_)
      have hw := hw M_21 eM_21
      refine g_sub [1, 2, 0] rfl ?_
      exact hJ44 _ hw
  have hJ28 : wp_X2_takeNumber_J28 o p1 M Q → GX K E 6 M [(0, gR E o), (1, gR E p1)] [] 28 0 0 (gEnd K E (qI Q) gNo rmX2_takeNumber.cells rmX2_takeNumber.slots) := by
    intro hw
    refine g_iconst C dX2_takeNumber_28 (v := 0) rfl ?_
    exact hJ29 _ hw
  refine g_icmp_ge C dX2_takeNumber_8 (tgt := 28) (by decide) (fun c8 => ?_) (fun c8 => ?_)
  · have hw := hw.1 c8
    exact hJ28 hw
  · have hw := hw.2 c8
    refine g_aload_n C dX2_takeNumber_11 1 rfl rfl ?_
    refine g_aload_n C dX2_takeNumber_12 0 rfl rfl ?_
    refine gf_RX2_19 C hk0 dX2_takeNumber_13 ?_
    refine g_cV C dX2_takeNumber_16 (met_X1_letterAt C.st hw) (gc_X1_letterAt _ (Nat.le_of_ble_eq_true rfl) (Nat.le_of_ble_eq_true rfl)) tw898 tw899 tw900 (ci := 1) rfl (by decide) hk_3 rfl (Nat.le_of_ble_eq_true rfl) (c2 := 0) (s2 := 0) rfl rfl (Nat.le_of_ble_eq_true rfl) (Nat.le_of_ble_eq_true rfl) rfl (kIp (fun r_22 hw => ?_)) tNo
    refine g_bipush C dX2_takeNumber_19 (v := 45) rfl ?_
    refine g_icmp_ne C dX2_takeNumber_21 (tgt := 28) (by decide) (fun c21 => ?_) (fun c21 => ?_)
    · have hw := hw.1 c21
      exact hJ28 hw
    · have hw := hw.2 c21
      refine g_iconst C dX2_takeNumber_24 (v := 1) rfl ?_
      refine g_goto C dX2_takeNumber_25 (tgt := 29) (by decide) ?_
      exact hJ29 _ hw
theorem gc_X2_takeNumber : ∀ rm : Room, rmX2_takeNumber.frames + 1 ≤ rm.frames → 8 + (6 + 11) + rmX2_takeNumber.locals ≤ rm.locals → gCall yX2_takeNumber 6 1 rmX2_takeNumber rm := fun rm a b => ⟨Or.inl ⟨_, _, tw896⟩, tw7, ⟨by decide, by decide⟩, by decide, a, b⟩
abbrev rmX2_findError : Room := { frames := 3, cells := 0, slots := 0, locals := 71 }
def wp_X2_findError_L12 (o : Nat) (p1 : Nat) (Q : Int32 → MEM → Prop) : Nat → Int32 → MEM → Prop
  | 0, _, _ => False
  | n12 + 1, x2_3, M_4 => (120 < x2_3 → (Q (mI M_4 o 2) M_4)) ∧ (¬ 120 < x2_3 → (wp_X2_takeNumber o p1 M_4 (fun r_5 M_6 => (¬ r_5 = 0 → (wp_X2_isLastOfPart ((mI M_6 o 1) - 1) M_6 (fun r_7 => KD p1 = (11, 0) ∧ wp_X1_length p1 M_6 (fun r_9 => ((mI M_6 o 2) < r_9 → (wp_X1_letterAt p1 (mI M_6 o 2) M_6 (fun r_12 => wp_X2_separatorAfter ((mI M_6 o 1) - 1) M_6 (fun r_14 => (r_12 = r_14 → ((∀ M_16 : MEM, M_16 = uI M_6 o 2 ((mI M_6 o 2) + 1) → (∀ x2_17 : Int32, x2_17 = x2_3 + 1 → ((wp_X2_findError_L12 o p1 Q n12) x2_17 M_16))))) ∧ (¬ r_12 = r_14 → (Q (mI M_6 o 2) M_6)))))) ∧ (¬ (mI M_6 o 2) < r_9 → ((r_7 = 0 → (Q (mI M_6 o 2) M_6)) ∧ (¬ r_7 = 0 → (Q (-1) M_6)))))))) ∧ (r_5 = 0 → (Q (mI M_6 o 2) M_6)))))
def wp_X2_findError (o : Nat) (p1 : Nat) (M : MEM) (Q : Int32 → MEM → Prop) : Prop := KD o = (12, 0) ∧ ((∀ M_1 : MEM, M_1 = uI M o 1 0 → ((∀ M_2 : MEM, M_2 = uI M_1 o 2 0 → (∃ m12 : Nat, wp_X2_findError_L12 o p1 Q m12 0 M_2)))))
set_option maxRecDepth 100000 in
set_option maxHeartbeats 4000000 in
theorem met_X2_findError {l : Launch} (hl : l.stackTraces = false) {E : MK} {o : Nat} {p1 : Nat} {M : MEM} {Q : Int32 → MEM → Prop} (hw : wp_X2_findError o p1 M Q) : gMet l E yX2_findError rmX2_findError [gR E o, gR E p1] M (qI Q) gNo := by
  obtain ⟨hk0, hw⟩ := hw
  refine g_met hl (cc := cX2_findError) (maxL := 4) (ret := (some .int)) (hh := []) (loc := [(0, gR E o), (1, gR E p1)]) (by decide +kernel) (Or.inl ⟨tw892, rfl⟩) (Nat.le_of_ble_eq_true rfl) rfl (fun K hK C => ?_)
  have C : GC K E cX2_findError RX2 4 (some .int) [] rmX2_findError := C
  refine g_aload_n C dX2_findError_0 0 rfl rfl ?_
  refine g_iconst C dX2_findError_1 (v := 0) rfl ?_
  refine pf_RX2_15 C hk0 dX2_findError_2 ?_
  refine g_nmM (fun M_1 eM_1 => ?_)
  have hw := hw M_1 eM_1
  refine g_aload_n C dX2_findError_5 0 rfl rfl ?_
  refine g_iconst C dX2_findError_6 (v := 0) rfl ?_
  refine pf_RX2_19 C hk0 dX2_findError_7 ?_
  refine g_nmM (fun M_2 eM_2 => ?_)
  have hw := hw M_2 eM_2
  refine g_iconst C dX2_findError_10 (v := 0) rfl ?_
  refine g_istore_n C dX2_findError_11 rfl (Nat.le_of_ble_eq_true rfl) (loc' := [(2, .int 0), (0, gR E o), (1, gR E p1)]) rfl ?_
  obtain ⟨m12, hw⟩ := hw
  have hL12 : ∀ (n12 : Nat) (x2_3 : Int32) (M_4 : MEM), wp_X2_findError_L12 o p1 Q n12 x2_3 M_4 → GX K E 4 M_4 [(0, gR E o), (1, gR E p1), (2, .int x2_3)] [] 12 0 0 (gEnd K E (qI Q) gNo rmX2_findError.cells rmX2_findError.slots) := by
    intro n12
    induction n12 with
    | zero => intro _ _ hw; exact False.elim hw
    | succ n12 ih12 =>
      intro x2_3 M_4 hw
      refine g_iload_n C dX2_findError_12 2 rfl rfl ?_
      refine g_bipush C dX2_findError_13 (v := 120) rfl ?_
      refine g_icmp_gt C dX2_findError_15 (tgt := 106) (by decide) (fun c15 => ?_) (fun c15 => ?_)
      · have hw := hw.1 c15
        refine g_aload_n C dX2_findError_106 0 rfl rfl ?_
        refine gf_RX2_19 C hk0 dX2_findError_107 ?_
        exact g_iret C dX2_findError_110 (Nat.le_of_ble_eq_true rfl) (Nat.le_of_ble_eq_true rfl) ⟨_, rfl, hw⟩
      · have hw := hw.2 c15
        refine g_aload_n C dX2_findError_18 0 rfl rfl ?_
        refine g_aload_n C dX2_findError_19 1 rfl rfl ?_
        refine g_cV C dX2_findError_20 (met_X2_takeNumber C.st hw) (gc_X2_takeNumber _ (Nat.le_of_ble_eq_true rfl) (Nat.le_of_ble_eq_true rfl)) tw893 tw895 twp24 (ci := 2) rfl (by decide) hk0 rfl (Nat.le_of_ble_eq_true rfl) (c2 := 0) (s2 := 0) rfl rfl (Nat.le_of_ble_eq_true rfl) (Nat.le_of_ble_eq_true rfl) rfl (kI (fun r_5 M_6 hw => ?_)) tNo
        refine g_if_ne C dX2_findError_23 (tgt := 31) (by decide) (fun c23 => ?_) (fun c23 => ?_)
        · have hw := hw.1 c23
          refine g_aload_n C dX2_findError_31 0 rfl rfl ?_
          refine gf_RX2_15 C hk0 dX2_findError_32 ?_
          refine g_iconst C dX2_findError_35 (v := 1) rfl ?_
          refine g_isub C dX2_findError_36 ?_
          refine g_cS C dX2_findError_37 (met_X2_isLastOfPart C.st hw) (gc_X2_isLastOfPart _ (Nat.le_of_ble_eq_true rfl) (Nat.le_of_ble_eq_true rfl)) (Or.inl tw909) tw910 rfl (Nat.le_of_ble_eq_true rfl) (c2 := 0) (s2 := 0) rfl rfl (Nat.le_of_ble_eq_true rfl) (Nat.le_of_ble_eq_true rfl) rfl (kIp (fun r_7 hw => ?_)) tNo
          refine g_istore_n C dX2_findError_40 rfl (Nat.le_of_ble_eq_true rfl) (loc' := [(3, .int r_7), (0, gR E o), (1, gR E p1), (2, .int x2_3)]) rfl ?_
          refine g_aload_n C dX2_findError_41 1 rfl rfl ?_
          refine gf_RX2_19 C hk0 dX2_findError_42 ?_
          refine g_aload_n C dX2_findError_45 2 rfl rfl ?_
          obtain ⟨hk_11, hw⟩ := hw
          refine g_cV C dX2_findError_46 (met_X1_length C.st hw) (gc_X1_length _ (Nat.le_of_ble_eq_true rfl) (Nat.le_of_ble_eq_true rfl)) tw897 tw879 tw880 (ci := 1) rfl (by decide) hk_11 rfl (Nat.le_of_ble_eq_true rfl) (c2 := 0) (s2 := 0) rfl rfl (Nat.le_of_ble_eq_true rfl) (Nat.le_of_ble_eq_true rfl) rfl (kIp (fun r_9 hw => ?_)) tNo
          refine g_icmp_lt C dX2_findError_49 (tgt := 65) (by decide) (fun c49 => ?_) (fun c49 => ?_)
          · have hw := hw.1 c49
            refine g_aload_n C dX2_findError_65 2 rfl rfl ?_
            refine g_aload_n C dX2_findError_66 1 rfl rfl ?_
            refine gf_RX2_19 C hk0 dX2_findError_67 ?_
            refine g_cV C dX2_findError_70 (met_X1_letterAt C.st hw) (gc_X1_letterAt _ (Nat.le_of_ble_eq_true rfl) (Nat.le_of_ble_eq_true rfl)) tw898 tw899 tw900 (ci := 1) rfl (by decide) hk_11 rfl (Nat.le_of_ble_eq_true rfl) (c2 := 0) (s2 := 0) rfl rfl (Nat.le_of_ble_eq_true rfl) (Nat.le_of_ble_eq_true rfl) rfl (kIp (fun r_12 hw => ?_)) tNo
            refine g_aload_n C dX2_findError_73 1 rfl rfl ?_
            refine gf_RX2_15 C hk0 dX2_findError_74 ?_
            refine g_iconst C dX2_findError_77 (v := 1) rfl ?_
            refine g_isub C dX2_findError_78 ?_
            refine g_cS C dX2_findError_79 (met_X2_separatorAfter C.st hw) (gc_X2_separatorAfter _ (Nat.le_of_ble_eq_true rfl) (Nat.le_of_ble_eq_true rfl)) (Or.inl tw912) tw913 rfl (Nat.le_of_ble_eq_true rfl) (c2 := 0) (s2 := 0) rfl rfl (Nat.le_of_ble_eq_true rfl) (Nat.le_of_ble_eq_true rfl) rfl (kIp (fun r_14 hw => ?_)) tNo
            refine g_icmp_eq C dX2_findError_82 (tgt := 90) (by decide) (fun c82 => ?_) (fun c82 => ?_)
            · have hw := hw.1 c82
              refine g_aload_n C dX2_findError_90 1 rfl rfl ?_
              refine g_dup C dX2_findError_91 rfl ?_
              refine gf_RX2_19 C hk0 dX2_findError_92 ?_
              refine g_iconst C dX2_findError_95 (v := 1) rfl ?_
              refine g_iadd C dX2_findError_96 ?_
              refine pf_RX2_19 C hk0 dX2_findError_97 ?_
              refine g_nmM (fun M_16 eM_16 => ?_)
              have hw := hw M_16 eM_16
              obtain ⟨x2_17, ex2_17⟩ : ∃ y : Int32, y = x2_3 + 1 := ⟨_, rfl⟩
              have hw := hw x2_17 ex2_17
              refine g_iinc C (j := 0) dX2_findError_100 3 rfl (v := x2_17) (by rw [ex2_17]; rfl) (Nat.le_of_ble_eq_true rfl) (loc' := [(2, .int x2_17), (3, .int r_7), (0, gR E o), (1, gR E p1)]) rfl ?_
              refine g_goto C dX2_findError_103 (tgt := 12) (by decide) ?_
              refine g_sub [2, 3, 0] rfl ?_
              exact ih12 _ _ hw
            · have hw := hw.2 c82
              refine g_aload_n C dX2_findError_85 1 rfl rfl ?_
              refine gf_RX2_19 C hk0 dX2_findError_86 ?_
              exact g_iret C dX2_findError_89 (Nat.le_of_ble_eq_true rfl) (Nat.le_of_ble_eq_true rfl) ⟨_, rfl, hw⟩
          · have hw := hw.2 c49
            refine g_iload_n C dX2_findError_52 0 rfl rfl ?_
            refine g_if_eq C dX2_findError_53 (tgt := 60) (by decide) (fun c53 => ?_) (fun c53 => ?_)
            · have hw := hw.1 c53
              refine g_aload_n C dX2_findError_60 1 rfl rfl ?_
              refine gf_RX2_19 C hk0 dX2_findError_61 ?_
              exact g_iret C dX2_findError_64 (Nat.le_of_ble_eq_true rfl) (Nat.le_of_ble_eq_true rfl) ⟨_, rfl, hw⟩
            · have hw := hw.2 c53
              refine g_iconst C dX2_findError_56 (v := (-1)) rfl ?_
              refine g_goto C dX2_findError_57 (tgt := 64) (by decide) ?_
              exact g_iret C dX2_findError_64 (Nat.le_of_ble_eq_true rfl) (Nat.le_of_ble_eq_true rfl) ⟨_, rfl, hw⟩
        · have hw := hw.2 c23
          refine g_aload_n C dX2_findError_26 0 rfl rfl ?_
          refine gf_RX2_19 C hk0 dX2_findError_27 ?_
          exact g_iret C dX2_findError_30 (Nat.le_of_ble_eq_true rfl) (Nat.le_of_ble_eq_true rfl) ⟨_, rfl, hw⟩
  refine g_sub [1, 2, 0] rfl ?_
  exact hL12 m12 _ _ hw
theorem gc_X2_findError : ∀ rm : Room, rmX2_findError.frames + 1 ≤ rm.frames → 8 + (4 + 11) + rmX2_findError.locals ≤ rm.locals → gCall yX2_findError 4 1 rmX2_findError rm := fun rm a b => ⟨Or.inl ⟨_, _, tw892⟩, tw7, ⟨by decide, by decide⟩, by decide, a, b⟩
abbrev rmX2_numberAt : Room := { frames := 0, cells := 0, slots := 0, locals := 0 }
def wp_X2_numberAt (o : Nat) (p1 : Int32) (M : MEM) (Q : Int64 → Prop) : Prop := KD o = (12, 0) ∧ ((p1 < 0 → (Q 0)) ∧ (¬ p1 < 0 → (((mI M o 1) ≤ p1 → (Q 0)) ∧ (¬ (mI M o 1) ≤ p1 → (KD (RF o 0) = (2, 60) ∧ ((p1 < 60 → (vp_in p1 60 ∧ (Q (mL M (RF o 0) p1.toNatClampNeg)))) ∧ (¬ p1 < 60 → (Q 0))))))))
set_option maxRecDepth 100000 in
set_option maxHeartbeats 4000000 in
theorem met_X2_numberAt {l : Launch} (hl : l.stackTraces = false) {E : MK} {o : Nat} {p1 : Int32} {M : MEM} {Q : Int64 → Prop} (hw : wp_X2_numberAt o p1 M Q) : gMet l E yX2_numberAt rmX2_numberAt [gR E o, .int p1] M (qLp M Q) gNo := by
  obtain ⟨hk0, hw⟩ := hw
  refine g_met hl (cc := cX2_numberAt) (maxL := 2) (ret := (some .long)) (hh := []) (loc := [(0, gR E o), (1, .int p1)]) (by decide +kernel) (Or.inl ⟨tw926, rfl⟩) (Nat.le_of_ble_eq_true rfl) rfl (fun K hK C => ?_)
  have C : GC K E cX2_numberAt RX2 2 (some .long) [] rmX2_numberAt := C
  refine g_iload_n C dX2_numberAt_0 1 rfl rfl ?_
  refine g_if_lt C dX2_numberAt_1 (tgt := 21) (by decide) (fun c1 => ?_) (fun c1 => ?_)
  · have hw := hw.1 c1
    refine g_lconst C dX2_numberAt_21 (v := 0) rfl ?_
    refine g_goto C dX2_numberAt_22 (tgt := 31) (by decide) ?_
    exact g_lret C dX2_numberAt_31 (Nat.le_of_ble_eq_true rfl) (Nat.le_of_ble_eq_true rfl) ⟨_, rfl, rfl, hw⟩
  · have hw := hw.2 c1
    refine g_iload_n C dX2_numberAt_4 1 rfl rfl ?_
    refine g_aload_n C dX2_numberAt_5 0 rfl rfl ?_
    refine gf_RX2_15 C hk0 dX2_numberAt_6 ?_
    refine g_icmp_ge C dX2_numberAt_9 (tgt := 21) (by decide) (fun c9 => ?_) (fun c9 => ?_)
    · have hw := hw.1 c9
      refine g_lconst C dX2_numberAt_21 (v := 0) rfl ?_
      refine g_goto C dX2_numberAt_22 (tgt := 31) (by decide) ?_
      exact g_lret C dX2_numberAt_31 (Nat.le_of_ble_eq_true rfl) (Nat.le_of_ble_eq_true rfl) ⟨_, rfl, rfl, hw⟩
    · have hw := hw.2 c9
      refine g_iload_n C dX2_numberAt_12 1 rfl rfl ?_
      refine g_aload_n C dX2_numberAt_13 0 rfl rfl ?_
      refine gf_RX2_9 C hk0 dX2_numberAt_14 ?_
      obtain ⟨hk_1, hw⟩ := hw
      refine g_alen C hk_1 (by decide) (v := 60) rfl dX2_numberAt_17 ?_
      refine g_icmp_lt C dX2_numberAt_18 (tgt := 25) (by decide) (fun c18 => ?_) (fun c18 => ?_)
      · have hw := hw.1 c18
        refine g_aload_n C dX2_numberAt_25 0 rfl rfl ?_
        refine gf_RX2_9 C hk0 dX2_numberAt_26 ?_
        refine g_iload_n C dX2_numberAt_29 1 rfl rfl ?_
        obtain ⟨hi_2, hw⟩ := hw
        refine g_laload C hk_1 hi_2 dX2_numberAt_30 ?_
        exact g_lret C dX2_numberAt_31 (Nat.le_of_ble_eq_true rfl) (Nat.le_of_ble_eq_true rfl) ⟨_, rfl, rfl, hw⟩
      · have hw := hw.2 c18
        refine g_lconst C dX2_numberAt_21 (v := 0) rfl ?_
        refine g_goto C dX2_numberAt_22 (tgt := 31) (by decide) ?_
        exact g_lret C dX2_numberAt_31 (Nat.le_of_ble_eq_true rfl) (Nat.le_of_ble_eq_true rfl) ⟨_, rfl, rfl, hw⟩
theorem gc_X2_numberAt : ∀ rm : Room, rmX2_numberAt.frames + 1 ≤ rm.frames → 8 + (2 + 11) + rmX2_numberAt.locals ≤ rm.locals → gCall yX2_numberAt 2 1 rmX2_numberAt rm := fun rm a b => ⟨Or.inl ⟨_, _, tw926⟩, tw7, ⟨by decide, by decide⟩, by decide, a, b⟩
abbrev rmX2_items : Room := { frames := 0, cells := 0, slots := 0, locals := 0 }
def wp_X2_items (o : Nat) (M : MEM) (Q : Int32 → Prop) : Prop := KD o = (12, 0) ∧ (Q (((mI M o 1) - 4) / 5))
set_option maxRecDepth 100000 in
set_option maxHeartbeats 4000000 in
theorem met_X2_items {l : Launch} (hl : l.stackTraces = false) {E : MK} {o : Nat} {M : MEM} {Q : Int32 → Prop} (hw : wp_X2_items o M Q) : gMet l E yX2_items rmX2_items [gR E o] M (qIp M Q) gNo := by
  obtain ⟨hk0, hw⟩ := hw
  refine g_met hl (cc := cX2_items) (maxL := 1) (ret := (some .int)) (hh := []) (loc := [(0, gR E o)]) (by decide +kernel) (Or.inl ⟨tw934, rfl⟩) (Nat.le_of_ble_eq_true rfl) rfl (fun K hK C => ?_)
  have C : GC K E cX2_items RX2 1 (some .int) [] rmX2_items := C
  refine g_aload_n C dX2_items_0 0 rfl rfl ?_
  refine gf_RX2_15 C hk0 dX2_items_1 ?_
  refine g_iconst C dX2_items_4 (v := 4) rfl ?_
  refine g_isub C dX2_items_5 ?_
  refine g_iconst C dX2_items_6 (v := 5) rfl ?_
  refine g_idiv C dX2_items_7 (by decide) ?_
  exact g_iret C dX2_items_8 (Nat.le_of_ble_eq_true rfl) (Nat.le_of_ble_eq_true rfl) ⟨_, rfl, rfl, hw⟩
theorem gc_X2_items : ∀ rm : Room, rmX2_items.frames + 1 ≤ rm.frames → 8 + (1 + 11) + rmX2_items.locals ≤ rm.locals → gCall yX2_items 1 0 rmX2_items rm := fun rm a b => ⟨Or.inl ⟨_, _, tw934⟩, tw7, ⟨by decide, by decide⟩, by decide, a, b⟩
abbrev rmX2_partAt : Room := { frames := 1, cells := 0, slots := 0, locals := 21 }
def wp_X2_partAt (o : Nat) (p1 : Int32) (p2 : Int32) (M : MEM) (Q : Int64 → Prop) : Prop := KD o = (12, 0) ∧ (wp_X2_numberAt o ((4 + (p1 * 5)) + p2) M (fun r_1 => Q r_1))
set_option maxRecDepth 100000 in
set_option maxHeartbeats 4000000 in
theorem met_X2_partAt {l : Launch} (hl : l.stackTraces = false) {E : MK} {o : Nat} {p1 : Int32} {p2 : Int32} {M : MEM} {Q : Int64 → Prop} (hw : wp_X2_partAt o p1 p2 M Q) : gMet l E yX2_partAt rmX2_partAt [gR E o, .int p1, .int p2] M (qLp M Q) gNo := by
  obtain ⟨hk0, hw⟩ := hw
  refine g_met hl (cc := cX2_partAt) (maxL := 3) (ret := (some .long)) (hh := []) (loc := [(0, gR E o), (1, .int p1), (2, .int p2)]) (by decide +kernel) (Or.inl ⟨tw938, rfl⟩) (Nat.le_of_ble_eq_true rfl) rfl (fun K hK C => ?_)
  have C : GC K E cX2_partAt RX2 3 (some .long) [] rmX2_partAt := C
  refine g_aload_n C dX2_partAt_0 0 rfl rfl ?_
  refine g_iconst C dX2_partAt_1 (v := 4) rfl ?_
  refine g_iload_n C dX2_partAt_2 1 rfl rfl ?_
  refine g_iconst C dX2_partAt_3 (v := 5) rfl ?_
  refine g_imul C dX2_partAt_4 ?_
  refine g_iadd C dX2_partAt_5 ?_
  refine g_iload_n C dX2_partAt_6 2 rfl rfl ?_
  refine g_iadd C dX2_partAt_7 ?_
  refine g_cV C dX2_partAt_8 (met_X2_numberAt C.st hw) (gc_X2_numberAt _ (Nat.le_of_ble_eq_true rfl) (Nat.le_of_ble_eq_true rfl)) tw923 tw925 twp25 (ci := 2) rfl (by decide) hk0 rfl (Nat.le_of_ble_eq_true rfl) (c2 := 0) (s2 := 0) rfl rfl (Nat.le_of_ble_eq_true rfl) (Nat.le_of_ble_eq_true rfl) rfl (kLp (fun r_1 hw => ?_)) tNo
  exact g_lret C dX2_partAt_11 (Nat.le_of_ble_eq_true rfl) (Nat.le_of_ble_eq_true rfl) ⟨_, rfl, rfl, hw⟩
theorem gc_X2_partAt : ∀ rm : Room, rmX2_partAt.frames + 1 ≤ rm.frames → 8 + (3 + 11) + rmX2_partAt.locals ≤ rm.locals → gCall yX2_partAt 3 2 rmX2_partAt rm := fun rm a b => ⟨Or.inl ⟨_, _, tw938⟩, tw7, ⟨by decide, by decide⟩, by decide, a, b⟩
abbrev rmX5_areParts : Room := { frames := 1, cells := 0, slots := 0, locals := 25 }
def wp_X5_areParts (p1 : Int64) (p2 : Int64) (p3 : Int64) (p4 : Int64) (M : MEM) (Q : Int32 → Prop) : Prop := wp_X5_isWithin p1 0 99 M (fun r_1 => (r_1 = 0 → (Q 0)) ∧ (¬ r_1 = 0 → (wp_X5_isWithin p2 0 3 M (fun r_3 => (r_3 = 0 → (Q 0)) ∧ (¬ r_3 = 0 → (wp_X5_isWithin p3 1 99 M (fun r_5 => (r_5 = 0 → (Q 0)) ∧ (¬ r_5 = 0 → (wp_X5_isWithin p4 (-999) 999 M (fun r_7 => (r_7 = 0 → (Q 0)) ∧ (¬ r_7 = 0 → (Q 1))))))))))))
set_option maxRecDepth 100000 in
set_option maxHeartbeats 4000000 in
theorem met_X5_areParts {l : Launch} (hl : l.stackTraces = false) {E : MK} {p1 : Int64} {p2 : Int64} {p3 : Int64} {p4 : Int64} {M : MEM} {Q : Int32 → Prop} (hw : wp_X5_areParts p1 p2 p3 p4 M Q) : gMet l E yX5_areParts rmX5_areParts [.long p1, .long p2, .long p3, .long p4] M (qIp M Q) gNo := by
  refine g_met hl (cc := cX5_areParts) (maxL := 8) (ret := (some .boolean)) (hh := []) (loc := [(0, .long p1), (2, .long p2), (4, .long p3), (6, .long p4)]) (by decide +kernel) (Or.inl ⟨tw401, rfl⟩) (Nat.le_of_ble_eq_true rfl) rfl (fun K hK C => ?_)
  have C : GC K E cX5_areParts RX5 8 (some .boolean) [] rmX5_areParts := C
  refine g_lload_n C dX5_areParts_0 0 rfl rfl ?_
  refine g_lconst C dX5_areParts_1 (v := 0) rfl ?_
  refine g_ldc2 C dX5_areParts_2 tw402 ?_
  refine g_cS C dX5_areParts_5 (met_X5_isWithin C.st hw) (gc_X5_isWithin _ (Nat.le_of_ble_eq_true rfl) (Nat.le_of_ble_eq_true rfl)) (Or.inl tw336) tw337 rfl (Nat.le_of_ble_eq_true rfl) (c2 := 0) (s2 := 0) rfl rfl (Nat.le_of_ble_eq_true rfl) (Nat.le_of_ble_eq_true rfl) rfl (kIp (fun r_1 hw => ?_)) tNo
  refine g_if_eq C dX5_areParts_8 (tgt := 52) (by decide) (fun c8 => ?_) (fun c8 => ?_)
  · have hw := hw.1 c8
    refine g_iconst C dX5_areParts_52 (v := 0) rfl ?_
    exact g_zret C dX5_areParts_53 gB0.1 (Nat.le_of_ble_eq_true rfl) (Nat.le_of_ble_eq_true rfl) ⟨_, rfl, rfl, hw⟩
  · have hw := hw.2 c8
    refine g_lload_n C dX5_areParts_11 1 rfl rfl ?_
    refine g_lconst C dX5_areParts_12 (v := 0) rfl ?_
    refine g_ldc2 C dX5_areParts_13 tw335 ?_
    refine g_cS C dX5_areParts_16 (met_X5_isWithin C.st hw) (gc_X5_isWithin _ (Nat.le_of_ble_eq_true rfl) (Nat.le_of_ble_eq_true rfl)) (Or.inl tw336) tw337 rfl (Nat.le_of_ble_eq_true rfl) (c2 := 0) (s2 := 0) rfl rfl (Nat.le_of_ble_eq_true rfl) (Nat.le_of_ble_eq_true rfl) rfl (kIp (fun r_3 hw => ?_)) tNo
    refine g_if_eq C dX5_areParts_19 (tgt := 52) (by decide) (fun c19 => ?_) (fun c19 => ?_)
    · have hw := hw.1 c19
      refine g_iconst C dX5_areParts_52 (v := 0) rfl ?_
      exact g_zret C dX5_areParts_53 gB0.1 (Nat.le_of_ble_eq_true rfl) (Nat.le_of_ble_eq_true rfl) ⟨_, rfl, rfl, hw⟩
    · have hw := hw.2 c19
      refine g_lload C (j := 0) dX5_areParts_22 2 rfl ?_
      refine g_lconst C dX5_areParts_24 (v := 1) rfl ?_
      refine g_ldc2 C dX5_areParts_25 tw402 ?_
      refine g_cS C dX5_areParts_28 (met_X5_isWithin C.st hw) (gc_X5_isWithin _ (Nat.le_of_ble_eq_true rfl) (Nat.le_of_ble_eq_true rfl)) (Or.inl tw336) tw337 rfl (Nat.le_of_ble_eq_true rfl) (c2 := 0) (s2 := 0) rfl rfl (Nat.le_of_ble_eq_true rfl) (Nat.le_of_ble_eq_true rfl) rfl (kIp (fun r_5 hw => ?_)) tNo
      refine g_if_eq C dX5_areParts_31 (tgt := 52) (by decide) (fun c31 => ?_) (fun c31 => ?_)
      · have hw := hw.1 c31
        refine g_iconst C dX5_areParts_52 (v := 0) rfl ?_
        exact g_zret C dX5_areParts_53 gB0.1 (Nat.le_of_ble_eq_true rfl) (Nat.le_of_ble_eq_true rfl) ⟨_, rfl, rfl, hw⟩
      · have hw := hw.2 c31
        refine g_lload C (j := 0) dX5_areParts_34 3 rfl ?_
        refine g_ldc2 C dX5_areParts_36 tw403 ?_
        refine g_ldc2 C dX5_areParts_39 tw404 ?_
        refine g_cS C dX5_areParts_42 (met_X5_isWithin C.st hw) (gc_X5_isWithin _ (Nat.le_of_ble_eq_true rfl) (Nat.le_of_ble_eq_true rfl)) (Or.inl tw336) tw337 rfl (Nat.le_of_ble_eq_true rfl) (c2 := 0) (s2 := 0) rfl rfl (Nat.le_of_ble_eq_true rfl) (Nat.le_of_ble_eq_true rfl) rfl (kIp (fun r_7 hw => ?_)) tNo
        refine g_if_eq C dX5_areParts_45 (tgt := 52) (by decide) (fun c45 => ?_) (fun c45 => ?_)
        · have hw := hw.1 c45
          refine g_iconst C dX5_areParts_52 (v := 0) rfl ?_
          exact g_zret C dX5_areParts_53 gB0.1 (Nat.le_of_ble_eq_true rfl) (Nat.le_of_ble_eq_true rfl) ⟨_, rfl, rfl, hw⟩
        · have hw := hw.2 c45
          refine g_iconst C dX5_areParts_48 (v := 1) rfl ?_
          refine g_goto C dX5_areParts_49 (tgt := 53) (by decide) ?_
          exact g_zret C dX5_areParts_53 gB1.1 (Nat.le_of_ble_eq_true rfl) (Nat.le_of_ble_eq_true rfl) ⟨_, rfl, rfl, hw⟩
theorem gc_X5_areParts : ∀ rm : Room, rmX5_areParts.frames + 1 ≤ rm.frames → 8 + (8 + 11) + rmX5_areParts.locals ≤ rm.locals → gCall yX5_areParts 8 4 rmX5_areParts rm := fun rm a b => ⟨Or.inl ⟨_, _, tw401⟩, tw1, ⟨by decide, by decide⟩, by decide, a, b⟩
abbrev rmX5_areSettings : Room := { frames := 1, cells := 0, slots := 0, locals := 25 }
def wp_X5_areSettings (p1 : Int64) (p2 : Int64) (p3 : Int64) (M : MEM) (Q : Int32 → Prop) : Prop := wp_X5_isWithin p1 0 3 M (fun r_1 => (r_1 = 0 → (Q 0)) ∧ (¬ r_1 = 0 → (wp_X5_isWithin p2 1 12 M (fun r_3 => (r_3 = 0 → (Q 0)) ∧ (¬ r_3 = 0 → (wp_X5_isWithin p3 0 40 M (fun r_5 => (r_5 = 0 → (Q 0)) ∧ (¬ r_5 = 0 → (Q 1)))))))))
set_option maxRecDepth 100000 in
set_option maxHeartbeats 4000000 in
theorem met_X5_areSettings {l : Launch} (hl : l.stackTraces = false) {E : MK} {p1 : Int64} {p2 : Int64} {p3 : Int64} {M : MEM} {Q : Int32 → Prop} (hw : wp_X5_areSettings p1 p2 p3 M Q) : gMet l E yX5_areSettings rmX5_areSettings [.long p1, .long p2, .long p3] M (qIp M Q) gNo := by
  refine g_met hl (cc := cX5_areSettings) (maxL := 6) (ret := (some .boolean)) (hh := []) (loc := [(0, .long p1), (2, .long p2), (4, .long p3)]) (by decide +kernel) (Or.inl ⟨tw334, rfl⟩) (Nat.le_of_ble_eq_true rfl) rfl (fun K hK C => ?_)
  have C : GC K E cX5_areSettings RX5 6 (some .boolean) [] rmX5_areSettings := C
  refine g_lload_n C dX5_areSettings_0 0 rfl rfl ?_
  refine g_lconst C dX5_areSettings_1 (v := 0) rfl ?_
  refine g_ldc2 C dX5_areSettings_2 tw335 ?_
  refine g_cS C dX5_areSettings_5 (met_X5_isWithin C.st hw) (gc_X5_isWithin _ (Nat.le_of_ble_eq_true rfl) (Nat.le_of_ble_eq_true rfl)) (Or.inl tw336) tw337 rfl (Nat.le_of_ble_eq_true rfl) (c2 := 0) (s2 := 0) rfl rfl (Nat.le_of_ble_eq_true rfl) (Nat.le_of_ble_eq_true rfl) rfl (kIp (fun r_1 hw => ?_)) tNo
  refine g_if_eq C dX5_areSettings_8 (tgt := 38) (by decide) (fun c8 => ?_) (fun c8 => ?_)
  · have hw := hw.1 c8
    refine g_iconst C dX5_areSettings_38 (v := 0) rfl ?_
    exact g_zret C dX5_areSettings_39 gB0.1 (Nat.le_of_ble_eq_true rfl) (Nat.le_of_ble_eq_true rfl) ⟨_, rfl, rfl, hw⟩
  · have hw := hw.2 c8
    refine g_lload_n C dX5_areSettings_11 1 rfl rfl ?_
    refine g_lconst C dX5_areSettings_12 (v := 1) rfl ?_
    refine g_ldc2 C dX5_areSettings_13 tw339 ?_
    refine g_cS C dX5_areSettings_16 (met_X5_isWithin C.st hw) (gc_X5_isWithin _ (Nat.le_of_ble_eq_true rfl) (Nat.le_of_ble_eq_true rfl)) (Or.inl tw336) tw337 rfl (Nat.le_of_ble_eq_true rfl) (c2 := 0) (s2 := 0) rfl rfl (Nat.le_of_ble_eq_true rfl) (Nat.le_of_ble_eq_true rfl) rfl (kIp (fun r_3 hw => ?_)) tNo
    refine g_if_eq C dX5_areSettings_19 (tgt := 38) (by decide) (fun c19 => ?_) (fun c19 => ?_)
    · have hw := hw.1 c19
      refine g_iconst C dX5_areSettings_38 (v := 0) rfl ?_
      exact g_zret C dX5_areSettings_39 gB0.1 (Nat.le_of_ble_eq_true rfl) (Nat.le_of_ble_eq_true rfl) ⟨_, rfl, rfl, hw⟩
    · have hw := hw.2 c19
      refine g_lload C (j := 0) dX5_areSettings_22 2 rfl ?_
      refine g_lconst C dX5_areSettings_24 (v := 0) rfl ?_
      refine g_ldc2 C dX5_areSettings_25 tw340 ?_
      refine g_cS C dX5_areSettings_28 (met_X5_isWithin C.st hw) (gc_X5_isWithin _ (Nat.le_of_ble_eq_true rfl) (Nat.le_of_ble_eq_true rfl)) (Or.inl tw336) tw337 rfl (Nat.le_of_ble_eq_true rfl) (c2 := 0) (s2 := 0) rfl rfl (Nat.le_of_ble_eq_true rfl) (Nat.le_of_ble_eq_true rfl) rfl (kIp (fun r_5 hw => ?_)) tNo
      refine g_if_eq C dX5_areSettings_31 (tgt := 38) (by decide) (fun c31 => ?_) (fun c31 => ?_)
      · have hw := hw.1 c31
        refine g_iconst C dX5_areSettings_38 (v := 0) rfl ?_
        exact g_zret C dX5_areSettings_39 gB0.1 (Nat.le_of_ble_eq_true rfl) (Nat.le_of_ble_eq_true rfl) ⟨_, rfl, rfl, hw⟩
      · have hw := hw.2 c31
        refine g_iconst C dX5_areSettings_34 (v := 1) rfl ?_
        refine g_goto C dX5_areSettings_35 (tgt := 39) (by decide) ?_
        exact g_zret C dX5_areSettings_39 gB1.1 (Nat.le_of_ble_eq_true rfl) (Nat.le_of_ble_eq_true rfl) ⟨_, rfl, rfl, hw⟩
theorem gc_X5_areSettings : ∀ rm : Room, rmX5_areSettings.frames + 1 ≤ rm.frames → 8 + (6 + 11) + rmX5_areSettings.locals ≤ rm.locals → gCall yX5_areSettings 6 3 rmX5_areSettings rm := fun rm a b => ⟨Or.inl ⟨_, _, tw334⟩, tw1, ⟨by decide, by decide⟩, by decide, a, b⟩
abbrev rmX2_isInRange : Room := { frames := 2, cells := 0, slots := 0, locals := 52 }
def wp_X2_isInRange_L46 (o : Nat) (M : MEM) (Q : Int32 → Prop) : Nat → Int64 → Int32 → Prop
  | 0, _, _ => False
  | n46 + 1, x1_13, x3_14 => wp_X2_items o M (fun r_15 => (r_15 ≤ x3_14 → (Q 1)) ∧ (¬ r_15 ≤ x3_14 → (wp_X2_partAt o x3_14 0 M (fun r_17 => (r_17 ≤ x1_13 → (Q 0)) ∧ (¬ r_17 ≤ x1_13 → ((999999 < r_17 → (Q 0)) ∧ (¬ 999999 < r_17 → (wp_X2_partAt o x3_14 1 M (fun r_19 => wp_X2_partAt o x3_14 2 M (fun r_21 => wp_X2_partAt o x3_14 3 M (fun r_23 => wp_X2_partAt o x3_14 4 M (fun r_25 => wp_X5_areParts r_19 r_21 r_23 r_25 M (fun r_27 => (¬ r_27 = 0 → (∀ x3_29 : Int32, x3_29 = x3_14 + 1 → ((wp_X2_isInRange_L46 o M Q n46) r_17 x3_29))) ∧ (r_27 = 0 → (Q 0)))))))))))))))
def wp_X2_isInRange (o : Nat) (M : MEM) (Q : Int32 → Prop) : Prop := KD o = (12, 0) ∧ (wp_X2_numberAt o 0 M (fun r_1 => wp_X2_numberAt o 1 M (fun r_3 => wp_X2_numberAt o 3 M (fun r_5 => wp_X5_areSettings r_1 r_3 r_5 M (fun r_7 => (r_7 = 0 → (Q 0)) ∧ (¬ r_7 = 0 → (wp_X2_numberAt o 2 M (fun r_9 => wp_X5_isWithin r_9 (-2147483648) 2147483647 M (fun r_11 => (¬ r_11 = 0 → (∃ m46 : Nat, wp_X2_isInRange_L46 o M Q m46 (-1) 0)) ∧ (r_11 = 0 → (Q 0)))))))))))
set_option maxRecDepth 100000 in
set_option maxHeartbeats 4000000 in
theorem met_X2_isInRange {l : Launch} (hl : l.stackTraces = false) {E : MK} {o : Nat} {M : MEM} {Q : Int32 → Prop} (hw : wp_X2_isInRange o M Q) : gMet l E yX2_isInRange rmX2_isInRange [gR E o] M (qIp M Q) gNo := by
  obtain ⟨hk0, hw⟩ := hw
  refine g_met hl (cc := cX2_isInRange) (maxL := 6) (ret := (some .boolean)) (hh := []) (loc := [(0, gR E o)]) (by decide +kernel) (Or.inl ⟨tw922, rfl⟩) (Nat.le_of_ble_eq_true rfl) rfl (fun K hK C => ?_)
  have C : GC K E cX2_isInRange RX2 6 (some .boolean) [] rmX2_isInRange := C
  refine g_aload_n C dX2_isInRange_0 0 rfl rfl ?_
  refine g_iconst C dX2_isInRange_1 (v := 0) rfl ?_
  refine g_cV C dX2_isInRange_2 (met_X2_numberAt C.st hw) (gc_X2_numberAt _ (Nat.le_of_ble_eq_true rfl) (Nat.le_of_ble_eq_true rfl)) tw923 tw925 twp25 (ci := 2) rfl (by decide) hk0 rfl (Nat.le_of_ble_eq_true rfl) (c2 := 0) (s2 := 0) rfl rfl (Nat.le_of_ble_eq_true rfl) (Nat.le_of_ble_eq_true rfl) rfl (kLp (fun r_1 hw => ?_)) tNo
  refine g_aload_n C dX2_isInRange_5 0 rfl rfl ?_
  refine g_iconst C dX2_isInRange_6 (v := 1) rfl ?_
  refine g_cV C dX2_isInRange_7 (met_X2_numberAt C.st hw) (gc_X2_numberAt _ (Nat.le_of_ble_eq_true rfl) (Nat.le_of_ble_eq_true rfl)) tw923 tw925 twp25 (ci := 2) rfl (by decide) hk0 rfl (Nat.le_of_ble_eq_true rfl) (c2 := 0) (s2 := 0) rfl rfl (Nat.le_of_ble_eq_true rfl) (Nat.le_of_ble_eq_true rfl) rfl (kLp (fun r_3 hw => ?_)) tNo
  refine g_aload_n C dX2_isInRange_10 0 rfl rfl ?_
  refine g_iconst C dX2_isInRange_11 (v := 3) rfl ?_
  refine g_cV C dX2_isInRange_12 (met_X2_numberAt C.st hw) (gc_X2_numberAt _ (Nat.le_of_ble_eq_true rfl) (Nat.le_of_ble_eq_true rfl)) tw923 tw925 twp25 (ci := 2) rfl (by decide) hk0 rfl (Nat.le_of_ble_eq_true rfl) (c2 := 0) (s2 := 0) rfl rfl (Nat.le_of_ble_eq_true rfl) (Nat.le_of_ble_eq_true rfl) rfl (kLp (fun r_5 hw => ?_)) tNo
  refine g_cS C dX2_isInRange_15 (met_X5_areSettings C.st hw) (gc_X5_areSettings _ (Nat.le_of_ble_eq_true rfl) (Nat.le_of_ble_eq_true rfl)) (Or.inr ⟨_, List.mem_of_getElem? (i := 9) rfl⟩) tw333 rfl (Nat.le_of_ble_eq_true rfl) (c2 := 0) (s2 := 0) rfl rfl (Nat.le_of_ble_eq_true rfl) (Nat.le_of_ble_eq_true rfl) rfl (kIp (fun r_7 hw => ?_)) tNo
  refine g_if_eq C dX2_isInRange_18 (tgt := 38) (by decide) (fun c18 => ?_) (fun c18 => ?_)
  · have hw := hw.1 c18
    refine g_iconst C dX2_isInRange_38 (v := 0) rfl ?_
    exact g_zret C dX2_isInRange_39 gB0.1 (Nat.le_of_ble_eq_true rfl) (Nat.le_of_ble_eq_true rfl) ⟨_, rfl, rfl, hw⟩
  · have hw := hw.2 c18
    refine g_aload_n C dX2_isInRange_21 0 rfl rfl ?_
    refine g_iconst C dX2_isInRange_22 (v := 2) rfl ?_
    refine g_cV C dX2_isInRange_23 (met_X2_numberAt C.st hw) (gc_X2_numberAt _ (Nat.le_of_ble_eq_true rfl) (Nat.le_of_ble_eq_true rfl)) tw923 tw925 twp25 (ci := 2) rfl (by decide) hk0 rfl (Nat.le_of_ble_eq_true rfl) (c2 := 0) (s2 := 0) rfl rfl (Nat.le_of_ble_eq_true rfl) (Nat.le_of_ble_eq_true rfl) rfl (kLp (fun r_9 hw => ?_)) tNo
    refine g_ldc2 C dX2_isInRange_26 tw928 ?_
    refine g_ldc2 C dX2_isInRange_29 tw929 ?_
    refine g_cS C dX2_isInRange_32 (met_X5_isWithin C.st hw) (gc_X5_isWithin _ (Nat.le_of_ble_eq_true rfl) (Nat.le_of_ble_eq_true rfl)) (Or.inr ⟨_, List.mem_of_getElem? (i := 8) rfl⟩) tw337 rfl (Nat.le_of_ble_eq_true rfl) (c2 := 0) (s2 := 0) rfl rfl (Nat.le_of_ble_eq_true rfl) (Nat.le_of_ble_eq_true rfl) rfl (kIp (fun r_11 hw => ?_)) tNo
    refine g_if_ne C dX2_isInRange_35 (tgt := 40) (by decide) (fun c35 => ?_) (fun c35 => ?_)
    · have hw := hw.1 c35
      refine g_ldc2 C dX2_isInRange_40 tw930 ?_
      refine g_lstore_n C dX2_isInRange_43 rfl (Nat.le_of_ble_eq_true rfl) (loc' := [(1, .long (-1)), (0, gR E o)]) rfl ?_
      refine g_iconst C dX2_isInRange_44 (v := 0) rfl ?_
      refine g_istore_n C dX2_isInRange_45 rfl (Nat.le_of_ble_eq_true rfl) (loc' := [(3, .int 0), (1, .long (-1)), (0, gR E o)]) rfl ?_
      obtain ⟨m46, hw⟩ := hw
      have hL46 : ∀ (n46 : Nat) (x1_13 : Int64) (x3_14 : Int32), wp_X2_isInRange_L46 o M Q n46 x1_13 x3_14 → GX K E 6 M [(0, gR E o), (1, .long x1_13), (3, .int x3_14)] [] 46 0 0 (gEnd K E (qIp M Q) gNo rmX2_isInRange.cells rmX2_isInRange.slots) := by
        intro n46
        induction n46 with
        | zero => intro _ _ hw; exact False.elim hw
        | succ n46 ih46 =>
          intro x1_13 x3_14 hw
          refine g_iload_n C dX2_isInRange_46 2 rfl rfl ?_
          refine g_aload_n C dX2_isInRange_47 0 rfl rfl ?_
          refine g_cV C dX2_isInRange_48 (met_X2_items C.st hw) (gc_X2_items _ (Nat.le_of_ble_eq_true rfl) (Nat.le_of_ble_eq_true rfl)) tw931 tw933 twp26 (ci := 2) rfl (by decide) hk0 rfl (Nat.le_of_ble_eq_true rfl) (c2 := 0) (s2 := 0) rfl rfl (Nat.le_of_ble_eq_true rfl) (Nat.le_of_ble_eq_true rfl) rfl (kIp (fun r_15 hw => ?_)) tNo
          refine g_icmp_ge C dX2_isInRange_51 (tgt := 119) (by decide) (fun c51 => ?_) (fun c51 => ?_)
          · have hw := hw.1 c51
            refine g_iconst C dX2_isInRange_119 (v := 1) rfl ?_
            exact g_zret C dX2_isInRange_120 gB1.1 (Nat.le_of_ble_eq_true rfl) (Nat.le_of_ble_eq_true rfl) ⟨_, rfl, rfl, hw⟩
          · have hw := hw.2 c51
            refine g_aload_n C dX2_isInRange_54 0 rfl rfl ?_
            refine g_iload_n C dX2_isInRange_55 2 rfl rfl ?_
            refine g_iconst C dX2_isInRange_56 (v := 0) rfl ?_
            refine g_cV C dX2_isInRange_57 (met_X2_partAt C.st hw) (gc_X2_partAt _ (Nat.le_of_ble_eq_true rfl) (Nat.le_of_ble_eq_true rfl)) tw935 tw937 twp27 (ci := 2) rfl (by decide) hk0 rfl (Nat.le_of_ble_eq_true rfl) (c2 := 0) (s2 := 0) rfl rfl (Nat.le_of_ble_eq_true rfl) (Nat.le_of_ble_eq_true rfl) rfl (kLp (fun r_17 hw => ?_)) tNo
            refine g_lstore C dX2_isInRange_60 (Nat.le_of_ble_eq_true rfl) (loc' := [(4, .long r_17), (0, gR E o), (1, .long x1_13), (3, .int x3_14)]) rfl ?_
            refine g_lload C (j := 0) dX2_isInRange_62 0 rfl ?_
            refine g_lload_n C dX2_isInRange_64 2 rfl rfl ?_
            refine g_lc_le C dX2_isInRange_65 dX2_isInRange_66 (tgt := 108) (by decide) (fun c66 => ?_) (fun c66 => ?_)
            · have hw := hw.1 c66
              refine g_iconst C dX2_isInRange_108 (v := 0) rfl ?_
              exact g_zret C dX2_isInRange_109 gB0.1 (Nat.le_of_ble_eq_true rfl) (Nat.le_of_ble_eq_true rfl) ⟨_, rfl, rfl, hw⟩
            · have hw := hw.2 c66
              refine g_lload C (j := 0) dX2_isInRange_69 0 rfl ?_
              refine g_ldc2 C dX2_isInRange_71 tw939 ?_
              refine g_lc_gt C dX2_isInRange_74 dX2_isInRange_75 (tgt := 108) (by decide) (fun c75 => ?_) (fun c75 => ?_)
              · have hw := hw.1 c75
                refine g_iconst C dX2_isInRange_108 (v := 0) rfl ?_
                exact g_zret C dX2_isInRange_109 gB0.1 (Nat.le_of_ble_eq_true rfl) (Nat.le_of_ble_eq_true rfl) ⟨_, rfl, rfl, hw⟩
              · have hw := hw.2 c75
                refine g_aload_n C dX2_isInRange_78 1 rfl rfl ?_
                refine g_iload_n C dX2_isInRange_79 3 rfl rfl ?_
                refine g_iconst C dX2_isInRange_80 (v := 1) rfl ?_
                refine g_cV C dX2_isInRange_81 (met_X2_partAt C.st hw) (gc_X2_partAt _ (Nat.le_of_ble_eq_true rfl) (Nat.le_of_ble_eq_true rfl)) tw935 tw937 twp27 (ci := 2) rfl (by decide) hk0 rfl (Nat.le_of_ble_eq_true rfl) (c2 := 0) (s2 := 0) rfl rfl (Nat.le_of_ble_eq_true rfl) (Nat.le_of_ble_eq_true rfl) rfl (kLp (fun r_19 hw => ?_)) tNo
                refine g_aload_n C dX2_isInRange_84 1 rfl rfl ?_
                refine g_iload_n C dX2_isInRange_85 3 rfl rfl ?_
                refine g_iconst C dX2_isInRange_86 (v := 2) rfl ?_
                refine g_cV C dX2_isInRange_87 (met_X2_partAt C.st hw) (gc_X2_partAt _ (Nat.le_of_ble_eq_true rfl) (Nat.le_of_ble_eq_true rfl)) tw935 tw937 twp27 (ci := 2) rfl (by decide) hk0 rfl (Nat.le_of_ble_eq_true rfl) (c2 := 0) (s2 := 0) rfl rfl (Nat.le_of_ble_eq_true rfl) (Nat.le_of_ble_eq_true rfl) rfl (kLp (fun r_21 hw => ?_)) tNo
                refine g_aload_n C dX2_isInRange_90 1 rfl rfl ?_
                refine g_iload_n C dX2_isInRange_91 3 rfl rfl ?_
                refine g_iconst C dX2_isInRange_92 (v := 3) rfl ?_
                refine g_cV C dX2_isInRange_93 (met_X2_partAt C.st hw) (gc_X2_partAt _ (Nat.le_of_ble_eq_true rfl) (Nat.le_of_ble_eq_true rfl)) tw935 tw937 twp27 (ci := 2) rfl (by decide) hk0 rfl (Nat.le_of_ble_eq_true rfl) (c2 := 0) (s2 := 0) rfl rfl (Nat.le_of_ble_eq_true rfl) (Nat.le_of_ble_eq_true rfl) rfl (kLp (fun r_23 hw => ?_)) tNo
                refine g_aload_n C dX2_isInRange_96 1 rfl rfl ?_
                refine g_iload_n C dX2_isInRange_97 3 rfl rfl ?_
                refine g_iconst C dX2_isInRange_98 (v := 4) rfl ?_
                refine g_cV C dX2_isInRange_99 (met_X2_partAt C.st hw) (gc_X2_partAt _ (Nat.le_of_ble_eq_true rfl) (Nat.le_of_ble_eq_true rfl)) tw935 tw937 twp27 (ci := 2) rfl (by decide) hk0 rfl (Nat.le_of_ble_eq_true rfl) (c2 := 0) (s2 := 0) rfl rfl (Nat.le_of_ble_eq_true rfl) (Nat.le_of_ble_eq_true rfl) rfl (kLp (fun r_25 hw => ?_)) tNo
                refine g_cS C dX2_isInRange_102 (met_X5_areParts C.st hw) (gc_X5_areParts _ (Nat.le_of_ble_eq_true rfl) (Nat.le_of_ble_eq_true rfl)) (Or.inr ⟨_, List.mem_of_getElem? (i := 10) rfl⟩) tw400 rfl (Nat.le_of_ble_eq_true rfl) (c2 := 0) (s2 := 0) rfl rfl (Nat.le_of_ble_eq_true rfl) (Nat.le_of_ble_eq_true rfl) rfl (kIp (fun r_27 hw => ?_)) tNo
                refine g_if_ne C dX2_isInRange_105 (tgt := 110) (by decide) (fun c105 => ?_) (fun c105 => ?_)
                · have hw := hw.1 c105
                  refine g_lload C (j := 0) dX2_isInRange_110 0 rfl ?_
                  refine g_lstore_n C dX2_isInRange_112 rfl (Nat.le_of_ble_eq_true rfl) (loc' := [(1, .long r_17), (4, .long r_17), (0, gR E o), (3, .int x3_14)]) rfl ?_
                  obtain ⟨x3_29, ex3_29⟩ : ∃ y : Int32, y = x3_14 + 1 := ⟨_, rfl⟩
                  have hw := hw x3_29 ex3_29
                  refine g_iinc C (j := 0) dX2_isInRange_113 3 rfl (v := x3_29) (by rw [ex3_29]; rfl) (Nat.le_of_ble_eq_true rfl) (loc' := [(3, .int x3_29), (1, .long r_17), (4, .long r_17), (0, gR E o)]) rfl ?_
                  refine g_goto C dX2_isInRange_116 (tgt := 46) (by decide) ?_
                  refine g_sub [3, 1, 0] rfl ?_
                  exact ih46 _ _ hw
                · have hw := hw.2 c105
                  refine g_iconst C dX2_isInRange_108 (v := 0) rfl ?_
                  exact g_zret C dX2_isInRange_109 gB0.1 (Nat.le_of_ble_eq_true rfl) (Nat.le_of_ble_eq_true rfl) ⟨_, rfl, rfl, hw⟩
      refine g_sub [2, 1, 0] rfl ?_
      exact hL46 m46 _ _ hw
    · have hw := hw.2 c35
      refine g_iconst C dX2_isInRange_38 (v := 0) rfl ?_
      exact g_zret C dX2_isInRange_39 gB0.1 (Nat.le_of_ble_eq_true rfl) (Nat.le_of_ble_eq_true rfl) ⟨_, rfl, rfl, hw⟩
theorem gc_X2_isInRange : ∀ rm : Room, rmX2_isInRange.frames + 1 ≤ rm.frames → 8 + (6 + 11) + rmX2_isInRange.locals ≤ rm.locals → gCall yX2_isInRange 6 0 rmX2_isInRange rm := fun rm a b => ⟨Or.inl ⟨_, _, tw922⟩, tw7, ⟨by decide, by decide⟩, by decide, a, b⟩
abbrev rmX2_fitsSpan : Room := { frames := 1, cells := 0, slots := 0, locals := 21 }
def wp_X2_fitsSpan (o : Nat) (M : MEM) (Q : Int32 → Prop) : Prop := KD o = (12, 0) ∧ (wp_X2_numberAt o 3 M (fun r_1 => wp_X2_items o M (fun r_3 => (¬ r_1 = 0 → ((r_1 < r_3.toInt64 → (Q 0)) ∧ (¬ r_1 < r_3.toInt64 → (Q 1)))) ∧ (r_1 = 0 → ((60 < r_3.toInt64 → (Q 0)) ∧ (¬ 60 < r_3.toInt64 → (Q 1)))))))
set_option maxRecDepth 100000 in
set_option maxHeartbeats 4000000 in
theorem met_X2_fitsSpan {l : Launch} (hl : l.stackTraces = false) {E : MK} {o : Nat} {M : MEM} {Q : Int32 → Prop} (hw : wp_X2_fitsSpan o M Q) : gMet l E yX2_fitsSpan rmX2_fitsSpan [gR E o] M (qIp M Q) gNo := by
  obtain ⟨hk0, hw⟩ := hw
  refine g_met hl (cc := cX2_fitsSpan) (maxL := 3) (ret := (some .boolean)) (hh := []) (loc := [(0, gR E o)]) (by decide +kernel) (Or.inl ⟨tw944, rfl⟩) (Nat.le_of_ble_eq_true rfl) rfl (fun K hK C => ?_)
  have C : GC K E cX2_fitsSpan RX2 3 (some .boolean) [] rmX2_fitsSpan := C
  refine g_aload_n C dX2_fitsSpan_0 0 rfl rfl ?_
  refine g_iconst C dX2_fitsSpan_1 (v := 3) rfl ?_
  refine g_cV C dX2_fitsSpan_2 (met_X2_numberAt C.st hw) (gc_X2_numberAt _ (Nat.le_of_ble_eq_true rfl) (Nat.le_of_ble_eq_true rfl)) tw923 tw925 twp25 (ci := 2) rfl (by decide) hk0 rfl (Nat.le_of_ble_eq_true rfl) (c2 := 0) (s2 := 0) rfl rfl (Nat.le_of_ble_eq_true rfl) (Nat.le_of_ble_eq_true rfl) rfl (kLp (fun r_1 hw => ?_)) tNo
  refine g_lstore_n C dX2_fitsSpan_5 rfl (Nat.le_of_ble_eq_true rfl) (loc' := [(1, .long r_1), (0, gR E o)]) rfl ?_
  refine g_aload_n C dX2_fitsSpan_6 1 rfl rfl ?_
  refine g_cV C dX2_fitsSpan_7 (met_X2_items C.st hw) (gc_X2_items _ (Nat.le_of_ble_eq_true rfl) (Nat.le_of_ble_eq_true rfl)) tw931 tw933 twp26 (ci := 2) rfl (by decide) hk0 rfl (Nat.le_of_ble_eq_true rfl) (c2 := 0) (s2 := 0) rfl rfl (Nat.le_of_ble_eq_true rfl) (Nat.le_of_ble_eq_true rfl) rfl (kIp (fun r_3 hw => ?_)) tNo
  refine g_i2l C dX2_fitsSpan_10 ?_
  refine g_lload_n C dX2_fitsSpan_11 0 rfl rfl ?_
  refine g_lconst C dX2_fitsSpan_12 (v := 0) rfl ?_
  refine g_lc_ne C dX2_fitsSpan_13 dX2_fitsSpan_14 (tgt := 23) (by decide) (fun c14 => ?_) (fun c14 => ?_)
  · have hw := hw.1 c14
    refine g_lload_n C dX2_fitsSpan_23 0 rfl rfl ?_
    refine g_lc_gt C dX2_fitsSpan_24 dX2_fitsSpan_25 (tgt := 32) (by decide) (fun c25 => ?_) (fun c25 => ?_)
    · have hw := hw.1 c25
      refine g_iconst C dX2_fitsSpan_32 (v := 0) rfl ?_
      exact g_zret C dX2_fitsSpan_33 gB0.1 (Nat.le_of_ble_eq_true rfl) (Nat.le_of_ble_eq_true rfl) ⟨_, rfl, rfl, hw⟩
    · have hw := hw.2 c25
      refine g_iconst C dX2_fitsSpan_28 (v := 1) rfl ?_
      refine g_goto C dX2_fitsSpan_29 (tgt := 33) (by decide) ?_
      exact g_zret C dX2_fitsSpan_33 gB1.1 (Nat.le_of_ble_eq_true rfl) (Nat.le_of_ble_eq_true rfl) ⟨_, rfl, rfl, hw⟩
  · have hw := hw.2 c14
    refine g_ldc2 C dX2_fitsSpan_17 tw945 ?_
    refine g_goto C dX2_fitsSpan_20 (tgt := 24) (by decide) ?_
    refine g_lc_gt C dX2_fitsSpan_24 dX2_fitsSpan_25 (tgt := 32) (by decide) (fun c25 => ?_) (fun c25 => ?_)
    · have hw := hw.1 c25
      refine g_iconst C dX2_fitsSpan_32 (v := 0) rfl ?_
      exact g_zret C dX2_fitsSpan_33 gB0.1 (Nat.le_of_ble_eq_true rfl) (Nat.le_of_ble_eq_true rfl) ⟨_, rfl, rfl, hw⟩
    · have hw := hw.2 c25
      refine g_iconst C dX2_fitsSpan_28 (v := 1) rfl ?_
      refine g_goto C dX2_fitsSpan_29 (tgt := 33) (by decide) ?_
      exact g_zret C dX2_fitsSpan_33 gB1.1 (Nat.le_of_ble_eq_true rfl) (Nat.le_of_ble_eq_true rfl) ⟨_, rfl, rfl, hw⟩
theorem gc_X2_fitsSpan : ∀ rm : Room, rmX2_fitsSpan.frames + 1 ≤ rm.frames → 8 + (3 + 11) + rmX2_fitsSpan.locals ≤ rm.locals → gCall yX2_fitsSpan 3 0 rmX2_fitsSpan rm := fun rm a b => ⟨Or.inl ⟨_, _, tw944⟩, tw7, ⟨by decide, by decide⟩, by decide, a, b⟩
abbrev rmX4_begin : Room := { frames := 0, cells := 0, slots := 0, locals := 0 }
def wp_X4_begin_L34 (o : Nat) (p2 : Int32) (Q : MEM → Prop) : Nat → Int32 → MEM → Prop
  | 0, _, _ => False
  | n34 + 1, x5_7, M_8 => (4 ≤ x5_7 → (Q M_8)) ∧ (¬ 4 ≤ x5_7 → ((KD (RF o 6) = (0, 4) ∧ (vp_in x5_7 4 ∧ (∀ M_11 : MEM, M_11 = uI M_8 (RF o 6) x5_7.toNatClampNeg p2 → (∀ x5_12 : Int32, x5_12 = x5_7 + 1 → ((wp_X4_begin_L34 o p2 Q n34) x5_12 M_11)))))))
def wp_X4_begin (o : Nat) (p1 : Int32) (p2 : Int32) (p3 : Int32) (p4 : Int32) (M : MEM) (Q : MEM → Prop) : Prop := KD o = (14, 0) ∧ ((∀ M_1 : MEM, M_1 = uI M o 0 1 → ((∀ M_2 : MEM, M_2 = uI M_1 o 1 p1 → ((∀ M_3 : MEM, M_3 = uI M_2 o 2 p2 → ((∀ M_4 : MEM, M_4 = uI M_3 o 3 p3 → ((∀ M_5 : MEM, M_5 = uI M_4 o 4 p4 → ((∀ M_6 : MEM, M_6 = uI M_5 o 5 0 → (∃ m34 : Nat, wp_X4_begin_L34 o p2 Q m34 0 M_6)))))))))))))
set_option maxRecDepth 100000 in
set_option maxHeartbeats 4000000 in
theorem met_X4_begin {l : Launch} (hl : l.stackTraces = false) {E : MK} {o : Nat} {p1 : Int32} {p2 : Int32} {p3 : Int32} {p4 : Int32} {M : MEM} {Q : MEM → Prop} (hw : wp_X4_begin o p1 p2 p3 p4 M Q) : gMet l E yX4_begin rmX4_begin [gR E o, .int p1, .int p2, .int p3, .int p4] M (qV Q) gNo := by
  obtain ⟨hk0, hw⟩ := hw
  refine g_met hl (cc := cX4_begin) (maxL := 6) (ret := none) (hh := []) (loc := [(0, gR E o), (1, .int p1), (2, .int p2), (3, .int p3), (4, .int p4)]) (by decide +kernel) (Or.inl ⟨tw379, rfl⟩) (Nat.le_of_ble_eq_true rfl) rfl (fun K hK C => ?_)
  have C : GC K E cX4_begin RX4 6 none [] rmX4_begin := C
  refine g_aload_n C dX4_begin_0 0 rfl rfl ?_
  refine g_iconst C dX4_begin_1 (v := 1) rfl ?_
  refine pf_RX4_18 C hk0 gB1 dX4_begin_2 ?_
  refine g_nmM (fun M_1 eM_1 => ?_)
  have hw := hw M_1 eM_1
  refine g_aload_n C dX4_begin_5 0 rfl rfl ?_
  refine g_iload_n C dX4_begin_6 1 rfl rfl ?_
  refine pf_RX4_26 C hk0 dX4_begin_7 ?_
  refine g_nmM (fun M_2 eM_2 => ?_)
  have hw := hw M_2 eM_2
  refine g_aload_n C dX4_begin_10 0 rfl rfl ?_
  refine g_iload_n C dX4_begin_11 2 rfl rfl ?_
  refine pf_RX4_29 C hk0 dX4_begin_12 ?_
  refine g_nmM (fun M_3 eM_3 => ?_)
  have hw := hw M_3 eM_3
  refine g_aload_n C dX4_begin_15 0 rfl rfl ?_
  refine g_iload_n C dX4_begin_16 3 rfl rfl ?_
  refine pf_RX4_32 C hk0 dX4_begin_17 ?_
  refine g_nmM (fun M_4 eM_4 => ?_)
  have hw := hw M_4 eM_4
  refine g_aload_n C dX4_begin_20 0 rfl rfl ?_
  refine g_iload C (j := 0) dX4_begin_21 4 rfl ?_
  refine pf_RX4_35 C hk0 dX4_begin_23 ?_
  refine g_nmM (fun M_5 eM_5 => ?_)
  have hw := hw M_5 eM_5
  refine g_aload_n C dX4_begin_26 0 rfl rfl ?_
  refine g_iconst C dX4_begin_27 (v := 0) rfl ?_
  refine pf_RX4_22 C hk0 dX4_begin_28 ?_
  refine g_nmM (fun M_6 eM_6 => ?_)
  have hw := hw M_6 eM_6
  refine g_iconst C dX4_begin_31 (v := 0) rfl ?_
  refine g_istore C dX4_begin_32 (Nat.le_of_ble_eq_true rfl) (loc' := [(5, .int 0), (0, gR E o), (1, .int p1), (2, .int p2), (3, .int p3), (4, .int p4)]) rfl ?_
  obtain ⟨m34, hw⟩ := hw
  have hL34 : ∀ (n34 : Nat) (x5_7 : Int32) (M_8 : MEM), wp_X4_begin_L34 o p2 Q n34 x5_7 M_8 → GX K E 6 M_8 [(0, gR E o), (2, .int p2), (5, .int x5_7)] [] 34 0 0 (gEnd K E (qV Q) gNo rmX4_begin.cells rmX4_begin.slots) := by
    intro n34
    induction n34 with
    | zero => intro _ _ hw; exact False.elim hw
    | succ n34 ih34 =>
      intro x5_7 M_8 hw
      refine g_iload C (j := 0) dX4_begin_34 2 rfl ?_
      refine g_iconst C dX4_begin_36 (v := 4) rfl ?_
      refine g_icmp_ge C dX4_begin_37 (tgt := 54) (by decide) (fun c37 => ?_) (fun c37 => ?_)
      · have hw := hw.1 c37
        exact g_vret C dX4_begin_54 (Nat.le_of_ble_eq_true rfl) (Nat.le_of_ble_eq_true rfl) ⟨rfl, hw⟩
      · have hw := hw.2 c37
        refine g_aload_n C dX4_begin_40 0 rfl rfl ?_
        refine gf_RX4_9 C hk0 dX4_begin_41 ?_
        refine g_iload C (j := 0) dX4_begin_44 2 rfl ?_
        refine g_iload_n C dX4_begin_46 1 rfl rfl ?_
        obtain ⟨hk_9, hw⟩ := hw
        obtain ⟨hi_10, hw⟩ := hw
        refine g_iastore C hk_9 hi_10 dX4_begin_47 ?_
        refine g_nmM (fun M_11 eM_11 => ?_)
        have hw := hw M_11 eM_11
        obtain ⟨x5_12, ex5_12⟩ : ∃ y : Int32, y = x5_7 + 1 := ⟨_, rfl⟩
        have hw := hw x5_12 ex5_12
        refine g_iinc C (j := 0) dX4_begin_48 2 rfl (v := x5_12) (by rw [ex5_12]; rfl) (Nat.le_of_ble_eq_true rfl) (loc' := [(5, .int x5_12), (0, gR E o), (2, .int p2)]) rfl ?_
        refine g_goto C dX4_begin_51 (tgt := 34) (by decide) ?_
        refine g_sub [1, 2, 0] rfl ?_
        exact ih34 _ _ hw
  refine g_sub [1, 3, 0] rfl ?_
  exact hL34 m34 _ _ hw
theorem gc_X4_begin : ∀ rm : Room, rmX4_begin.frames + 1 ≤ rm.frames → 8 + (6 + 11) + rmX4_begin.locals ≤ rm.locals → gCall yX4_begin 6 4 rmX4_begin rm := fun rm a b => ⟨Or.inl ⟨_, _, tw379⟩, tw2, ⟨by decide, by decide⟩, by decide, a, b⟩
abbrev rmX4_removeFirst : Room := { frames := 1, cells := 0, slots := 0, locals := 18 }
def wp_X4_removeFirst (o : Nat) (M : MEM) (Q : MEM → Prop) : Prop := KD o = (14, 0) ∧ (((mI M o 5) < 1 → (Q M)) ∧ (¬ (mI M o 5) < 1 → (((mI M o 5) ≤ 60 → ((KD (RF o 7) = (0, 300) ∧ (¬ (5 : Int32) < 0 ∧ (¬ (0 : Int32) < 0 ∧ (¬ (((mI M o 5) - 1) * 5) < 0 ∧ ((5 : Int32).toNatClampNeg + (((mI M o 5) - 1) * 5).toNatClampNeg ≤ 300 ∧ ((0 : Int32).toNatClampNeg + (((mI M o 5) - 1) * 5).toNatClampNeg ≤ 300 ∧ (∀ M_7 : MEM, M_7 = uC M (RF o 7) (RF o 7) (5 : Int32).toNatClampNeg (0 : Int32).toNatClampNeg (((mI M o 5) - 1) * 5).toNatClampNeg → ((∀ M_8 : MEM, M_8 = uI M_7 o 5 ((mI M_7 o 5) - 1) → (Q M_8)))))))))))) ∧ (¬ (mI M o 5) ≤ 60 → (Q M)))))
set_option maxRecDepth 100000 in
set_option maxHeartbeats 4000000 in
theorem met_X4_removeFirst {l : Launch} (hl : l.stackTraces = false) {E : MK} {o : Nat} {M : MEM} {Q : MEM → Prop} (hw : wp_X4_removeFirst o M Q) : gMet l E yX4_removeFirst rmX4_removeFirst [gR E o] M (qV Q) gNo := by
  obtain ⟨hk0, hw⟩ := hw
  refine g_met hl (cc := cX4_removeFirst) (maxL := 1) (ret := none) (hh := []) (loc := [(0, gR E o)]) (by decide +kernel) (Or.inl ⟨tw439, rfl⟩) (Nat.le_of_ble_eq_true rfl) rfl (fun K hK C => ?_)
  have C : GC K E cX4_removeFirst RX4 1 none [] rmX4_removeFirst := C
  refine g_aload_n C dX4_removeFirst_0 0 rfl rfl ?_
  refine gf_RX4_22 C hk0 dX4_removeFirst_1 ?_
  refine g_iconst C dX4_removeFirst_4 (v := 1) rfl ?_
  refine g_icmp_lt C dX4_removeFirst_5 (tgt := 17) (by decide) (fun c5 => ?_) (fun c5 => ?_)
  · have hw := hw.1 c5
    exact g_vret C dX4_removeFirst_17 (Nat.le_of_ble_eq_true rfl) (Nat.le_of_ble_eq_true rfl) ⟨rfl, hw⟩
  · have hw := hw.2 c5
    refine g_aload_n C dX4_removeFirst_8 0 rfl rfl ?_
    refine gf_RX4_22 C hk0 dX4_removeFirst_9 ?_
    refine g_bipush C dX4_removeFirst_12 (v := 60) rfl ?_
    refine g_icmp_le C dX4_removeFirst_14 (tgt := 18) (by decide) (fun c14 => ?_) (fun c14 => ?_)
    · have hw := hw.1 c14
      refine g_aload_n C dX4_removeFirst_18 0 rfl rfl ?_
      refine gf_RX4_15 C hk0 dX4_removeFirst_19 ?_
      refine g_iconst C dX4_removeFirst_22 (v := 5) rfl ?_
      refine g_aload_n C dX4_removeFirst_23 0 rfl rfl ?_
      refine gf_RX4_15 C hk0 dX4_removeFirst_24 ?_
      refine g_iconst C dX4_removeFirst_27 (v := 0) rfl ?_
      refine g_aload_n C dX4_removeFirst_28 0 rfl rfl ?_
      refine gf_RX4_22 C hk0 dX4_removeFirst_29 ?_
      refine g_iconst C dX4_removeFirst_32 (v := 1) rfl ?_
      refine g_isub C dX4_removeFirst_33 ?_
      refine g_iconst C dX4_removeFirst_34 (v := 5) rfl ?_
      refine g_imul C dX4_removeFirst_35 ?_
      obtain ⟨hk_1, hw⟩ := hw
      obtain ⟨hq_2, hq_3, hq_4, hq_5, hq_6, hw⟩ := hw
      refine g_copy C dX4_removeFirst_36 tw216 tw218 tw217 tw16 hk_1 hk_1 hq_2 hq_3 hq_4 hq_5 hq_6 (Nat.le_of_ble_eq_true rfl) (Nat.le_of_ble_eq_true rfl) ?_
      refine g_nmM (fun M_7 eM_7 => ?_)
      have hw := hw M_7 eM_7
      refine g_aload_n C dX4_removeFirst_39 0 rfl rfl ?_
      refine g_dup C dX4_removeFirst_40 rfl ?_
      refine gf_RX4_22 C hk0 dX4_removeFirst_41 ?_
      refine g_iconst C dX4_removeFirst_44 (v := 1) rfl ?_
      refine g_isub C dX4_removeFirst_45 ?_
      refine pf_RX4_22 C hk0 dX4_removeFirst_46 ?_
      refine g_nmM (fun M_8 eM_8 => ?_)
      have hw := hw M_8 eM_8
      exact g_vret C dX4_removeFirst_49 (Nat.le_of_ble_eq_true rfl) (Nat.le_of_ble_eq_true rfl) ⟨rfl, hw⟩
    · have hw := hw.2 c14
      exact g_vret C dX4_removeFirst_17 (Nat.le_of_ble_eq_true rfl) (Nat.le_of_ble_eq_true rfl) ⟨rfl, hw⟩
theorem gc_X4_removeFirst : ∀ rm : Room, rmX4_removeFirst.frames + 1 ≤ rm.frames → 8 + (1 + 11) + rmX4_removeFirst.locals ≤ rm.locals → gCall yX4_removeFirst 1 0 rmX4_removeFirst rm := fun rm a b => ⟨Or.inl ⟨_, _, tw439⟩, tw2, ⟨by decide, by decide⟩, by decide, a, b⟩
abbrev rmX4_push : Room := { frames := 2, cells := 0, slots := 0, locals := 38 }
def wp_X4_push_J22 (o : Nat) (p1 : Int32) (p2 : Int32) (p3 : Int32) (p4 : Int32) (p5 : Int32) (Q : MEM → Prop) (M_1 : MEM) : Prop := ((mI M_1 o 5) < 0 → (Q M_1)) ∧ (¬ (mI M_1 o 5) < 0 → (((mI M_1 o 5) < 60 → (∀ x6_2 : Int32, x6_2 = (mI M_1 o 5) * 5 → ((KD (RF o 7) = (0, 300) ∧ (vp_in (x6_2 + 0) 300 ∧ (∀ M_5 : MEM, M_5 = uI M_1 (RF o 7) (x6_2 + 0).toNatClampNeg p1 → ((vp_in (x6_2 + 1) 300 ∧ (∀ M_7 : MEM, M_7 = uI M_5 (RF o 7) (x6_2 + 1).toNatClampNeg p2 → ((vp_in (x6_2 + 2) 300 ∧ (∀ M_9 : MEM, M_9 = uI M_7 (RF o 7) (x6_2 + 2).toNatClampNeg p3 → ((vp_in (x6_2 + 3) 300 ∧ (∀ M_11 : MEM, M_11 = uI M_9 (RF o 7) (x6_2 + 3).toNatClampNeg p4 → ((vp_in (x6_2 + 4) 300 ∧ (∀ M_13 : MEM, M_13 = uI M_11 (RF o 7) (x6_2 + 4).toNatClampNeg p5 → ((∀ M_14 : MEM, M_14 = uI M_13 o 5 ((mI M_13 o 5) + 1) → (Q M_14))))))))))))))))))))) ∧ (¬ (mI M_1 o 5) < 60 → (Q M_1))))
def wp_X4_push (o : Nat) (p1 : Int32) (p2 : Int32) (p3 : Int32) (p4 : Int32) (p5 : Int32) (M : MEM) (Q : MEM → Prop) : Prop := KD o = (14, 0) ∧ (((mI M o 4) = 0 → (wp_X4_push_J22 o p1 p2 p3 p4 p5 Q M)) ∧ (¬ (mI M o 4) = 0 → (((mI M o 5) < (mI M o 4) → (wp_X4_push_J22 o p1 p2 p3 p4 p5 Q M)) ∧ (¬ (mI M o 5) < (mI M o 4) → (wp_X4_removeFirst o M (fun M_16 => wp_X4_push_J22 o p1 p2 p3 p4 p5 Q M_16))))))
set_option maxRecDepth 100000 in
set_option maxHeartbeats 4000000 in
theorem met_X4_push {l : Launch} (hl : l.stackTraces = false) {E : MK} {o : Nat} {p1 : Int32} {p2 : Int32} {p3 : Int32} {p4 : Int32} {p5 : Int32} {M : MEM} {Q : MEM → Prop} (hw : wp_X4_push o p1 p2 p3 p4 p5 M Q) : gMet l E yX4_push rmX4_push [gR E o, .int p1, .int p2, .int p3, .int p4, .int p5] M (qV Q) gNo := by
  obtain ⟨hk0, hw⟩ := hw
  refine g_met hl (cc := cX4_push) (maxL := 7) (ret := none) (hh := []) (loc := [(0, gR E o), (1, .int p1), (2, .int p2), (3, .int p3), (4, .int p4), (5, .int p5)]) (by decide +kernel) (Or.inl ⟨tw435, rfl⟩) (Nat.le_of_ble_eq_true rfl) rfl (fun K hK C => ?_)
  have C : GC K E cX4_push RX4 7 none [] rmX4_push := C
  refine g_aload_n C dX4_push_0 0 rfl rfl ?_
  refine gf_RX4_35 C hk0 dX4_push_1 ?_
  have hJ22 : ∀ (M_1 : MEM), wp_X4_push_J22 o p1 p2 p3 p4 p5 Q M_1 → GX K E 7 M_1 [(0, gR E o), (1, .int p1), (2, .int p2), (3, .int p3), (4, .int p4), (5, .int p5)] [] 22 0 0 (gEnd K E (qV Q) gNo rmX4_push.cells rmX4_push.slots) := by
    intro M_1 hw
    refine g_aload_n C dX4_push_22 0 rfl rfl ?_
    refine gf_RX4_22 C hk0 dX4_push_23 ?_
    refine g_if_lt C dX4_push_26 (tgt := 38) (by decide) (fun c26 => ?_) (fun c26 => ?_)
    · have hw := hw.1 c26
      exact g_vret C dX4_push_38 (Nat.le_of_ble_eq_true rfl) (Nat.le_of_ble_eq_true rfl) ⟨rfl, hw⟩
    · have hw := hw.2 c26
      refine g_aload_n C dX4_push_29 0 rfl rfl ?_
      refine gf_RX4_22 C hk0 dX4_push_30 ?_
      refine g_bipush C dX4_push_33 (v := 60) rfl ?_
      refine g_icmp_lt C dX4_push_35 (tgt := 39) (by decide) (fun c35 => ?_) (fun c35 => ?_)
      · have hw := hw.1 c35
        refine g_aload_n C dX4_push_39 0 rfl rfl ?_
        refine gf_RX4_22 C hk0 dX4_push_40 ?_
        refine g_iconst C dX4_push_43 (v := 5) rfl ?_
        refine g_imul C dX4_push_44 ?_
        refine g_nmI (fun x6_2 ex6_2 => ?_)
        have hw := hw x6_2 ex6_2
        refine g_istore C dX4_push_45 (Nat.le_of_ble_eq_true rfl) (loc' := [(6, .int x6_2), (0, gR E o), (1, .int p1), (2, .int p2), (3, .int p3), (4, .int p4), (5, .int p5)]) rfl ?_
        refine g_aload_n C dX4_push_47 1 rfl rfl ?_
        refine gf_RX4_15 C hk0 dX4_push_48 ?_
        refine g_iload C (j := 0) dX4_push_51 0 rfl ?_
        refine g_iconst C dX4_push_53 (v := 0) rfl ?_
        refine g_iadd C dX4_push_54 ?_
        refine g_iload_n C dX4_push_55 2 rfl rfl ?_
        obtain ⟨hk_3, hw⟩ := hw
        obtain ⟨hi_4, hw⟩ := hw
        refine g_iastore C hk_3 hi_4 dX4_push_56 ?_
        refine g_nmM (fun M_5 eM_5 => ?_)
        have hw := hw M_5 eM_5
        refine g_aload_n C dX4_push_57 1 rfl rfl ?_
        refine gf_RX4_15 C hk0 dX4_push_58 ?_
        refine g_iload C (j := 0) dX4_push_61 0 rfl ?_
        refine g_iconst C dX4_push_63 (v := 1) rfl ?_
        refine g_iadd C dX4_push_64 ?_
        refine g_iload_n C dX4_push_65 3 rfl rfl ?_
        obtain ⟨hi_6, hw⟩ := hw
        refine g_iastore C hk_3 hi_6 dX4_push_66 ?_
        refine g_nmM (fun M_7 eM_7 => ?_)
        have hw := hw M_7 eM_7
        refine g_aload_n C dX4_push_67 1 rfl rfl ?_
        refine gf_RX4_15 C hk0 dX4_push_68 ?_
        refine g_iload C (j := 0) dX4_push_71 0 rfl ?_
        refine g_iconst C dX4_push_73 (v := 2) rfl ?_
        refine g_iadd C dX4_push_74 ?_
        refine g_iload_n C dX4_push_75 4 rfl rfl ?_
        obtain ⟨hi_8, hw⟩ := hw
        refine g_iastore C hk_3 hi_8 dX4_push_76 ?_
        refine g_nmM (fun M_9 eM_9 => ?_)
        have hw := hw M_9 eM_9
        refine g_aload_n C dX4_push_77 1 rfl rfl ?_
        refine gf_RX4_15 C hk0 dX4_push_78 ?_
        refine g_iload C (j := 0) dX4_push_81 0 rfl ?_
        refine g_iconst C dX4_push_83 (v := 3) rfl ?_
        refine g_iadd C dX4_push_84 ?_
        refine g_iload C (j := 0) dX4_push_85 5 rfl ?_
        obtain ⟨hi_10, hw⟩ := hw
        refine g_iastore C hk_3 hi_10 dX4_push_87 ?_
        refine g_nmM (fun M_11 eM_11 => ?_)
        have hw := hw M_11 eM_11
        refine g_aload_n C dX4_push_88 1 rfl rfl ?_
        refine gf_RX4_15 C hk0 dX4_push_89 ?_
        refine g_iload C (j := 0) dX4_push_92 0 rfl ?_
        refine g_iconst C dX4_push_94 (v := 4) rfl ?_
        refine g_iadd C dX4_push_95 ?_
        refine g_iload C (j := 0) dX4_push_96 6 rfl ?_
        obtain ⟨hi_12, hw⟩ := hw
        refine g_iastore C hk_3 hi_12 dX4_push_98 ?_
        refine g_nmM (fun M_13 eM_13 => ?_)
        have hw := hw M_13 eM_13
        refine g_aload_n C dX4_push_99 1 rfl rfl ?_
        refine g_dup C dX4_push_100 rfl ?_
        refine gf_RX4_22 C hk0 dX4_push_101 ?_
        refine g_iconst C dX4_push_104 (v := 1) rfl ?_
        refine g_iadd C dX4_push_105 ?_
        refine pf_RX4_22 C hk0 dX4_push_106 ?_
        refine g_nmM (fun M_14 eM_14 => ?_)
        have hw := hw M_14 eM_14
        exact g_vret C dX4_push_109 (Nat.le_of_ble_eq_true rfl) (Nat.le_of_ble_eq_true rfl) ⟨rfl, hw⟩
      · have hw := hw.2 c35
        exact g_vret C dX4_push_38 (Nat.le_of_ble_eq_true rfl) (Nat.le_of_ble_eq_true rfl) ⟨rfl, hw⟩
  refine g_if_eq C dX4_push_4 (tgt := 22) (by decide) (fun c4 => ?_) (fun c4 => ?_)
  · have hw := hw.1 c4
    exact hJ22 _ hw
  · have hw := hw.2 c4
    refine g_aload_n C dX4_push_7 0 rfl rfl ?_
    refine gf_RX4_22 C hk0 dX4_push_8 ?_
    refine g_aload_n C dX4_push_11 0 rfl rfl ?_
    refine gf_RX4_35 C hk0 dX4_push_12 ?_
    refine g_icmp_lt C dX4_push_15 (tgt := 22) (by decide) (fun c15 => ?_) (fun c15 => ?_)
    · have hw := hw.1 c15
      exact hJ22 _ hw
    · have hw := hw.2 c15
      refine g_aload_n C dX4_push_18 0 rfl rfl ?_
      refine g_cV C dX4_push_19 (met_X4_removeFirst C.st hw) (gc_X4_removeFirst _ (Nat.le_of_ble_eq_true rfl) (Nat.le_of_ble_eq_true rfl)) tw436 tw438 twp5 (ci := 4) rfl (by decide) hk0 rfl (Nat.le_of_ble_eq_true rfl) (c2 := 0) (s2 := 0) rfl rfl (Nat.le_of_ble_eq_true rfl) (Nat.le_of_ble_eq_true rfl) rfl (kV (fun M_16 hw => ?_)) tNo
      exact hJ22 _ hw
theorem gc_X4_push : ∀ rm : Room, rmX4_push.frames + 1 ≤ rm.frames → 8 + (7 + 11) + rmX4_push.locals ≤ rm.locals → gCall yX4_push 7 5 rmX4_push rm := fun rm a b => ⟨Or.inl ⟨_, _, tw435⟩, tw2, ⟨by decide, by decide⟩, by decide, a, b⟩
abbrev rmX2_fill : Room := { frames := 3, cells := 0, slots := 0, locals := 64 }
def wp_X2_fill_L30 (o : Nat) (p1 : Nat) (Q : MEM → Prop) : Nat → Int32 → MEM → Prop
  | 0, _, _ => False
  | n30 + 1, x2_12, M_13 => wp_X2_items o M_13 (fun r_14 => (r_14 ≤ x2_12 → (Q M_13)) ∧ (¬ r_14 ≤ x2_12 → (wp_X2_partAt o x2_12 0 M_13 (fun r_16 => wp_X2_partAt o x2_12 1 M_13 (fun r_18 => wp_X2_partAt o x2_12 2 M_13 (fun r_20 => wp_X2_partAt o x2_12 3 M_13 (fun r_22 => wp_X2_partAt o x2_12 4 M_13 (fun r_24 => wp_X4_push p1 r_16.toInt32 r_18.toInt32 r_20.toInt32 r_22.toInt32 r_24.toInt32 M_13 (fun M_27 => ∀ x2_28 : Int32, x2_28 = x2_12 + 1 → ((wp_X2_fill_L30 o p1 Q n30) x2_28 M_27))))))))))
def wp_X2_fill (o : Nat) (p1 : Nat) (M : MEM) (Q : MEM → Prop) : Prop := KD o = (12, 0) ∧ (wp_X2_numberAt o 0 M (fun r_1 => wp_X2_numberAt o 1 M (fun r_3 => wp_X2_numberAt o 2 M (fun r_5 => wp_X2_numberAt o 3 M (fun r_7 => KD p1 = (14, 0) ∧ wp_X4_begin p1 r_1.toInt32 r_3.toInt32 r_5.toInt32 r_7.toInt32 M (fun M_10 => ∃ m30 : Nat, wp_X2_fill_L30 o p1 Q m30 0 M_10))))))
set_option maxRecDepth 100000 in
set_option maxHeartbeats 4000000 in
theorem met_X2_fill {l : Launch} (hl : l.stackTraces = false) {E : MK} {o : Nat} {p1 : Nat} {M : MEM} {Q : MEM → Prop} (hw : wp_X2_fill o p1 M Q) : gMet l E yX2_fill rmX2_fill [gR E o, gR E p1] M (qV Q) gNo := by
  obtain ⟨hk0, hw⟩ := hw
  refine g_met hl (cc := cX2_fill) (maxL := 3) (ret := none) (hh := []) (loc := [(0, gR E o), (1, gR E p1)]) (by decide +kernel) (Or.inl ⟨tw950, rfl⟩) (Nat.le_of_ble_eq_true rfl) rfl (fun K hK C => ?_)
  have C : GC K E cX2_fill RX2 3 none [] rmX2_fill := C
  refine g_aload_n C dX2_fill_0 1 rfl rfl ?_
  refine g_aload_n C dX2_fill_1 0 rfl rfl ?_
  refine g_iconst C dX2_fill_2 (v := 0) rfl ?_
  refine g_cV C dX2_fill_3 (met_X2_numberAt C.st hw) (gc_X2_numberAt _ (Nat.le_of_ble_eq_true rfl) (Nat.le_of_ble_eq_true rfl)) tw923 tw925 twp25 (ci := 2) rfl (by decide) hk0 rfl (Nat.le_of_ble_eq_true rfl) (c2 := 0) (s2 := 0) rfl rfl (Nat.le_of_ble_eq_true rfl) (Nat.le_of_ble_eq_true rfl) rfl (kLp (fun r_1 hw => ?_)) tNo
  refine g_l2i C dX2_fill_6 ?_
  refine g_aload_n C dX2_fill_7 0 rfl rfl ?_
  refine g_iconst C dX2_fill_8 (v := 1) rfl ?_
  refine g_cV C dX2_fill_9 (met_X2_numberAt C.st hw) (gc_X2_numberAt _ (Nat.le_of_ble_eq_true rfl) (Nat.le_of_ble_eq_true rfl)) tw923 tw925 twp25 (ci := 2) rfl (by decide) hk0 rfl (Nat.le_of_ble_eq_true rfl) (c2 := 0) (s2 := 0) rfl rfl (Nat.le_of_ble_eq_true rfl) (Nat.le_of_ble_eq_true rfl) rfl (kLp (fun r_3 hw => ?_)) tNo
  refine g_l2i C dX2_fill_12 ?_
  refine g_aload_n C dX2_fill_13 0 rfl rfl ?_
  refine g_iconst C dX2_fill_14 (v := 2) rfl ?_
  refine g_cV C dX2_fill_15 (met_X2_numberAt C.st hw) (gc_X2_numberAt _ (Nat.le_of_ble_eq_true rfl) (Nat.le_of_ble_eq_true rfl)) tw923 tw925 twp25 (ci := 2) rfl (by decide) hk0 rfl (Nat.le_of_ble_eq_true rfl) (c2 := 0) (s2 := 0) rfl rfl (Nat.le_of_ble_eq_true rfl) (Nat.le_of_ble_eq_true rfl) rfl (kLp (fun r_5 hw => ?_)) tNo
  refine g_l2i C dX2_fill_18 ?_
  refine g_aload_n C dX2_fill_19 0 rfl rfl ?_
  refine g_iconst C dX2_fill_20 (v := 3) rfl ?_
  refine g_cV C dX2_fill_21 (met_X2_numberAt C.st hw) (gc_X2_numberAt _ (Nat.le_of_ble_eq_true rfl) (Nat.le_of_ble_eq_true rfl)) tw923 tw925 twp25 (ci := 2) rfl (by decide) hk0 rfl (Nat.le_of_ble_eq_true rfl) (c2 := 0) (s2 := 0) rfl rfl (Nat.le_of_ble_eq_true rfl) (Nat.le_of_ble_eq_true rfl) rfl (kLp (fun r_7 hw => ?_)) tNo
  refine g_l2i C dX2_fill_24 ?_
  obtain ⟨hk_11, hw⟩ := hw
  refine g_cV C dX2_fill_25 (met_X4_begin C.st hw) (gc_X4_begin _ (Nat.le_of_ble_eq_true rfl) (Nat.le_of_ble_eq_true rfl)) tw951 tw377 tw378 (ci := 4) rfl (by decide) hk_11 rfl (Nat.le_of_ble_eq_true rfl) (c2 := 0) (s2 := 0) rfl rfl (Nat.le_of_ble_eq_true rfl) (Nat.le_of_ble_eq_true rfl) rfl (kV (fun M_10 hw => ?_)) tNo
  refine g_iconst C dX2_fill_28 (v := 0) rfl ?_
  refine g_istore_n C dX2_fill_29 rfl (Nat.le_of_ble_eq_true rfl) (loc' := [(2, .int 0), (0, gR E o), (1, gR E p1)]) rfl ?_
  obtain ⟨m30, hw⟩ := hw
  have hL30 : ∀ (n30 : Nat) (x2_12 : Int32) (M_13 : MEM), wp_X2_fill_L30 o p1 Q n30 x2_12 M_13 → GX K E 3 M_13 [(0, gR E o), (1, gR E p1), (2, .int x2_12)] [] 30 0 0 (gEnd K E (qV Q) gNo rmX2_fill.cells rmX2_fill.slots) := by
    intro n30
    induction n30 with
    | zero => intro _ _ hw; exact False.elim hw
    | succ n30 ih30 =>
      intro x2_12 M_13 hw
      refine g_iload_n C dX2_fill_30 2 rfl rfl ?_
      refine g_aload_n C dX2_fill_31 0 rfl rfl ?_
      refine g_cV C dX2_fill_32 (met_X2_items C.st hw) (gc_X2_items _ (Nat.le_of_ble_eq_true rfl) (Nat.le_of_ble_eq_true rfl)) tw931 tw933 twp26 (ci := 2) rfl (by decide) hk0 rfl (Nat.le_of_ble_eq_true rfl) (c2 := 0) (s2 := 0) rfl rfl (Nat.le_of_ble_eq_true rfl) (Nat.le_of_ble_eq_true rfl) rfl (kIp (fun r_14 hw => ?_)) tNo
      refine g_icmp_ge C dX2_fill_35 (tgt := 83) (by decide) (fun c35 => ?_) (fun c35 => ?_)
      · have hw := hw.1 c35
        exact g_vret C dX2_fill_83 (Nat.le_of_ble_eq_true rfl) (Nat.le_of_ble_eq_true rfl) ⟨rfl, hw⟩
      · have hw := hw.2 c35
        refine g_aload_n C dX2_fill_38 1 rfl rfl ?_
        refine g_aload_n C dX2_fill_39 0 rfl rfl ?_
        refine g_iload_n C dX2_fill_40 2 rfl rfl ?_
        refine g_iconst C dX2_fill_41 (v := 0) rfl ?_
        refine g_cV C dX2_fill_42 (met_X2_partAt C.st hw) (gc_X2_partAt _ (Nat.le_of_ble_eq_true rfl) (Nat.le_of_ble_eq_true rfl)) tw935 tw937 twp27 (ci := 2) rfl (by decide) hk0 rfl (Nat.le_of_ble_eq_true rfl) (c2 := 0) (s2 := 0) rfl rfl (Nat.le_of_ble_eq_true rfl) (Nat.le_of_ble_eq_true rfl) rfl (kLp (fun r_16 hw => ?_)) tNo
        refine g_l2i C dX2_fill_45 ?_
        refine g_aload_n C dX2_fill_46 0 rfl rfl ?_
        refine g_iload_n C dX2_fill_47 2 rfl rfl ?_
        refine g_iconst C dX2_fill_48 (v := 1) rfl ?_
        refine g_cV C dX2_fill_49 (met_X2_partAt C.st hw) (gc_X2_partAt _ (Nat.le_of_ble_eq_true rfl) (Nat.le_of_ble_eq_true rfl)) tw935 tw937 twp27 (ci := 2) rfl (by decide) hk0 rfl (Nat.le_of_ble_eq_true rfl) (c2 := 0) (s2 := 0) rfl rfl (Nat.le_of_ble_eq_true rfl) (Nat.le_of_ble_eq_true rfl) rfl (kLp (fun r_18 hw => ?_)) tNo
        refine g_l2i C dX2_fill_52 ?_
        refine g_aload_n C dX2_fill_53 0 rfl rfl ?_
        refine g_iload_n C dX2_fill_54 2 rfl rfl ?_
        refine g_iconst C dX2_fill_55 (v := 2) rfl ?_
        refine g_cV C dX2_fill_56 (met_X2_partAt C.st hw) (gc_X2_partAt _ (Nat.le_of_ble_eq_true rfl) (Nat.le_of_ble_eq_true rfl)) tw935 tw937 twp27 (ci := 2) rfl (by decide) hk0 rfl (Nat.le_of_ble_eq_true rfl) (c2 := 0) (s2 := 0) rfl rfl (Nat.le_of_ble_eq_true rfl) (Nat.le_of_ble_eq_true rfl) rfl (kLp (fun r_20 hw => ?_)) tNo
        refine g_l2i C dX2_fill_59 ?_
        refine g_aload_n C dX2_fill_60 0 rfl rfl ?_
        refine g_iload_n C dX2_fill_61 2 rfl rfl ?_
        refine g_iconst C dX2_fill_62 (v := 3) rfl ?_
        refine g_cV C dX2_fill_63 (met_X2_partAt C.st hw) (gc_X2_partAt _ (Nat.le_of_ble_eq_true rfl) (Nat.le_of_ble_eq_true rfl)) tw935 tw937 twp27 (ci := 2) rfl (by decide) hk0 rfl (Nat.le_of_ble_eq_true rfl) (c2 := 0) (s2 := 0) rfl rfl (Nat.le_of_ble_eq_true rfl) (Nat.le_of_ble_eq_true rfl) rfl (kLp (fun r_22 hw => ?_)) tNo
        refine g_l2i C dX2_fill_66 ?_
        refine g_aload_n C dX2_fill_67 0 rfl rfl ?_
        refine g_iload_n C dX2_fill_68 2 rfl rfl ?_
        refine g_iconst C dX2_fill_69 (v := 4) rfl ?_
        refine g_cV C dX2_fill_70 (met_X2_partAt C.st hw) (gc_X2_partAt _ (Nat.le_of_ble_eq_true rfl) (Nat.le_of_ble_eq_true rfl)) tw935 tw937 twp27 (ci := 2) rfl (by decide) hk0 rfl (Nat.le_of_ble_eq_true rfl) (c2 := 0) (s2 := 0) rfl rfl (Nat.le_of_ble_eq_true rfl) (Nat.le_of_ble_eq_true rfl) rfl (kLp (fun r_24 hw => ?_)) tNo
        refine g_l2i C dX2_fill_73 ?_
        refine g_cV C dX2_fill_74 (met_X4_push C.st hw) (gc_X4_push _ (Nat.le_of_ble_eq_true rfl) (Nat.le_of_ble_eq_true rfl)) tw952 tw433 tw434 (ci := 4) rfl (by decide) hk_11 rfl (Nat.le_of_ble_eq_true rfl) (c2 := 0) (s2 := 0) rfl rfl (Nat.le_of_ble_eq_true rfl) (Nat.le_of_ble_eq_true rfl) rfl (kV (fun M_27 hw => ?_)) tNo
        obtain ⟨x2_28, ex2_28⟩ : ∃ y : Int32, y = x2_12 + 1 := ⟨_, rfl⟩
        have hw := hw x2_28 ex2_28
        refine g_iinc C (j := 0) dX2_fill_77 2 rfl (v := x2_28) (by rw [ex2_28]; rfl) (Nat.le_of_ble_eq_true rfl) (loc' := [(2, .int x2_28), (0, gR E o), (1, gR E p1)]) rfl ?_
        refine g_goto C dX2_fill_80 (tgt := 30) (by decide) ?_
        refine g_sub [1, 2, 0] rfl ?_
        exact ih30 _ _ hw
  refine g_sub [1, 2, 0] rfl ?_
  exact hL30 m30 _ _ hw
theorem gc_X2_fill : ∀ rm : Room, rmX2_fill.frames + 1 ≤ rm.frames → 8 + (3 + 11) + rmX2_fill.locals ≤ rm.locals → gCall yX2_fill 3 1 rmX2_fill rm := fun rm a b => ⟨Or.inl ⟨_, _, tw950⟩, tw7, ⟨by decide, by decide⟩, by decide, a, b⟩
abbrev rmX3_size : Room := { frames := 0, cells := 0, slots := 0, locals := 0 }
def wp_X3_size (o : Nat) (M : MEM) (Q : Int32 → Prop) : Prop := KD o = (13, 0) ∧ (Q (mI M o 2))
set_option maxRecDepth 100000 in
set_option maxHeartbeats 4000000 in
theorem met_X3_size {l : Launch} (hl : l.stackTraces = false) {E : MK} {o : Nat} {M : MEM} {Q : Int32 → Prop} (hw : wp_X3_size o M Q) : gMet l E yX3_size rmX3_size [gR E o] M (qIp M Q) gNo := by
  obtain ⟨hk0, hw⟩ := hw
  refine g_met hl (cc := cX3_size) (maxL := 1) (ret := (some .int)) (hh := []) (loc := [(0, gR E o)]) (by decide +kernel) (Or.inl ⟨tw525, rfl⟩) (Nat.le_of_ble_eq_true rfl) rfl (fun K hK C => ?_)
  have C : GC K E cX3_size RX3 1 (some .int) [] rmX3_size := C
  refine g_aload_n C dX3_size_0 0 rfl rfl ?_
  refine gf_RX3_38 C hk0 dX3_size_1 ?_
  exact g_iret C dX3_size_4 (Nat.le_of_ble_eq_true rfl) (Nat.le_of_ble_eq_true rfl) ⟨_, rfl, rfl, hw⟩
theorem gc_X3_size : ∀ rm : Room, rmX3_size.frames + 1 ≤ rm.frames → 8 + (1 + 11) + rmX3_size.locals ≤ rm.locals → gCall yX3_size 1 0 rmX3_size rm := fun rm a b => ⟨Or.inl ⟨_, _, tw525⟩, tw4, ⟨by decide, by decide⟩, by decide, a, b⟩
abbrev rmX3_isComplete : Room := { frames := 0, cells := 0, slots := 0, locals := 0 }
def wp_X3_isComplete (o : Nat) (M : MEM) (Q : Int32 → Prop) : Prop := KD o = (13, 0) ∧ ((¬ (mI M o 2) = (mI M o 1) → (Q 0)) ∧ ((mI M o 2) = (mI M o 1) → (Q 1)))
set_option maxRecDepth 100000 in
set_option maxHeartbeats 4000000 in
theorem met_X3_isComplete {l : Launch} (hl : l.stackTraces = false) {E : MK} {o : Nat} {M : MEM} {Q : Int32 → Prop} (hw : wp_X3_isComplete o M Q) : gMet l E yX3_isComplete rmX3_isComplete [gR E o] M (qIp M Q) gNo := by
  obtain ⟨hk0, hw⟩ := hw
  refine g_met hl (cc := cX3_isComplete) (maxL := 1) (ret := (some .boolean)) (hh := []) (loc := [(0, gR E o)]) (by decide +kernel) (Or.inl ⟨tw529, rfl⟩) (Nat.le_of_ble_eq_true rfl) rfl (fun K hK C => ?_)
  have C : GC K E cX3_isComplete RX3 1 (some .boolean) [] rmX3_isComplete := C
  refine g_aload_n C dX3_isComplete_0 0 rfl rfl ?_
  refine gf_RX3_38 C hk0 dX3_isComplete_1 ?_
  refine g_aload_n C dX3_isComplete_4 0 rfl rfl ?_
  refine gf_RX3_42 C hk0 dX3_isComplete_5 ?_
  refine g_icmp_ne C dX3_isComplete_8 (tgt := 15) (by decide) (fun c8 => ?_) (fun c8 => ?_)
  · have hw := hw.1 c8
    refine g_iconst C dX3_isComplete_15 (v := 0) rfl ?_
    exact g_zret C dX3_isComplete_16 gB0.1 (Nat.le_of_ble_eq_true rfl) (Nat.le_of_ble_eq_true rfl) ⟨_, rfl, rfl, hw⟩
  · have hw := hw.2 c8
    refine g_iconst C dX3_isComplete_11 (v := 1) rfl ?_
    refine g_goto C dX3_isComplete_12 (tgt := 16) (by decide) ?_
    exact g_zret C dX3_isComplete_16 gB1.1 (Nat.le_of_ble_eq_true rfl) (Nat.le_of_ble_eq_true rfl) ⟨_, rfl, rfl, hw⟩
theorem gc_X3_isComplete : ∀ rm : Room, rmX3_isComplete.frames + 1 ≤ rm.frames → 8 + (1 + 11) + rmX3_isComplete.locals ≤ rm.locals → gCall yX3_isComplete 1 0 rmX3_isComplete rm := fun rm a b => ⟨Or.inl ⟨_, _, tw529⟩, tw4, ⟨by decide, by decide⟩, by decide, a, b⟩
abbrev rmX3_candidateAt : Room := { frames := 0, cells := 0, slots := 0, locals := 0 }
def wp_X3_candidateAt (o : Nat) (p1 : Int32) (M : MEM) (Q : Int32 → Prop) : Prop := KD o = (13, 0) ∧ ((p1 < 0 → (Q 0)) ∧ (¬ p1 < 0 → (((mI M o 1) ≤ p1 → (Q 0)) ∧ (¬ (mI M o 1) ≤ p1 → ((p1 < 60 → (KD (RF o 4) = (0, 60) ∧ vp_in p1 60 ∧ (Q (mI M (RF o 4) p1.toNatClampNeg)))) ∧ (¬ p1 < 60 → (Q 0)))))))
set_option maxRecDepth 100000 in
set_option maxHeartbeats 4000000 in
theorem met_X3_candidateAt {l : Launch} (hl : l.stackTraces = false) {E : MK} {o : Nat} {p1 : Int32} {M : MEM} {Q : Int32 → Prop} (hw : wp_X3_candidateAt o p1 M Q) : gMet l E yX3_candidateAt rmX3_candidateAt [gR E o, .int p1] M (qIp M Q) gNo := by
  obtain ⟨hk0, hw⟩ := hw
  refine g_met hl (cc := cX3_candidateAt) (maxL := 2) (ret := (some .int)) (hh := []) (loc := [(0, gR E o), (1, .int p1)]) (by decide +kernel) (Or.inl ⟨tw509, rfl⟩) (Nat.le_of_ble_eq_true rfl) rfl (fun K hK C => ?_)
  have C : GC K E cX3_candidateAt RX3 2 (some .int) [] rmX3_candidateAt := C
  refine g_iload_n C dX3_candidateAt_0 1 rfl rfl ?_
  refine g_if_lt C dX3_candidateAt_1 (tgt := 18) (by decide) (fun c1 => ?_) (fun c1 => ?_)
  · have hw := hw.1 c1
    refine g_iconst C dX3_candidateAt_18 (v := 0) rfl ?_
    refine g_goto C dX3_candidateAt_19 (tgt := 28) (by decide) ?_
    exact g_iret C dX3_candidateAt_28 (Nat.le_of_ble_eq_true rfl) (Nat.le_of_ble_eq_true rfl) ⟨_, rfl, rfl, hw⟩
  · have hw := hw.2 c1
    refine g_iload_n C dX3_candidateAt_4 1 rfl rfl ?_
    refine g_aload_n C dX3_candidateAt_5 0 rfl rfl ?_
    refine gf_RX3_42 C hk0 dX3_candidateAt_6 ?_
    refine g_icmp_ge C dX3_candidateAt_9 (tgt := 18) (by decide) (fun c9 => ?_) (fun c9 => ?_)
    · have hw := hw.1 c9
      refine g_iconst C dX3_candidateAt_18 (v := 0) rfl ?_
      refine g_goto C dX3_candidateAt_19 (tgt := 28) (by decide) ?_
      exact g_iret C dX3_candidateAt_28 (Nat.le_of_ble_eq_true rfl) (Nat.le_of_ble_eq_true rfl) ⟨_, rfl, rfl, hw⟩
    · have hw := hw.2 c9
      refine g_iload_n C dX3_candidateAt_12 1 rfl rfl ?_
      refine g_bipush C dX3_candidateAt_13 (v := 60) rfl ?_
      refine g_icmp_lt C dX3_candidateAt_15 (tgt := 22) (by decide) (fun c15 => ?_) (fun c15 => ?_)
      · have hw := hw.1 c15
        refine g_aload_n C dX3_candidateAt_22 0 rfl rfl ?_
        refine gf_RX3_22 C hk0 dX3_candidateAt_23 ?_
        refine g_iload_n C dX3_candidateAt_26 1 rfl rfl ?_
        obtain ⟨hk_1, hw⟩ := hw
        obtain ⟨hi_2, hw⟩ := hw
        refine g_iaload C hk_1 hi_2 dX3_candidateAt_27 ?_
        exact g_iret C dX3_candidateAt_28 (Nat.le_of_ble_eq_true rfl) (Nat.le_of_ble_eq_true rfl) ⟨_, rfl, rfl, hw⟩
      · have hw := hw.2 c15
        refine g_iconst C dX3_candidateAt_18 (v := 0) rfl ?_
        refine g_goto C dX3_candidateAt_19 (tgt := 28) (by decide) ?_
        exact g_iret C dX3_candidateAt_28 (Nat.le_of_ble_eq_true rfl) (Nat.le_of_ble_eq_true rfl) ⟨_, rfl, rfl, hw⟩
theorem gc_X3_candidateAt : ∀ rm : Room, rmX3_candidateAt.frames + 1 ≤ rm.frames → 8 + (2 + 11) + rmX3_candidateAt.locals ≤ rm.locals → gCall yX3_candidateAt 2 1 rmX3_candidateAt rm := fun rm a b => ⟨Or.inl ⟨_, _, tw509⟩, tw4, ⟨by decide, by decide⟩, by decide, a, b⟩
abbrev rmX4_partAt : Room := { frames := 0, cells := 0, slots := 0, locals := 0 }
def wp_X4_partAt (o : Nat) (p1 : Int32) (p2 : Int32) (M : MEM) (Q : Int32 → Prop) : Prop := KD o = (14, 0) ∧ ((p1 < 0 → (Q 0)) ∧ (¬ p1 < 0 → (((mI M o 5) ≤ p1 → (Q 0)) ∧ (¬ (mI M o 5) ≤ p1 → ((60 ≤ p1 → (Q 0)) ∧ (¬ 60 ≤ p1 → ((p2 < 0 → (Q 0)) ∧ (¬ p2 < 0 → ((p2 < 5 → (KD (RF o 7) = (0, 300) ∧ vp_in ((p1 * 5) + p2) 300 ∧ (Q (mI M (RF o 7) ((p1 * 5) + p2).toNatClampNeg)))) ∧ (¬ p2 < 5 → (Q 0)))))))))))
set_option maxRecDepth 100000 in
set_option maxHeartbeats 4000000 in
theorem met_X4_partAt {l : Launch} (hl : l.stackTraces = false) {E : MK} {o : Nat} {p1 : Int32} {p2 : Int32} {M : MEM} {Q : Int32 → Prop} (hw : wp_X4_partAt o p1 p2 M Q) : gMet l E yX4_partAt rmX4_partAt [gR E o, .int p1, .int p2] M (qIp M Q) gNo := by
  obtain ⟨hk0, hw⟩ := hw
  refine g_met hl (cc := cX4_partAt) (maxL := 3) (ret := (some .int)) (hh := []) (loc := [(0, gR E o), (1, .int p1), (2, .int p2)]) (by decide +kernel) (Or.inl ⟨tw477, rfl⟩) (Nat.le_of_ble_eq_true rfl) rfl (fun K hK C => ?_)
  have C : GC K E cX4_partAt RX4 3 (some .int) [] rmX4_partAt := C
  refine g_iload_n C dX4_partAt_0 1 rfl rfl ?_
  refine g_if_lt C dX4_partAt_1 (tgt := 27) (by decide) (fun c1 => ?_) (fun c1 => ?_)
  · have hw := hw.1 c1
    refine g_iconst C dX4_partAt_27 (v := 0) rfl ?_
    exact g_iret C dX4_partAt_28 (Nat.le_of_ble_eq_true rfl) (Nat.le_of_ble_eq_true rfl) ⟨_, rfl, rfl, hw⟩
  · have hw := hw.2 c1
    refine g_iload_n C dX4_partAt_4 1 rfl rfl ?_
    refine g_aload_n C dX4_partAt_5 0 rfl rfl ?_
    refine gf_RX4_22 C hk0 dX4_partAt_6 ?_
    refine g_icmp_ge C dX4_partAt_9 (tgt := 27) (by decide) (fun c9 => ?_) (fun c9 => ?_)
    · have hw := hw.1 c9
      refine g_iconst C dX4_partAt_27 (v := 0) rfl ?_
      exact g_iret C dX4_partAt_28 (Nat.le_of_ble_eq_true rfl) (Nat.le_of_ble_eq_true rfl) ⟨_, rfl, rfl, hw⟩
    · have hw := hw.2 c9
      refine g_iload_n C dX4_partAt_12 1 rfl rfl ?_
      refine g_bipush C dX4_partAt_13 (v := 60) rfl ?_
      refine g_icmp_ge C dX4_partAt_15 (tgt := 27) (by decide) (fun c15 => ?_) (fun c15 => ?_)
      · have hw := hw.1 c15
        refine g_iconst C dX4_partAt_27 (v := 0) rfl ?_
        exact g_iret C dX4_partAt_28 (Nat.le_of_ble_eq_true rfl) (Nat.le_of_ble_eq_true rfl) ⟨_, rfl, rfl, hw⟩
      · have hw := hw.2 c15
        refine g_iload_n C dX4_partAt_18 2 rfl rfl ?_
        refine g_if_lt C dX4_partAt_19 (tgt := 27) (by decide) (fun c19 => ?_) (fun c19 => ?_)
        · have hw := hw.1 c19
          refine g_iconst C dX4_partAt_27 (v := 0) rfl ?_
          exact g_iret C dX4_partAt_28 (Nat.le_of_ble_eq_true rfl) (Nat.le_of_ble_eq_true rfl) ⟨_, rfl, rfl, hw⟩
        · have hw := hw.2 c19
          refine g_iload_n C dX4_partAt_22 2 rfl rfl ?_
          refine g_iconst C dX4_partAt_23 (v := 5) rfl ?_
          refine g_icmp_lt C dX4_partAt_24 (tgt := 29) (by decide) (fun c24 => ?_) (fun c24 => ?_)
          · have hw := hw.1 c24
            refine g_aload_n C dX4_partAt_29 0 rfl rfl ?_
            refine gf_RX4_15 C hk0 dX4_partAt_30 ?_
            refine g_iload_n C dX4_partAt_33 1 rfl rfl ?_
            refine g_iconst C dX4_partAt_34 (v := 5) rfl ?_
            refine g_imul C dX4_partAt_35 ?_
            refine g_iload_n C dX4_partAt_36 2 rfl rfl ?_
            refine g_iadd C dX4_partAt_37 ?_
            obtain ⟨hk_1, hw⟩ := hw
            obtain ⟨hi_2, hw⟩ := hw
            refine g_iaload C hk_1 hi_2 dX4_partAt_38 ?_
            exact g_iret C dX4_partAt_39 (Nat.le_of_ble_eq_true rfl) (Nat.le_of_ble_eq_true rfl) ⟨_, rfl, rfl, hw⟩
          · have hw := hw.2 c24
            refine g_iconst C dX4_partAt_27 (v := 0) rfl ?_
            exact g_iret C dX4_partAt_28 (Nat.le_of_ble_eq_true rfl) (Nat.le_of_ble_eq_true rfl) ⟨_, rfl, rfl, hw⟩
theorem gc_X4_partAt : ∀ rm : Room, rmX4_partAt.frames + 1 ≤ rm.frames → 8 + (3 + 11) + rmX4_partAt.locals ≤ rm.locals → gCall yX4_partAt 3 2 rmX4_partAt rm := fun rm a b => ⟨Or.inl ⟨_, _, tw477⟩, tw2, ⟨by decide, by decide⟩, by decide, a, b⟩
abbrev rmX4_quotaOf : Room := { frames := 0, cells := 0, slots := 0, locals := 0 }
def wp_X4_quotaOf (o : Nat) (p1 : Int32) (M : MEM) (Q : Int32 → Prop) : Prop := KD o = (14, 0) ∧ ((p1 < 0 → (Q 0)) ∧ (¬ p1 < 0 → ((p1 < 4 → (KD (RF o 6) = (0, 4) ∧ vp_in p1 4 ∧ (Q (mI M (RF o 6) p1.toNatClampNeg)))) ∧ (¬ p1 < 4 → (Q 0)))))
set_option maxRecDepth 100000 in
set_option maxHeartbeats 4000000 in
theorem met_X4_quotaOf {l : Launch} (hl : l.stackTraces = false) {E : MK} {o : Nat} {p1 : Int32} {M : MEM} {Q : Int32 → Prop} (hw : wp_X4_quotaOf o p1 M Q) : gMet l E yX4_quotaOf rmX4_quotaOf [gR E o, .int p1] M (qIp M Q) gNo := by
  obtain ⟨hk0, hw⟩ := hw
  refine g_met hl (cc := cX4_quotaOf) (maxL := 2) (ret := (some .int)) (hh := []) (loc := [(0, gR E o), (1, .int p1)]) (by decide +kernel) (Or.inl ⟨tw521, rfl⟩) (Nat.le_of_ble_eq_true rfl) rfl (fun K hK C => ?_)
  have C : GC K E cX4_quotaOf RX4 2 (some .int) [] rmX4_quotaOf := C
  refine g_iload_n C dX4_quotaOf_0 1 rfl rfl ?_
  refine g_if_lt C dX4_quotaOf_1 (tgt := 9) (by decide) (fun c1 => ?_) (fun c1 => ?_)
  · have hw := hw.1 c1
    refine g_iconst C dX4_quotaOf_9 (v := 0) rfl ?_
    refine g_goto C dX4_quotaOf_10 (tgt := 19) (by decide) ?_
    exact g_iret C dX4_quotaOf_19 (Nat.le_of_ble_eq_true rfl) (Nat.le_of_ble_eq_true rfl) ⟨_, rfl, rfl, hw⟩
  · have hw := hw.2 c1
    refine g_iload_n C dX4_quotaOf_4 1 rfl rfl ?_
    refine g_iconst C dX4_quotaOf_5 (v := 4) rfl ?_
    refine g_icmp_lt C dX4_quotaOf_6 (tgt := 13) (by decide) (fun c6 => ?_) (fun c6 => ?_)
    · have hw := hw.1 c6
      refine g_aload_n C dX4_quotaOf_13 0 rfl rfl ?_
      refine gf_RX4_9 C hk0 dX4_quotaOf_14 ?_
      refine g_iload_n C dX4_quotaOf_17 1 rfl rfl ?_
      obtain ⟨hk_1, hw⟩ := hw
      obtain ⟨hi_2, hw⟩ := hw
      refine g_iaload C hk_1 hi_2 dX4_quotaOf_18 ?_
      exact g_iret C dX4_quotaOf_19 (Nat.le_of_ble_eq_true rfl) (Nat.le_of_ble_eq_true rfl) ⟨_, rfl, rfl, hw⟩
    · have hw := hw.2 c6
      refine g_iconst C dX4_quotaOf_9 (v := 0) rfl ?_
      refine g_goto C dX4_quotaOf_10 (tgt := 19) (by decide) ?_
      exact g_iret C dX4_quotaOf_19 (Nat.le_of_ble_eq_true rfl) (Nat.le_of_ble_eq_true rfl) ⟨_, rfl, rfl, hw⟩
theorem gc_X4_quotaOf : ∀ rm : Room, rmX4_quotaOf.frames + 1 ≤ rm.frames → 8 + (2 + 11) + rmX4_quotaOf.locals ≤ rm.locals → gCall yX4_quotaOf 2 1 rmX4_quotaOf rm := fun rm a b => ⟨Or.inl ⟨_, _, tw521⟩, tw2, ⟨by decide, by decide⟩, by decide, a, b⟩
abbrev rmX4_limitFor : Room := { frames := 1, cells := 0, slots := 0, locals := 22 }
def wp_X4_limitFor (o : Nat) (p1 : Int32) (M : MEM) (Q : Int32 → Prop) : Prop := KD o = (14, 0) ∧ ((¬ (mI M o 1) = 2 → (Q (mI M o 2))) ∧ ((mI M o 1) = 2 → (wp_X4_partAt o p1 2 M (fun r_1 => wp_X4_quotaOf o r_1 M (fun r_3 => Q r_3)))))
set_option maxRecDepth 100000 in
set_option maxHeartbeats 4000000 in
theorem met_X4_limitFor {l : Launch} (hl : l.stackTraces = false) {E : MK} {o : Nat} {p1 : Int32} {M : MEM} {Q : Int32 → Prop} (hw : wp_X4_limitFor o p1 M Q) : gMet l E yX4_limitFor rmX4_limitFor [gR E o, .int p1] M (qIp M Q) gNo := by
  obtain ⟨hk0, hw⟩ := hw
  refine g_met hl (cc := cX4_limitFor) (maxL := 2) (ret := (some .int)) (hh := []) (loc := [(0, gR E o), (1, .int p1)]) (by decide +kernel) (Or.inl ⟨tw517, rfl⟩) (Nat.le_of_ble_eq_true rfl) rfl (fun K hK C => ?_)
  have C : GC K E cX4_limitFor RX4 2 (some .int) [] rmX4_limitFor := C
  refine g_aload_n C dX4_limitFor_0 0 rfl rfl ?_
  refine gf_RX4_26 C hk0 dX4_limitFor_1 ?_
  refine g_iconst C dX4_limitFor_4 (v := 2) rfl ?_
  refine g_icmp_ne C dX4_limitFor_5 (tgt := 21) (by decide) (fun c5 => ?_) (fun c5 => ?_)
  · have hw := hw.1 c5
    refine g_aload_n C dX4_limitFor_21 0 rfl rfl ?_
    refine gf_RX4_29 C hk0 dX4_limitFor_22 ?_
    exact g_iret C dX4_limitFor_25 (Nat.le_of_ble_eq_true rfl) (Nat.le_of_ble_eq_true rfl) ⟨_, rfl, rfl, hw⟩
  · have hw := hw.2 c5
    refine g_aload_n C dX4_limitFor_8 0 rfl rfl ?_
    refine g_aload_n C dX4_limitFor_9 0 rfl rfl ?_
    refine g_iload_n C dX4_limitFor_10 1 rfl rfl ?_
    refine g_iconst C dX4_limitFor_11 (v := 2) rfl ?_
    refine g_cV C dX4_limitFor_12 (met_X4_partAt C.st hw) (gc_X4_partAt _ (Nat.le_of_ble_eq_true rfl) (Nat.le_of_ble_eq_true rfl)) tw474 tw475 tw476 (ci := 4) rfl (by decide) hk0 rfl (Nat.le_of_ble_eq_true rfl) (c2 := 0) (s2 := 0) rfl rfl (Nat.le_of_ble_eq_true rfl) (Nat.le_of_ble_eq_true rfl) rfl (kIp (fun r_1 hw => ?_)) tNo
    refine g_cV C dX4_limitFor_15 (met_X4_quotaOf C.st hw) (gc_X4_quotaOf _ (Nat.le_of_ble_eq_true rfl) (Nat.le_of_ble_eq_true rfl)) tw518 tw519 tw520 (ci := 4) rfl (by decide) hk0 rfl (Nat.le_of_ble_eq_true rfl) (c2 := 0) (s2 := 0) rfl rfl (Nat.le_of_ble_eq_true rfl) (Nat.le_of_ble_eq_true rfl) rfl (kIp (fun r_3 hw => ?_)) tNo
    refine g_goto C dX4_limitFor_18 (tgt := 25) (by decide) ?_
    exact g_iret C dX4_limitFor_25 (Nat.le_of_ble_eq_true rfl) (Nat.le_of_ble_eq_true rfl) ⟨_, rfl, rfl, hw⟩
theorem gc_X4_limitFor : ∀ rm : Room, rmX4_limitFor.frames + 1 ≤ rm.frames → 8 + (2 + 11) + rmX4_limitFor.locals ≤ rm.locals → gCall yX4_limitFor 2 1 rmX4_limitFor rm := fun rm a b => ⟨Or.inl ⟨_, _, tw517⟩, tw2, ⟨by decide, by decide⟩, by decide, a, b⟩
abbrev rmX3_place : Room := { frames := 2, cells := 0, slots := 0, locals := 43 }
def wp_X3_place (o : Nat) (p1 : Int32) (p2 : Int32) (M : MEM) (Q : MEM → Prop) : Prop := KD o = (13, 0) ∧ ((p1 < 0 → (Q M)) ∧ (¬ p1 < 0 → ((60 ≤ p1 → (Q M)) ∧ (¬ 60 ≤ p1 → (((mI M o 2) < 60 → ((KD (RF o 5) = (0, 60) ∧ (vp_in p1 60 ∧ (∀ M_3 : MEM, M_3 = uI M (RF o 5) p1.toNatClampNeg p2 → (KD (mO M_3 o) = (14, 0) ∧ wp_X4_limitFor (mO M_3 o) p1 M_3 (fun r_4 => (r_4 ≤ p2 → (Q M_3)) ∧ (¬ r_4 ≤ p2 → ((KD (RF o 6) = (0, 60) ∧ (vp_in (mI M_3 o 2) 60 ∧ (∀ M_9 : MEM, M_9 = uI M_3 (RF o 6) (mI M_3 o 2).toNatClampNeg p1 → ((KD (RF o 7) = (0, 60) ∧ (vp_in p1 60 ∧ (∀ M_12 : MEM, M_12 = uI M_9 (RF o 7) p1.toNatClampNeg (mI M_9 o 2) → ((∀ M_13 : MEM, M_13 = uI M_12 o 2 ((mI M_12 o 2) + 1) → (Q M_13))))))))))))))))))) ∧ (¬ (mI M o 2) < 60 → (Q M)))))))
set_option maxRecDepth 100000 in
set_option maxHeartbeats 4000000 in
theorem met_X3_place {l : Launch} (hl : l.stackTraces = false) {E : MK} {o : Nat} {p1 : Int32} {p2 : Int32} {M : MEM} {Q : MEM → Prop} (hw : wp_X3_place o p1 p2 M Q) : gMet l E yX3_place rmX3_place [gR E o, .int p1, .int p2] M (qV Q) gNo := by
  obtain ⟨hk0, hw⟩ := hw
  refine g_met hl (cc := cX3_place) (maxL := 3) (ret := none) (hh := []) (loc := [(0, gR E o), (1, .int p1), (2, .int p2)]) (by decide +kernel) (Or.inl ⟨tw513, rfl⟩) (Nat.le_of_ble_eq_true rfl) rfl (fun K hK C => ?_)
  have C : GC K E cX3_place RX3 3 none [] rmX3_place := C
  refine g_iload_n C dX3_place_0 1 rfl rfl ?_
  refine g_if_lt C dX3_place_1 (tgt := 19) (by decide) (fun c1 => ?_) (fun c1 => ?_)
  · have hw := hw.1 c1
    exact g_vret C dX3_place_19 (Nat.le_of_ble_eq_true rfl) (Nat.le_of_ble_eq_true rfl) ⟨rfl, hw⟩
  · have hw := hw.2 c1
    refine g_iload_n C dX3_place_4 1 rfl rfl ?_
    refine g_bipush C dX3_place_5 (v := 60) rfl ?_
    refine g_icmp_ge C dX3_place_7 (tgt := 19) (by decide) (fun c7 => ?_) (fun c7 => ?_)
    · have hw := hw.1 c7
      exact g_vret C dX3_place_19 (Nat.le_of_ble_eq_true rfl) (Nat.le_of_ble_eq_true rfl) ⟨rfl, hw⟩
    · have hw := hw.2 c7
      refine g_aload_n C dX3_place_10 0 rfl rfl ?_
      refine gf_RX3_38 C hk0 dX3_place_11 ?_
      refine g_bipush C dX3_place_14 (v := 60) rfl ?_
      refine g_icmp_lt C dX3_place_16 (tgt := 20) (by decide) (fun c16 => ?_) (fun c16 => ?_)
      · have hw := hw.1 c16
        refine g_aload_n C dX3_place_20 0 rfl rfl ?_
        refine gf_RX3_26 C hk0 dX3_place_21 ?_
        refine g_iload_n C dX3_place_24 1 rfl rfl ?_
        refine g_iload_n C dX3_place_25 2 rfl rfl ?_
        obtain ⟨hk_1, hw⟩ := hw
        obtain ⟨hi_2, hw⟩ := hw
        refine g_iastore C hk_1 hi_2 dX3_place_26 ?_
        refine g_nmM (fun M_3 eM_3 => ?_)
        have hw := hw M_3 eM_3
        refine g_iload_n C dX3_place_27 2 rfl rfl ?_
        refine g_aload_n C dX3_place_28 0 rfl rfl ?_
        refine gf_RX3_12 C hk0 dX3_place_29 ?_
        refine g_iload_n C dX3_place_32 1 rfl rfl ?_
        obtain ⟨hk_6, hw⟩ := hw
        refine g_cV C dX3_place_33 (met_X4_limitFor C.st hw) (gc_X4_limitFor _ (Nat.le_of_ble_eq_true rfl) (Nat.le_of_ble_eq_true rfl)) tw514 tw515 tw516 (ci := 4) rfl (by decide) hk_6 rfl (Nat.le_of_ble_eq_true rfl) (c2 := 0) (s2 := 0) rfl rfl (Nat.le_of_ble_eq_true rfl) (Nat.le_of_ble_eq_true rfl) rfl (kIp (fun r_4 hw => ?_)) tNo
        refine g_icmp_ge C dX3_place_36 (tgt := 69) (by decide) (fun c36 => ?_) (fun c36 => ?_)
        · have hw := hw.1 c36
          exact g_vret C dX3_place_69 (Nat.le_of_ble_eq_true rfl) (Nat.le_of_ble_eq_true rfl) ⟨rfl, hw⟩
        · have hw := hw.2 c36
          refine g_aload_n C dX3_place_39 0 rfl rfl ?_
          refine gf_RX3_29 C hk0 dX3_place_40 ?_
          refine g_aload_n C dX3_place_43 0 rfl rfl ?_
          refine gf_RX3_38 C hk0 dX3_place_44 ?_
          refine g_iload_n C dX3_place_47 1 rfl rfl ?_
          obtain ⟨hk_7, hw⟩ := hw
          obtain ⟨hi_8, hw⟩ := hw
          refine g_iastore C hk_7 hi_8 dX3_place_48 ?_
          refine g_nmM (fun M_9 eM_9 => ?_)
          have hw := hw M_9 eM_9
          refine g_aload_n C dX3_place_49 0 rfl rfl ?_
          refine gf_RX3_32 C hk0 dX3_place_50 ?_
          refine g_iload_n C dX3_place_53 1 rfl rfl ?_
          refine g_aload_n C dX3_place_54 0 rfl rfl ?_
          refine gf_RX3_38 C hk0 dX3_place_55 ?_
          obtain ⟨hk_10, hw⟩ := hw
          obtain ⟨hi_11, hw⟩ := hw
          refine g_iastore C hk_10 hi_11 dX3_place_58 ?_
          refine g_nmM (fun M_12 eM_12 => ?_)
          have hw := hw M_12 eM_12
          refine g_aload_n C dX3_place_59 0 rfl rfl ?_
          refine g_dup C dX3_place_60 rfl ?_
          refine gf_RX3_38 C hk0 dX3_place_61 ?_
          refine g_iconst C dX3_place_64 (v := 1) rfl ?_
          refine g_iadd C dX3_place_65 ?_
          refine pf_RX3_38 C hk0 dX3_place_66 ?_
          refine g_nmM (fun M_13 eM_13 => ?_)
          have hw := hw M_13 eM_13
          exact g_vret C dX3_place_69 (Nat.le_of_ble_eq_true rfl) (Nat.le_of_ble_eq_true rfl) ⟨rfl, hw⟩
      · have hw := hw.2 c16
        exact g_vret C dX3_place_19 (Nat.le_of_ble_eq_true rfl) (Nat.le_of_ble_eq_true rfl) ⟨rfl, hw⟩
theorem gc_X3_place : ∀ rm : Room, rmX3_place.frames + 1 ≤ rm.frames → 8 + (3 + 11) + rmX3_place.locals ≤ rm.locals → gCall yX3_place 3 2 rmX3_place rm := fun rm a b => ⟨Or.inl ⟨_, _, tw513⟩, tw4, ⟨by decide, by decide⟩, by decide, a, b⟩
