abbrev rmX5_copy : Room := { frames := 7, cells := 3, slots := 18, locals := 103 }
def wp_X5_copy (o : Nat) (p1 : Int32) (p2 : Int32) (M : MEM) (Q : Int32 → MEM → Prop) (X : String → MEM → Prop) : Prop := KD o = (15, 0) ∧ (wp_X5_slotAt o p1 M (fun r_1 => wp_X5_slotAt o p2 M (fun r_3 => wp_X5_needFilled r_1 M (KD (RF o 5) = (10, 0) ∧ wp_X0_remember (RF o 5) p2 r_3 (mI M o 4) M (fun M_8 => KD r_3 = (14, 0) ∧ wp_X4_become r_3 r_1 M_8 (fun M_11 => wp_X4_count r_3 M_11 (fun r_13 => Q r_13 M_11)))) (fun En => X En M)) (fun En => X En M)) (fun En => X En M))
set_option maxRecDepth 100000 in
set_option maxHeartbeats 4000000 in
theorem met_X5_copy {l : Launch} (hl : l.stackTraces = false) {E : MK} {o : Nat} {p1 : Int32} {p2 : Int32} {M : MEM} {Q : Int32 → MEM → Prop} {X : String → MEM → Prop} (hw : wp_X5_copy o p1 p2 M Q X) : gMet l E yX5_copy rmX5_copy [gR E o, .int p1, .int p2] M (qI Q) (qE X) := by
  obtain ⟨hk0, hw⟩ := hw
  refine g_met hl (cc := cX5_copy) (maxL := 5) (ret := (some .int)) (hh := []) (loc := [(0, gR E o), (1, .int p1), (2, .int p2)]) (by decide +kernel) (Or.inl ⟨tw642, rfl⟩) (Nat.le_of_ble_eq_true rfl) rfl (fun K hK C => ?_)
  have C : GC K E cX5_copy RX5 5 (some .int) [] rmX5_copy := C
  refine g_aload_n C dX5_copy_0 0 rfl rfl ?_
  refine g_iload_n C dX5_copy_1 1 rfl rfl ?_
  refine g_cV C dX5_copy_2 (met_X5_slotAt C.st hw) (gc_X5_slotAt _ (Nat.le_of_ble_eq_true rfl) (Nat.le_of_ble_eq_true rfl)) tw315 tw317 twp3 (ci := 5) rfl (by decide) hk0 rfl (Nat.le_of_ble_eq_true rfl) (c2 := 1) (s2 := 6) rfl rfl (Nat.le_of_ble_eq_true rfl) (Nat.le_of_ble_eq_true rfl) rfl (kRp (fun r_1 hw => ?_)) (fun En M9 hx => g_out C (noTab _) (Nat.le_of_ble_eq_true rfl) (Nat.le_of_ble_eq_true rfl) (by obtain ⟨rfl, hx⟩ := hx; exact hx))
  refine g_astore_n C dX5_copy_5 rfl (Nat.le_of_ble_eq_true rfl) (loc' := [(3, gR E r_1), (0, gR E o), (1, .int p1), (2, .int p2)]) rfl ?_
  refine g_aload_n C dX5_copy_6 1 rfl rfl ?_
  refine g_iload_n C dX5_copy_7 3 rfl rfl ?_
  refine g_cV C dX5_copy_8 (met_X5_slotAt C.st hw) (gc_X5_slotAt _ (Nat.le_of_ble_eq_true rfl) (Nat.le_of_ble_eq_true rfl)) tw315 tw317 twp3 (ci := 5) rfl (by decide) hk0 rfl (Nat.le_of_ble_eq_true rfl) (c2 := 2) (s2 := 12) rfl rfl (Nat.le_of_ble_eq_true rfl) (Nat.le_of_ble_eq_true rfl) rfl (kRp (fun r_3 hw => ?_)) (fun En M9 hx => g_out C (noTab _) (Nat.le_of_ble_eq_true rfl) (Nat.le_of_ble_eq_true rfl) (by obtain ⟨rfl, hx⟩ := hx; exact hx))
  refine g_astore C dX5_copy_11 (Nat.le_of_ble_eq_true rfl) (loc' := [(4, gR E r_3), (3, gR E r_1), (0, gR E o), (1, .int p1), (2, .int p2)]) rfl ?_
  refine g_aload_n C dX5_copy_13 1 rfl rfl ?_
  refine g_cS C dX5_copy_14 (met_X5_needFilled C.st hw) (gc_X5_needFilled _ (Nat.le_of_ble_eq_true rfl) (Nat.le_of_ble_eq_true rfl)) (Or.inl tw405) tw406 rfl (Nat.le_of_ble_eq_true rfl) (c2 := 3) (s2 := 18) rfl rfl (Nat.le_of_ble_eq_true rfl) (Nat.le_of_ble_eq_true rfl) rfl (kVp (fun hw => ?_)) (fun En M9 hx => g_out C (noTab _) (Nat.le_of_ble_eq_true rfl) (Nat.le_of_ble_eq_true rfl) (by obtain ⟨rfl, hx⟩ := hx; exact hx))
  refine g_aload_n C dX5_copy_17 2 rfl rfl ?_
  refine gf_RX5_22 C hk0 dX5_copy_18 ?_
  refine g_iload_n C dX5_copy_21 4 rfl rfl ?_
  refine g_aload C (j := 0) dX5_copy_22 0 rfl ?_
  refine g_aload_n C dX5_copy_24 2 rfl rfl ?_
  refine gf_RX5_82 C hk0 dX5_copy_25 ?_
  obtain ⟨hk_9, hw⟩ := hw
  refine g_cV C dX5_copy_28 (met_X0_remember C.st hw) (gc_X0_remember _ (Nat.le_of_ble_eq_true rfl) (Nat.le_of_ble_eq_true rfl)) tw364 tw365 tw366 (ci := 0) rfl (by decide) hk_9 rfl (Nat.le_of_ble_eq_true rfl) (c2 := 3) (s2 := 18) rfl rfl (Nat.le_of_ble_eq_true rfl) (Nat.le_of_ble_eq_true rfl) rfl (kV (fun M_8 hw => ?_)) tNo
  refine g_aload C (j := 0) dX5_copy_31 0 rfl ?_
  refine g_aload_n C dX5_copy_33 1 rfl rfl ?_
  obtain ⟨hk_12, hw⟩ := hw
  refine g_cV C dX5_copy_34 (met_X4_become C.st hw) (gc_X4_become _ (Nat.le_of_ble_eq_true rfl) (Nat.le_of_ble_eq_true rfl)) tw208 tw209 tw210 (ci := 4) rfl (by decide) hk_12 rfl (Nat.le_of_ble_eq_true rfl) (c2 := 3) (s2 := 18) rfl rfl (Nat.le_of_ble_eq_true rfl) (Nat.le_of_ble_eq_true rfl) rfl (kV (fun M_11 hw => ?_)) tNo
  refine g_aload C (j := 0) dX5_copy_37 0 rfl ?_
  refine g_cV C dX5_copy_39 (met_X4_count C.st hw) (gc_X4_count _ (Nat.le_of_ble_eq_true rfl) (Nat.le_of_ble_eq_true rfl)) tw360 tw361 tw362 (ci := 4) rfl (by decide) hk_12 rfl (Nat.le_of_ble_eq_true rfl) (c2 := 3) (s2 := 18) rfl rfl (Nat.le_of_ble_eq_true rfl) (Nat.le_of_ble_eq_true rfl) rfl (kIp (fun r_13 hw => ?_)) tNo
  exact g_iret C dX5_copy_42 (Nat.le_of_ble_eq_true rfl) (Nat.le_of_ble_eq_true rfl) ⟨_, rfl, hw⟩
theorem gc_X5_copy : ∀ rm : Room, rmX5_copy.frames + 1 ≤ rm.frames → 8 + (5 + 11) + rmX5_copy.locals ≤ rm.locals → gCall yX5_copy 5 2 rmX5_copy rm := fun rm a b => ⟨Or.inl ⟨_, _, tw642⟩, tw1, ⟨by decide, by decide⟩, by decide, a, b⟩
abbrev rmX5_needItem : Room := { frames := 6, cells := 1, slots := 6, locals := 82 }
def wp_X5_needItem (p1 : Nat) (p2 : Int32) (M : MEM) (Q : Prop) (X : String → Prop) : Prop := KD p1 = (14, 0) ∧ wp_X4_isFilled p1 M (fun r_1 => (r_1 = 0 → (Q)) ∧ (¬ r_1 = 0 → (wp_X4_count p1 M (fun r_4 => wp_X5_isWithin p2.toInt64 0 ((r_4 - 1 : Int32).toInt64) M (fun r_6 => (¬ r_6 = 0 → (Q)) ∧ (r_6 = 0 → (X "java/lang/IndexOutOfBoundsException")))))))
set_option maxRecDepth 100000 in
set_option maxHeartbeats 4000000 in
theorem met_X5_needItem {l : Launch} (hl : l.stackTraces = false) {E : MK} {p1 : Nat} {p2 : Int32} {M : MEM} {Q : Prop} {X : String → Prop} (hw : wp_X5_needItem p1 p2 M Q X) : gMet l E yX5_needItem rmX5_needItem [gR E p1, .int p2] M (qVp M Q) (gXp M X) := by
  refine g_met hl (cc := cX5_needItem) (maxL := 2) (ret := none) (hh := []) (loc := [(0, gR E p1), (1, .int p2)]) (by decide +kernel) (Or.inl ⟨tw652, rfl⟩) (Nat.le_of_ble_eq_true rfl) rfl (fun K hK C => ?_)
  have C : GC K E cX5_needItem RX5 2 none [] rmX5_needItem := C
  refine g_aload_n C dX5_needItem_0 0 rfl rfl ?_
  obtain ⟨hk_3, hw⟩ := hw
  refine g_cV C dX5_needItem_1 (met_X4_isFilled C.st hw) (gc_X4_isFilled _ (Nat.le_of_ble_eq_true rfl) (Nat.le_of_ble_eq_true rfl)) tw223 tw224 tw225 (ci := 4) rfl (by decide) hk_3 rfl (Nat.le_of_ble_eq_true rfl) (c2 := 0) (s2 := 0) rfl rfl (Nat.le_of_ble_eq_true rfl) (Nat.le_of_ble_eq_true rfl) rfl (kIp (fun r_1 hw => ?_)) tNo
  refine g_if_eq C dX5_needItem_4 (tgt := 34) (by decide) (fun c4 => ?_) (fun c4 => ?_)
  · have hw := hw.1 c4
    exact g_vret C dX5_needItem_34 (Nat.le_of_ble_eq_true rfl) (Nat.le_of_ble_eq_true rfl) ⟨rfl, rfl, hw⟩
  · have hw := hw.2 c4
    refine g_iload_n C dX5_needItem_7 1 rfl rfl ?_
    refine g_i2l C dX5_needItem_8 ?_
    refine g_lconst C dX5_needItem_9 (v := 0) rfl ?_
    refine g_aload_n C dX5_needItem_10 0 rfl rfl ?_
    refine g_cV C dX5_needItem_11 (met_X4_count C.st hw) (gc_X4_count _ (Nat.le_of_ble_eq_true rfl) (Nat.le_of_ble_eq_true rfl)) tw360 tw361 tw362 (ci := 4) rfl (by decide) hk_3 rfl (Nat.le_of_ble_eq_true rfl) (c2 := 0) (s2 := 0) rfl rfl (Nat.le_of_ble_eq_true rfl) (Nat.le_of_ble_eq_true rfl) rfl (kIp (fun r_4 hw => ?_)) tNo
    refine g_iconst C dX5_needItem_14 (v := 1) rfl ?_
    refine g_isub C dX5_needItem_15 ?_
    refine g_i2l C dX5_needItem_16 ?_
    refine g_cS C dX5_needItem_17 (met_X5_isWithin C.st hw) (gc_X5_isWithin _ (Nat.le_of_ble_eq_true rfl) (Nat.le_of_ble_eq_true rfl)) (Or.inl tw336) tw337 rfl (Nat.le_of_ble_eq_true rfl) (c2 := 0) (s2 := 0) rfl rfl (Nat.le_of_ble_eq_true rfl) (Nat.le_of_ble_eq_true rfl) rfl (kIp (fun r_6 hw => ?_)) tNo
    refine g_if_ne C dX5_needItem_20 (tgt := 34) (by decide) (fun c20 => ?_) (fun c20 => ?_)
    · have hw := hw.1 c20
      exact g_vret C dX5_needItem_34 (Nat.le_of_ble_eq_true rfl) (Nat.le_of_ble_eq_true rfl) ⟨rfl, rfl, hw⟩
    · have hw := hw.2 c20
      exact g_throwSW C fit_IndexOutOfBoundsException fit_N tw319 tw12 (List.mem_of_getElem? (i := 7) rfl) (List.mem_of_getElem? (i := 0) rfl) at_RX5_220 dX5_needItem_23 dX5_needItem_26 dX5_needItem_27 dX5_needItem_30 dX5_needItem_33 (noTab _) (Nat.le_of_ble_eq_true rfl) (Nat.le_of_ble_eq_true rfl) (Nat.le_of_ble_eq_true rfl) (Nat.le_of_ble_eq_true rfl) (Nat.le_of_ble_eq_true rfl) (Nat.le_of_ble_eq_true rfl) ⟨rfl, hw⟩
theorem gc_X5_needItem : ∀ rm : Room, rmX5_needItem.frames + 1 ≤ rm.frames → 8 + (2 + 11) + rmX5_needItem.locals ≤ rm.locals → gCall yX5_needItem 2 2 rmX5_needItem rm := fun rm a b => ⟨Or.inl ⟨_, _, tw652⟩, tw1, ⟨by decide, by decide⟩, by decide, a, b⟩
abbrev rmX5_kept : Room := { frames := 7, cells := 4, slots := 24, locals := 133 }
def wp_X5_kept (o : Nat) (p1 : Int32) (p2 : Int32) (p3 : Int32) (M : MEM) (Q : Int32 → MEM → Prop) (X : String → MEM → Prop) : Prop := KD o = (15, 0) ∧ (wp_X5_slotAt o p1 M (fun r_1 => wp_X5_needItem r_1 p2 M (wp_X5_isWithin p3.toInt64 0 5 M (fun r_5 => wp_X5_needRange r_5 M (wp_X5_needFilled r_1 M ((5 ≤ p3 → (wp_X5_sampleOf o r_1 M (fun r_11 M_12 => KD r_11 = (13, 0) ∧ wp_X3_placeOf r_11 p2 M_12 (fun r_13 => Q r_13 M_12)))) ∧ (¬ 5 ≤ p3 → (KD r_1 = (14, 0) ∧ wp_X4_partAt r_1 p2 p3 M (fun r_16 => Q r_16 M)))) (fun En => X En M)) (fun En => X En M))) (fun En => X En M)) (fun En => X En M))
set_option maxRecDepth 100000 in
set_option maxHeartbeats 4000000 in
theorem met_X5_kept {l : Launch} (hl : l.stackTraces = false) {E : MK} {o : Nat} {p1 : Int32} {p2 : Int32} {p3 : Int32} {M : MEM} {Q : Int32 → MEM → Prop} {X : String → MEM → Prop} (hw : wp_X5_kept o p1 p2 p3 M Q X) : gMet l E yX5_kept rmX5_kept [gR E o, .int p1, .int p2, .int p3] M (qI Q) (qE X) := by
  obtain ⟨hk0, hw⟩ := hw
  refine g_met hl (cc := cX5_kept) (maxL := 5) (ret := (some .int)) (hh := []) (loc := [(0, gR E o), (1, .int p1), (2, .int p2), (3, .int p3)]) (by decide +kernel) (Or.inl ⟨tw649, rfl⟩) (Nat.le_of_ble_eq_true rfl) rfl (fun K hK C => ?_)
  have C : GC K E cX5_kept RX5 5 (some .int) [] rmX5_kept := C
  refine g_aload_n C dX5_kept_0 0 rfl rfl ?_
  refine g_iload_n C dX5_kept_1 1 rfl rfl ?_
  refine g_cV C dX5_kept_2 (met_X5_slotAt C.st hw) (gc_X5_slotAt _ (Nat.le_of_ble_eq_true rfl) (Nat.le_of_ble_eq_true rfl)) tw315 tw317 twp3 (ci := 5) rfl (by decide) hk0 rfl (Nat.le_of_ble_eq_true rfl) (c2 := 1) (s2 := 6) rfl rfl (Nat.le_of_ble_eq_true rfl) (Nat.le_of_ble_eq_true rfl) rfl (kRp (fun r_1 hw => ?_)) (fun En M9 hx => g_out C (noTab _) (Nat.le_of_ble_eq_true rfl) (Nat.le_of_ble_eq_true rfl) (by obtain ⟨rfl, hx⟩ := hx; exact hx))
  refine g_astore C dX5_kept_5 (Nat.le_of_ble_eq_true rfl) (loc' := [(4, gR E r_1), (0, gR E o), (1, .int p1), (2, .int p2), (3, .int p3)]) rfl ?_
  refine g_aload C (j := 0) dX5_kept_7 0 rfl ?_
  refine g_iload_n C dX5_kept_9 3 rfl rfl ?_
  refine g_cS C dX5_kept_10 (met_X5_needItem C.st hw) (gc_X5_needItem _ (Nat.le_of_ble_eq_true rfl) (Nat.le_of_ble_eq_true rfl)) (Or.inl tw650) tw651 rfl (Nat.le_of_ble_eq_true rfl) (c2 := 2) (s2 := 12) rfl rfl (Nat.le_of_ble_eq_true rfl) (Nat.le_of_ble_eq_true rfl) rfl (kVp (fun hw => ?_)) (fun En M9 hx => g_out C (noTab _) (Nat.le_of_ble_eq_true rfl) (Nat.le_of_ble_eq_true rfl) (by obtain ⟨rfl, hx⟩ := hx; exact hx))
  refine g_iload_n C dX5_kept_13 4 rfl rfl ?_
  refine g_i2l C dX5_kept_14 ?_
  refine g_lconst C dX5_kept_15 (v := 0) rfl ?_
  refine g_ldc2 C dX5_kept_16 tw654 ?_
  refine g_cS C dX5_kept_19 (met_X5_isWithin C.st hw) (gc_X5_isWithin _ (Nat.le_of_ble_eq_true rfl) (Nat.le_of_ble_eq_true rfl)) (Or.inl tw336) tw337 rfl (Nat.le_of_ble_eq_true rfl) (c2 := 2) (s2 := 12) rfl rfl (Nat.le_of_ble_eq_true rfl) (Nat.le_of_ble_eq_true rfl) rfl (kIp (fun r_5 hw => ?_)) tNo
  refine g_cS C dX5_kept_22 (met_X5_needRange C.st hw) (gc_X5_needRange _ (Nat.le_of_ble_eq_true rfl) (Nat.le_of_ble_eq_true rfl)) (Or.inl tw341) tw342 rfl (Nat.le_of_ble_eq_true rfl) (c2 := 3) (s2 := 18) rfl rfl (Nat.le_of_ble_eq_true rfl) (Nat.le_of_ble_eq_true rfl) rfl (kVp (fun hw => ?_)) (fun En M9 hx => g_out C (noTab _) (Nat.le_of_ble_eq_true rfl) (Nat.le_of_ble_eq_true rfl) (by obtain ⟨rfl, hx⟩ := hx; exact hx))
  refine g_aload C (j := 0) dX5_kept_25 0 rfl ?_
  refine g_cS C dX5_kept_27 (met_X5_needFilled C.st hw) (gc_X5_needFilled _ (Nat.le_of_ble_eq_true rfl) (Nat.le_of_ble_eq_true rfl)) (Or.inl tw405) tw406 rfl (Nat.le_of_ble_eq_true rfl) (c2 := 4) (s2 := 24) rfl rfl (Nat.le_of_ble_eq_true rfl) (Nat.le_of_ble_eq_true rfl) rfl (kVp (fun hw => ?_)) (fun En M9 hx => g_out C (noTab _) (Nat.le_of_ble_eq_true rfl) (Nat.le_of_ble_eq_true rfl) (by obtain ⟨rfl, hx⟩ := hx; exact hx))
  refine g_iload_n C dX5_kept_30 4 rfl rfl ?_
  refine g_iconst C dX5_kept_31 (v := 5) rfl ?_
  refine g_icmp_ge C dX5_kept_32 (tgt := 45) (by decide) (fun c32 => ?_) (fun c32 => ?_)
  · have hw := hw.1 c32
    refine g_aload_n C dX5_kept_45 1 rfl rfl ?_
    refine g_aload C (j := 0) dX5_kept_46 0 rfl ?_
    refine g_cV C dX5_kept_48 (met_X5_sampleOf C.st hw) (gc_X5_sampleOf _ (Nat.le_of_ble_eq_true rfl) (Nat.le_of_ble_eq_true rfl)) tw460 tw462 twp6 (ci := 5) rfl (by decide) hk0 rfl (Nat.le_of_ble_eq_true rfl) (c2 := 4) (s2 := 24) rfl rfl (Nat.le_of_ble_eq_true rfl) (Nat.le_of_ble_eq_true rfl) rfl (kR' (fun r_11 M_12 hw => ?_)) tNo
    refine g_iload_n C dX5_kept_51 3 rfl rfl ?_
    obtain ⟨hk_15, hw⟩ := hw
    refine g_cV C dX5_kept_52 (met_X3_placeOf C.st hw) (gc_X3_placeOf _ (Nat.le_of_ble_eq_true rfl) (Nat.le_of_ble_eq_true rfl)) tw655 tw656 tw657 (ci := 3) rfl (by decide) hk_15 rfl (Nat.le_of_ble_eq_true rfl) (c2 := 4) (s2 := 24) rfl rfl (Nat.le_of_ble_eq_true rfl) (Nat.le_of_ble_eq_true rfl) rfl (kIp (fun r_13 hw => ?_)) tNo
    exact g_iret C dX5_kept_55 (Nat.le_of_ble_eq_true rfl) (Nat.le_of_ble_eq_true rfl) ⟨_, rfl, hw⟩
  · have hw := hw.2 c32
    refine g_aload C (j := 0) dX5_kept_35 0 rfl ?_
    refine g_iload_n C dX5_kept_37 3 rfl rfl ?_
    refine g_iload_n C dX5_kept_38 4 rfl rfl ?_
    obtain ⟨hk_18, hw⟩ := hw
    refine g_cV C dX5_kept_39 (met_X4_partAt C.st hw) (gc_X4_partAt _ (Nat.le_of_ble_eq_true rfl) (Nat.le_of_ble_eq_true rfl)) tw576 tw475 tw476 (ci := 4) rfl (by decide) hk_18 rfl (Nat.le_of_ble_eq_true rfl) (c2 := 4) (s2 := 24) rfl rfl (Nat.le_of_ble_eq_true rfl) (Nat.le_of_ble_eq_true rfl) rfl (kIp (fun r_16 hw => ?_)) tNo
    refine g_goto C dX5_kept_42 (tgt := 55) (by decide) ?_
    exact g_iret C dX5_kept_55 (Nat.le_of_ble_eq_true rfl) (Nat.le_of_ble_eq_true rfl) ⟨_, rfl, hw⟩
theorem gc_X5_kept : ∀ rm : Room, rmX5_kept.frames + 1 ≤ rm.frames → 8 + (5 + 11) + rmX5_kept.locals ≤ rm.locals → gCall yX5_kept 5 3 rmX5_kept rm := fun rm a b => ⟨Or.inl ⟨_, _, tw649⟩, tw1, ⟨by decide, by decide⟩, by decide, a, b⟩
abbrev rmX5_sampled : Room := { frames := 7, cells := 3, slots := 18, locals := 133 }
def wp_X5_sampled_J50 (p2 : Int32) (p3 : Int32) (Q : Int32 → MEM → Prop) (X : String → MEM → Prop) (r_1 : Nat) (r_3 : Nat) (M_4 : MEM) : Prop := wp_X5_isWithin p3.toInt64 0 4 M_4 (fun r_8 => wp_X5_needRange r_8 M_4 (wp_X5_needFilled r_1 M_4 (KD r_3 = (13, 0) ∧ wp_X3_partAt r_3 p2 p3 M_4 (fun r_14 => Q r_14 M_4)) (fun En => X En M_4)) (fun En => X En M_4))
def wp_X5_sampled (o : Nat) (p1 : Int32) (p2 : Int32) (p3 : Int32) (M : MEM) (Q : Int32 → MEM → Prop) (X : String → MEM → Prop) : Prop := KD o = (15, 0) ∧ (wp_X5_slotAt o p1 M (fun r_1 => wp_X5_sampleOf o r_1 M (fun r_3 M_4 => KD r_1 = (14, 0) ∧ wp_X4_isFilled r_1 M_4 (fun r_5 => (r_5 = 0 → (wp_X5_sampled_J50 p2 p3 Q X r_1 r_3 M_4)) ∧ (¬ r_5 = 0 → (KD r_3 = (13, 0) ∧ wp_X3_size r_3 M_4 (fun r_17 => wp_X5_isWithin p2.toInt64 0 ((r_17 - 1 : Int32).toInt64) M_4 (fun r_20 => (¬ r_20 = 0 → (wp_X5_sampled_J50 p2 p3 Q X r_1 r_3 M_4)) ∧ (r_20 = 0 → (X "java/lang/IndexOutOfBoundsException" M_4))))))))) (fun En => X En M))
set_option maxRecDepth 100000 in
set_option maxHeartbeats 4000000 in
theorem met_X5_sampled {l : Launch} (hl : l.stackTraces = false) {E : MK} {o : Nat} {p1 : Int32} {p2 : Int32} {p3 : Int32} {M : MEM} {Q : Int32 → MEM → Prop} {X : String → MEM → Prop} (hw : wp_X5_sampled o p1 p2 p3 M Q X) : gMet l E yX5_sampled rmX5_sampled [gR E o, .int p1, .int p2, .int p3] M (qI Q) (qE X) := by
  obtain ⟨hk0, hw⟩ := hw
  refine g_met hl (cc := cX5_sampled) (maxL := 6) (ret := (some .int)) (hh := []) (loc := [(0, gR E o), (1, .int p1), (2, .int p2), (3, .int p3)]) (by decide +kernel) (Or.inl ⟨tw665, rfl⟩) (Nat.le_of_ble_eq_true rfl) rfl (fun K hK C => ?_)
  have C : GC K E cX5_sampled RX5 6 (some .int) [] rmX5_sampled := C
  refine g_aload_n C dX5_sampled_0 0 rfl rfl ?_
  refine g_iload_n C dX5_sampled_1 1 rfl rfl ?_
  refine g_cV C dX5_sampled_2 (met_X5_slotAt C.st hw) (gc_X5_slotAt _ (Nat.le_of_ble_eq_true rfl) (Nat.le_of_ble_eq_true rfl)) tw315 tw317 twp3 (ci := 5) rfl (by decide) hk0 rfl (Nat.le_of_ble_eq_true rfl) (c2 := 1) (s2 := 6) rfl rfl (Nat.le_of_ble_eq_true rfl) (Nat.le_of_ble_eq_true rfl) rfl (kRp (fun r_1 hw => ?_)) (fun En M9 hx => g_out C (noTab _) (Nat.le_of_ble_eq_true rfl) (Nat.le_of_ble_eq_true rfl) (by obtain ⟨rfl, hx⟩ := hx; exact hx))
  refine g_astore C dX5_sampled_5 (Nat.le_of_ble_eq_true rfl) (loc' := [(4, gR E r_1), (0, gR E o), (1, .int p1), (2, .int p2), (3, .int p3)]) rfl ?_
  refine g_aload_n C dX5_sampled_7 1 rfl rfl ?_
  refine g_aload C (j := 0) dX5_sampled_8 0 rfl ?_
  refine g_cV C dX5_sampled_10 (met_X5_sampleOf C.st hw) (gc_X5_sampleOf _ (Nat.le_of_ble_eq_true rfl) (Nat.le_of_ble_eq_true rfl)) tw460 tw462 twp6 (ci := 5) rfl (by decide) hk0 rfl (Nat.le_of_ble_eq_true rfl) (c2 := 1) (s2 := 6) rfl rfl (Nat.le_of_ble_eq_true rfl) (Nat.le_of_ble_eq_true rfl) rfl (kR' (fun r_3 M_4 hw => ?_)) tNo
  refine g_astore C dX5_sampled_13 (Nat.le_of_ble_eq_true rfl) (loc' := [(5, gR E r_3), (4, gR E r_1), (0, gR E o), (1, .int p1), (2, .int p2), (3, .int p3)]) rfl ?_
  refine g_aload C (j := 0) dX5_sampled_15 1 rfl ?_
  obtain ⟨hk_7, hw⟩ := hw
  refine g_cV C dX5_sampled_17 (met_X4_isFilled C.st hw) (gc_X4_isFilled _ (Nat.le_of_ble_eq_true rfl) (Nat.le_of_ble_eq_true rfl)) tw223 tw224 tw225 (ci := 4) rfl (by decide) hk_7 rfl (Nat.le_of_ble_eq_true rfl) (c2 := 1) (s2 := 6) rfl rfl (Nat.le_of_ble_eq_true rfl) (Nat.le_of_ble_eq_true rfl) rfl (kIp (fun r_5 hw => ?_)) tNo
  have hJ50 : wp_X5_sampled_J50 p2 p3 Q X r_1 r_3 M_4 → GX K E 6 M_4 [(2, .int p2), (3, .int p3), (4, gR E r_1), (5, gR E r_3)] [] 50 1 6 (gEnd K E (qI Q) (qE X) rmX5_sampled.cells rmX5_sampled.slots) := by
    intro hw
    refine g_iload_n C dX5_sampled_50 1 rfl rfl ?_
    refine g_i2l C dX5_sampled_51 ?_
    refine g_lconst C dX5_sampled_52 (v := 0) rfl ?_
    refine g_ldc2 C dX5_sampled_53 tw667 ?_
    refine g_cS C dX5_sampled_56 (met_X5_isWithin C.st hw) (gc_X5_isWithin _ (Nat.le_of_ble_eq_true rfl) (Nat.le_of_ble_eq_true rfl)) (Or.inl tw336) tw337 rfl (Nat.le_of_ble_eq_true rfl) (c2 := 1) (s2 := 6) rfl rfl (Nat.le_of_ble_eq_true rfl) (Nat.le_of_ble_eq_true rfl) rfl (kIp (fun r_8 hw => ?_)) tNo
    refine g_cS C dX5_sampled_59 (met_X5_needRange C.st hw) (gc_X5_needRange _ (Nat.le_of_ble_eq_true rfl) (Nat.le_of_ble_eq_true rfl)) (Or.inl tw341) tw342 rfl (Nat.le_of_ble_eq_true rfl) (c2 := 2) (s2 := 12) rfl rfl (Nat.le_of_ble_eq_true rfl) (Nat.le_of_ble_eq_true rfl) rfl (kVp (fun hw => ?_)) (fun En M9 hx => g_out C (noTab _) (Nat.le_of_ble_eq_true rfl) (Nat.le_of_ble_eq_true rfl) (by obtain ⟨rfl, hx⟩ := hx; exact hx))
    refine g_aload C (j := 0) dX5_sampled_62 2 rfl ?_
    refine g_cS C dX5_sampled_64 (met_X5_needFilled C.st hw) (gc_X5_needFilled _ (Nat.le_of_ble_eq_true rfl) (Nat.le_of_ble_eq_true rfl)) (Or.inl tw405) tw406 rfl (Nat.le_of_ble_eq_true rfl) (c2 := 3) (s2 := 18) rfl rfl (Nat.le_of_ble_eq_true rfl) (Nat.le_of_ble_eq_true rfl) rfl (kVp (fun hw => ?_)) (fun En M9 hx => g_out C (noTab _) (Nat.le_of_ble_eq_true rfl) (Nat.le_of_ble_eq_true rfl) (by obtain ⟨rfl, hx⟩ := hx; exact hx))
    refine g_aload C (j := 0) dX5_sampled_67 3 rfl ?_
    refine g_iload_n C dX5_sampled_69 0 rfl rfl ?_
    refine g_iload_n C dX5_sampled_70 1 rfl rfl ?_
    obtain ⟨hk_16, hw⟩ := hw
    refine g_cV C dX5_sampled_71 (met_X3_partAt C.st hw) (gc_X3_partAt _ (Nat.le_of_ble_eq_true rfl) (Nat.le_of_ble_eq_true rfl)) tw668 tw669 tw670 (ci := 3) rfl (by decide) hk_16 rfl (Nat.le_of_ble_eq_true rfl) (c2 := 3) (s2 := 18) rfl rfl (Nat.le_of_ble_eq_true rfl) (Nat.le_of_ble_eq_true rfl) rfl (kIp (fun r_14 hw => ?_)) tNo
    exact g_iret C dX5_sampled_74 (Nat.le_of_ble_eq_true rfl) (Nat.le_of_ble_eq_true rfl) ⟨_, rfl, hw⟩
  refine g_if_eq C dX5_sampled_20 (tgt := 50) (by decide) (fun c20 => ?_) (fun c20 => ?_)
  · have hw := hw.1 c20
    refine g_sub [4, 5, 1, 0] rfl ?_
    exact hJ50 hw
  · have hw := hw.2 c20
    refine g_iload_n C dX5_sampled_23 4 rfl rfl ?_
    refine g_i2l C dX5_sampled_24 ?_
    refine g_lconst C dX5_sampled_25 (v := 0) rfl ?_
    refine g_aload C (j := 0) dX5_sampled_26 0 rfl ?_
    obtain ⟨hk_19, hw⟩ := hw
    refine g_cV C dX5_sampled_28 (met_X3_size C.st hw) (gc_X3_size _ (Nat.le_of_ble_eq_true rfl) (Nat.le_of_ble_eq_true rfl)) tw522 tw523 tw524 (ci := 3) rfl (by decide) hk_19 rfl (Nat.le_of_ble_eq_true rfl) (c2 := 1) (s2 := 6) rfl rfl (Nat.le_of_ble_eq_true rfl) (Nat.le_of_ble_eq_true rfl) rfl (kIp (fun r_17 hw => ?_)) tNo
    refine g_iconst C dX5_sampled_31 (v := 1) rfl ?_
    refine g_isub C dX5_sampled_32 ?_
    refine g_i2l C dX5_sampled_33 ?_
    refine g_cS C dX5_sampled_34 (met_X5_isWithin C.st hw) (gc_X5_isWithin _ (Nat.le_of_ble_eq_true rfl) (Nat.le_of_ble_eq_true rfl)) (Or.inl tw336) tw337 rfl (Nat.le_of_ble_eq_true rfl) (c2 := 1) (s2 := 6) rfl rfl (Nat.le_of_ble_eq_true rfl) (Nat.le_of_ble_eq_true rfl) rfl (kIp (fun r_20 hw => ?_)) tNo
    refine g_if_ne C dX5_sampled_37 (tgt := 50) (by decide) (fun c37 => ?_) (fun c37 => ?_)
    · have hw := hw.1 c37
      refine g_sub [4, 5, 1, 0] rfl ?_
      exact hJ50 hw
    · have hw := hw.2 c37
      exact g_throwS C fit_IndexOutOfBoundsException fit_N tw319 tw12 (List.mem_of_getElem? (i := 8) rfl) (List.mem_of_getElem? (i := 0) rfl) at_RX5_220 dX5_sampled_40 dX5_sampled_43 dX5_sampled_44 dX5_sampled_46 dX5_sampled_49 (noTab _) (Nat.le_of_ble_eq_true rfl) (Nat.le_of_ble_eq_true rfl) (Nat.le_of_ble_eq_true rfl) (Nat.le_of_ble_eq_true rfl) (Nat.le_of_ble_eq_true rfl) (Nat.le_of_ble_eq_true rfl) hw
theorem gc_X5_sampled : ∀ rm : Room, rmX5_sampled.frames + 1 ≤ rm.frames → 8 + (6 + 11) + rmX5_sampled.locals ≤ rm.locals → gCall yX5_sampled 6 3 rmX5_sampled rm := fun rm a b => ⟨Or.inl ⟨_, _, tw665⟩, tw1, ⟨by decide, by decide⟩, by decide, a, b⟩
abbrev rmX5_mix : Room := { frames := 7, cells := 3, slots := 18, locals := 103 }
def wp_X5_mix (o : Nat) (p1 : Int32) (p2 : Int32) (M : MEM) (Q : Int64 → Prop) (X : String → Prop) : Prop := KD o = (15, 0) ∧ (wp_X5_slotAt o p1 M (fun r_1 => wp_X5_needItem r_1 p2 M (wp_X5_needFilled r_1 M (KD r_1 = (14, 0) ∧ wp_X4_mixAt r_1 p2 M (fun r_7 => Q r_7)) X) X) X)
set_option maxRecDepth 100000 in
set_option maxHeartbeats 4000000 in
theorem met_X5_mix {l : Launch} (hl : l.stackTraces = false) {E : MK} {o : Nat} {p1 : Int32} {p2 : Int32} {M : MEM} {Q : Int64 → Prop} {X : String → Prop} (hw : wp_X5_mix o p1 p2 M Q X) : gMet l E yX5_mix rmX5_mix [gR E o, .int p1, .int p2] M (qLp M Q) (gXp M X) := by
  obtain ⟨hk0, hw⟩ := hw
  refine g_met hl (cc := cX5_mix) (maxL := 4) (ret := (some .long)) (hh := []) (loc := [(0, gR E o), (1, .int p1), (2, .int p2)]) (by decide +kernel) (Or.inl ⟨tw682, rfl⟩) (Nat.le_of_ble_eq_true rfl) rfl (fun K hK C => ?_)
  have C : GC K E cX5_mix RX5 4 (some .long) [] rmX5_mix := C
  refine g_aload_n C dX5_mix_0 0 rfl rfl ?_
  refine g_iload_n C dX5_mix_1 1 rfl rfl ?_
  refine g_cV C dX5_mix_2 (met_X5_slotAt C.st hw) (gc_X5_slotAt _ (Nat.le_of_ble_eq_true rfl) (Nat.le_of_ble_eq_true rfl)) tw315 tw317 twp3 (ci := 5) rfl (by decide) hk0 rfl (Nat.le_of_ble_eq_true rfl) (c2 := 1) (s2 := 6) rfl rfl (Nat.le_of_ble_eq_true rfl) (Nat.le_of_ble_eq_true rfl) rfl (kRp (fun r_1 hw => ?_)) (fun En M9 hx => g_out C (noTab _) (Nat.le_of_ble_eq_true rfl) (Nat.le_of_ble_eq_true rfl) hx)
  refine g_astore_n C dX5_mix_5 rfl (Nat.le_of_ble_eq_true rfl) (loc' := [(3, gR E r_1), (0, gR E o), (1, .int p1), (2, .int p2)]) rfl ?_
  refine g_aload_n C dX5_mix_6 0 rfl rfl ?_
  refine g_iload_n C dX5_mix_7 3 rfl rfl ?_
  refine g_cS C dX5_mix_8 (met_X5_needItem C.st hw) (gc_X5_needItem _ (Nat.le_of_ble_eq_true rfl) (Nat.le_of_ble_eq_true rfl)) (Or.inl tw650) tw651 rfl (Nat.le_of_ble_eq_true rfl) (c2 := 2) (s2 := 12) rfl rfl (Nat.le_of_ble_eq_true rfl) (Nat.le_of_ble_eq_true rfl) rfl (kVp (fun hw => ?_)) (fun En M9 hx => g_out C (noTab _) (Nat.le_of_ble_eq_true rfl) (Nat.le_of_ble_eq_true rfl) hx)
  refine g_aload_n C dX5_mix_11 0 rfl rfl ?_
  refine g_cS C dX5_mix_12 (met_X5_needFilled C.st hw) (gc_X5_needFilled _ (Nat.le_of_ble_eq_true rfl) (Nat.le_of_ble_eq_true rfl)) (Or.inl tw405) tw406 rfl (Nat.le_of_ble_eq_true rfl) (c2 := 3) (s2 := 18) rfl rfl (Nat.le_of_ble_eq_true rfl) (Nat.le_of_ble_eq_true rfl) rfl (kVp (fun hw => ?_)) (fun En M9 hx => g_out C (noTab _) (Nat.le_of_ble_eq_true rfl) (Nat.le_of_ble_eq_true rfl) hx)
  refine g_aload_n C dX5_mix_15 0 rfl rfl ?_
  refine g_iload_n C dX5_mix_16 3 rfl rfl ?_
  obtain ⟨hk_9, hw⟩ := hw
  refine g_cV C dX5_mix_17 (met_X4_mixAt C.st hw) (gc_X4_mixAt _ (Nat.le_of_ble_eq_true rfl) (Nat.le_of_ble_eq_true rfl)) tw683 tw471 tw472 (ci := 4) rfl (by decide) hk_9 rfl (Nat.le_of_ble_eq_true rfl) (c2 := 3) (s2 := 18) rfl rfl (Nat.le_of_ble_eq_true rfl) (Nat.le_of_ble_eq_true rfl) rfl (kLp (fun r_7 hw => ?_)) tNo
  exact g_lret C dX5_mix_20 (Nat.le_of_ble_eq_true rfl) (Nat.le_of_ble_eq_true rfl) ⟨_, rfl, rfl, hw⟩
theorem gc_X5_mix : ∀ rm : Room, rmX5_mix.frames + 1 ≤ rm.frames → 8 + (4 + 11) + rmX5_mix.locals ≤ rm.locals → gCall yX5_mix 4 2 rmX5_mix rm := fun rm a b => ⟨Or.inl ⟨_, _, tw682⟩, tw1, ⟨by decide, by decide⟩, by decide, a, b⟩
abbrev rmX5_needItems : Room := { frames := 6, cells := 1, slots := 6, locals := 82 }
def wp_X5_needItems (p1 : Nat) (M : MEM) (Q : Prop) (X : String → Prop) : Prop := KD p1 = (13, 0) ∧ wp_X3_size p1 M (fun r_1 => (¬ r_1 = 0 → (Q)) ∧ (r_1 = 0 → (X "java/util/NoSuchElementException")))
set_option maxRecDepth 100000 in
set_option maxHeartbeats 4000000 in
theorem met_X5_needItems {l : Launch} (hl : l.stackTraces = false) {E : MK} {p1 : Nat} {M : MEM} {Q : Prop} {X : String → Prop} (hw : wp_X5_needItems p1 M Q X) : gMet l E yX5_needItems rmX5_needItems [gR E p1] M (qVp M Q) (gXp M X) := by
  refine g_met hl (cc := cX5_needItems) (maxL := 1) (ret := none) (hh := []) (loc := [(0, gR E p1)]) (by decide +kernel) (Or.inl ⟨tw698, rfl⟩) (Nat.le_of_ble_eq_true rfl) rfl (fun K hK C => ?_)
  have C : GC K E cX5_needItems RX5 1 none [] rmX5_needItems := C
  refine g_aload_n C dX5_needItems_0 0 rfl rfl ?_
  obtain ⟨hk_3, hw⟩ := hw
  refine g_cV C dX5_needItems_1 (met_X3_size C.st hw) (gc_X3_size _ (Nat.le_of_ble_eq_true rfl) (Nat.le_of_ble_eq_true rfl)) tw522 tw523 tw524 (ci := 3) rfl (by decide) hk_3 rfl (Nat.le_of_ble_eq_true rfl) (c2 := 0) (s2 := 0) rfl rfl (Nat.le_of_ble_eq_true rfl) (Nat.le_of_ble_eq_true rfl) rfl (kIp (fun r_1 hw => ?_)) tNo
  refine g_if_ne C dX5_needItems_4 (tgt := 18) (by decide) (fun c4 => ?_) (fun c4 => ?_)
  · have hw := hw.1 c4
    exact g_vret C dX5_needItems_18 (Nat.le_of_ble_eq_true rfl) (Nat.le_of_ble_eq_true rfl) ⟨rfl, rfl, hw⟩
  · have hw := hw.2 c4
    exact g_throwXW C nse0 nse1 nse2 nse5 fit_NoSuchElementException fit_N tw699 tw20 (List.mem_of_getElem? (i := 9) rfl) (List.mem_of_getElem? (i := 5) rfl) at_RX5_244 dX5_needItems_7 dX5_needItems_10 dX5_needItems_11 dX5_needItems_14 dX5_needItems_17 (noTab _) (Nat.le_of_ble_eq_true rfl) (Nat.le_of_ble_eq_true rfl) (Nat.le_of_ble_eq_true rfl) (Nat.le_of_ble_eq_true rfl) (Nat.le_of_ble_eq_true rfl) (Nat.le_of_ble_eq_true rfl) ⟨rfl, hw⟩
theorem gc_X5_needItems : ∀ rm : Room, rmX5_needItems.frames + 1 ≤ rm.frames → 8 + (1 + 11) + rmX5_needItems.locals ≤ rm.locals → gCall yX5_needItems 1 1 rmX5_needItems rm := fun rm a b => ⟨Or.inl ⟨_, _, tw698⟩, tw1, ⟨by decide, by decide⟩, by decide, a, b⟩
abbrev rmX5_neededSample : Room := { frames := 7, cells := 2, slots := 12, locals := 133 }
def wp_X5_neededSample (o : Nat) (p1 : Nat) (M : MEM) (Q : Nat → MEM → Prop) (X : String → MEM → Prop) : Prop := KD o = (15, 0) ∧ (wp_X5_needFilled p1 M (wp_X5_sampleOf o p1 M (fun r_3 M_4 => wp_X5_needItems r_3 M_4 (Q r_3 M_4) (fun En => X En M_4))) (fun En => X En M))
set_option maxRecDepth 100000 in
set_option maxHeartbeats 4000000 in
theorem met_X5_neededSample {l : Launch} (hl : l.stackTraces = false) {E : MK} {o : Nat} {p1 : Nat} {M : MEM} {Q : Nat → MEM → Prop} {X : String → MEM → Prop} (hw : wp_X5_neededSample o p1 M Q X) : gMet l E yX5_neededSample rmX5_neededSample [gR E o, gR E p1] M (qR E Q) (qE X) := by
  obtain ⟨hk0, hw⟩ := hw
  refine g_met hl (cc := cX5_neededSample) (maxL := 3) (ret := (some (.object "SampleBench$Sample"))) (hh := []) (loc := [(0, gR E o), (1, gR E p1)]) (by decide +kernel) (Or.inl ⟨tw695, rfl⟩) (Nat.le_of_ble_eq_true rfl) rfl (fun K hK C => ?_)
  have C : GC K E cX5_neededSample RX5 3 (some (.object "SampleBench$Sample")) [] rmX5_neededSample := C
  refine g_aload_n C dX5_neededSample_0 1 rfl rfl ?_
  refine g_cS C dX5_neededSample_1 (met_X5_needFilled C.st hw) (gc_X5_needFilled _ (Nat.le_of_ble_eq_true rfl) (Nat.le_of_ble_eq_true rfl)) (Or.inl tw405) tw406 rfl (Nat.le_of_ble_eq_true rfl) (c2 := 1) (s2 := 6) rfl rfl (Nat.le_of_ble_eq_true rfl) (Nat.le_of_ble_eq_true rfl) rfl (kVp (fun hw => ?_)) (fun En M9 hx => g_out C (noTab _) (Nat.le_of_ble_eq_true rfl) (Nat.le_of_ble_eq_true rfl) (by obtain ⟨rfl, hx⟩ := hx; exact hx))
  refine g_aload_n C dX5_neededSample_4 0 rfl rfl ?_
  refine g_aload_n C dX5_neededSample_5 1 rfl rfl ?_
  refine g_cV C dX5_neededSample_6 (met_X5_sampleOf C.st hw) (gc_X5_sampleOf _ (Nat.le_of_ble_eq_true rfl) (Nat.le_of_ble_eq_true rfl)) tw460 tw462 twp6 (ci := 5) rfl (by decide) hk0 rfl (Nat.le_of_ble_eq_true rfl) (c2 := 1) (s2 := 6) rfl rfl (Nat.le_of_ble_eq_true rfl) (Nat.le_of_ble_eq_true rfl) rfl (kR' (fun r_3 M_4 hw => ?_)) tNo
  refine g_astore_n C dX5_neededSample_9 rfl (Nat.le_of_ble_eq_true rfl) (loc' := [(2, gR E r_3), (0, gR E o), (1, gR E p1)]) rfl ?_
  refine g_aload_n C dX5_neededSample_10 0 rfl rfl ?_
  refine g_cS C dX5_neededSample_11 (met_X5_needItems C.st hw) (gc_X5_needItems _ (Nat.le_of_ble_eq_true rfl) (Nat.le_of_ble_eq_true rfl)) (Or.inl tw696) tw697 rfl (Nat.le_of_ble_eq_true rfl) (c2 := 2) (s2 := 12) rfl rfl (Nat.le_of_ble_eq_true rfl) (Nat.le_of_ble_eq_true rfl) rfl (kVp (fun hw => ?_)) (fun En M9 hx => g_out C (noTab _) (Nat.le_of_ble_eq_true rfl) (Nat.le_of_ble_eq_true rfl) (by obtain ⟨rfl, hx⟩ := hx; exact hx))
  refine g_aload_n C dX5_neededSample_14 0 rfl rfl ?_
  exact g_aret C dX5_neededSample_15 (Nat.le_of_ble_eq_true rfl) (Nat.le_of_ble_eq_true rfl) ⟨_, rfl, hw⟩
theorem gc_X5_neededSample : ∀ rm : Room, rmX5_neededSample.frames + 1 ≤ rm.frames → 8 + (3 + 11) + rmX5_neededSample.locals ≤ rm.locals → gCall yX5_neededSample 3 1 rmX5_neededSample rm := fun rm a b => ⟨Or.inl ⟨_, _, tw695⟩, tw1, ⟨by decide, by decide⟩, by decide, a, b⟩
abbrev rmX5_commonKey : Room := { frames := 8, cells := 3, slots := 18, locals := 155 }
def wp_X5_commonKey_L19 (Q : Int32 → MEM → Prop) (r_3 : Nat) (M_4 : MEM) : Nat → Int32 → Int32 → Int32 → Prop
  | 0, _, _, _ => False
  | n19 + 1, x3_5, x4_6, x5_7 => KD r_3 = (13, 0) ∧ wp_X3_size r_3 M_4 (fun r_8 => (r_8 ≤ x5_7 → (Q x3_5 M_4)) ∧ (¬ r_8 ≤ x5_7 → (wp_X3_partAt r_3 x5_7 1 M_4 (fun r_11 => wp_X3_timesOfKey r_3 r_11 M_4 (fun r_13 => (x4_6 < r_13 → (∀ x5_15 : Int32, x5_15 = x5_7 + 1 → ((wp_X5_commonKey_L19 Q r_3 M_4 n19) r_11 r_13 x5_15))) ∧ (¬ x4_6 < r_13 → ((¬ r_13 = x4_6 → (∀ x5_16 : Int32, x5_16 = x5_7 + 1 → ((wp_X5_commonKey_L19 Q r_3 M_4 n19) x3_5 x4_6 x5_16))) ∧ (r_13 = x4_6 → ((x3_5 ≤ r_11 → (∀ x5_17 : Int32, x5_17 = x5_7 + 1 → ((wp_X5_commonKey_L19 Q r_3 M_4 n19) x3_5 x4_6 x5_17))) ∧ (¬ x3_5 ≤ r_11 → (∀ x5_18 : Int32, x5_18 = x5_7 + 1 → ((wp_X5_commonKey_L19 Q r_3 M_4 n19) r_11 r_13 x5_18))))))))))))
def wp_X5_commonKey (o : Nat) (p1 : Int32) (M : MEM) (Q : Int32 → MEM → Prop) (X : String → MEM → Prop) : Prop := KD o = (15, 0) ∧ (wp_X5_slotAt o p1 M (fun r_1 => wp_X5_neededSample o r_1 M (fun r_3 M_4 => ∃ m19 : Nat, wp_X5_commonKey_L19 Q r_3 M_4 m19 99 0 0) X) (fun En => X En M))
set_option maxRecDepth 100000 in
set_option maxHeartbeats 4000000 in
theorem met_X5_commonKey {l : Launch} (hl : l.stackTraces = false) {E : MK} {o : Nat} {p1 : Int32} {M : MEM} {Q : Int32 → MEM → Prop} {X : String → MEM → Prop} (hw : wp_X5_commonKey o p1 M Q X) : gMet l E yX5_commonKey rmX5_commonKey [gR E o, .int p1] M (qI Q) (qE X) := by
  obtain ⟨hk0, hw⟩ := hw
  refine g_met hl (cc := cX5_commonKey) (maxL := 8) (ret := (some .int)) (hh := []) (loc := [(0, gR E o), (1, .int p1)]) (by decide +kernel) (Or.inl ⟨tw691, rfl⟩) (Nat.le_of_ble_eq_true rfl) rfl (fun K hK C => ?_)
  have C : GC K E cX5_commonKey RX5 8 (some .int) [] rmX5_commonKey := C
  refine g_aload_n C dX5_commonKey_0 0 rfl rfl ?_
  refine g_aload_n C dX5_commonKey_1 0 rfl rfl ?_
  refine g_iload_n C dX5_commonKey_2 1 rfl rfl ?_
  refine g_cV C dX5_commonKey_3 (met_X5_slotAt C.st hw) (gc_X5_slotAt _ (Nat.le_of_ble_eq_true rfl) (Nat.le_of_ble_eq_true rfl)) tw315 tw317 twp3 (ci := 5) rfl (by decide) hk0 rfl (Nat.le_of_ble_eq_true rfl) (c2 := 1) (s2 := 6) rfl rfl (Nat.le_of_ble_eq_true rfl) (Nat.le_of_ble_eq_true rfl) rfl (kRp (fun r_1 hw => ?_)) (fun En M9 hx => g_out C (noTab _) (Nat.le_of_ble_eq_true rfl) (Nat.le_of_ble_eq_true rfl) (by obtain ⟨rfl, hx⟩ := hx; exact hx))
  refine g_cV C dX5_commonKey_6 (met_X5_neededSample C.st hw) (gc_X5_neededSample _ (Nat.le_of_ble_eq_true rfl) (Nat.le_of_ble_eq_true rfl)) tw692 tw694 twp18 (ci := 5) rfl (by decide) hk0 rfl (Nat.le_of_ble_eq_true rfl) (c2 := 3) (s2 := 18) rfl rfl (Nat.le_of_ble_eq_true rfl) (Nat.le_of_ble_eq_true rfl) rfl (kR' (fun r_3 M_4 hw => ?_)) (fun En M9 hx => g_out C (noTab _) (Nat.le_of_ble_eq_true rfl) (Nat.le_of_ble_eq_true rfl) hx)
  refine g_astore_n C dX5_commonKey_9 rfl (Nat.le_of_ble_eq_true rfl) (loc' := [(2, gR E r_3), (0, gR E o), (1, .int p1)]) rfl ?_
  refine g_bipush C dX5_commonKey_10 (v := 99) rfl ?_
  refine g_istore_n C dX5_commonKey_12 rfl (Nat.le_of_ble_eq_true rfl) (loc' := [(3, .int 99), (2, gR E r_3), (0, gR E o), (1, .int p1)]) rfl ?_
  refine g_iconst C dX5_commonKey_13 (v := 0) rfl ?_
  refine g_istore C dX5_commonKey_14 (Nat.le_of_ble_eq_true rfl) (loc' := [(4, .int 0), (3, .int 99), (2, gR E r_3), (0, gR E o), (1, .int p1)]) rfl ?_
  refine g_iconst C dX5_commonKey_16 (v := 0) rfl ?_
  refine g_istore C dX5_commonKey_17 (Nat.le_of_ble_eq_true rfl) (loc' := [(5, .int 0), (4, .int 0), (3, .int 99), (2, gR E r_3), (0, gR E o), (1, .int p1)]) rfl ?_
  obtain ⟨m19, hw⟩ := hw
  have hL19 : ∀ (n19 : Nat) (x3_5 : Int32) (x4_6 : Int32) (x5_7 : Int32), wp_X5_commonKey_L19 Q r_3 M_4 n19 x3_5 x4_6 x5_7 → GX K E 8 M_4 [(2, gR E r_3), (3, .int x3_5), (4, .int x4_6), (5, .int x5_7)] [] 19 3 18 (gEnd K E (qI Q) (qE X) rmX5_commonKey.cells rmX5_commonKey.slots) := by
    intro n19
    induction n19 with
    | zero => intro _ _ _ hw; exact False.elim hw
    | succ n19 ih19 =>
      intro x3_5 x4_6 x5_7 hw
      refine g_iload C (j := 0) dX5_commonKey_19 3 rfl ?_
      refine g_aload_n C dX5_commonKey_21 0 rfl rfl ?_
      obtain ⟨hk_10, hw⟩ := hw
      refine g_cV C dX5_commonKey_22 (met_X3_size C.st hw) (gc_X3_size _ (Nat.le_of_ble_eq_true rfl) (Nat.le_of_ble_eq_true rfl)) tw522 tw523 tw524 (ci := 3) rfl (by decide) hk_10 rfl (Nat.le_of_ble_eq_true rfl) (c2 := 3) (s2 := 18) rfl rfl (Nat.le_of_ble_eq_true rfl) (Nat.le_of_ble_eq_true rfl) rfl (kIp (fun r_8 hw => ?_)) tNo
      refine g_icmp_ge C dX5_commonKey_25 (tgt := 78) (by decide) (fun c25 => ?_) (fun c25 => ?_)
      · have hw := hw.1 c25
        refine g_iload_n C dX5_commonKey_78 1 rfl rfl ?_
        exact g_iret C dX5_commonKey_79 (Nat.le_of_ble_eq_true rfl) (Nat.le_of_ble_eq_true rfl) ⟨_, rfl, hw⟩
      · have hw := hw.2 c25
        refine g_aload_n C dX5_commonKey_28 0 rfl rfl ?_
        refine g_iload C (j := 0) dX5_commonKey_29 3 rfl ?_
        refine g_iconst C dX5_commonKey_31 (v := 1) rfl ?_
        refine g_cV C dX5_commonKey_32 (met_X3_partAt C.st hw) (gc_X3_partAt _ (Nat.le_of_ble_eq_true rfl) (Nat.le_of_ble_eq_true rfl)) tw668 tw669 tw670 (ci := 3) rfl (by decide) hk_10 rfl (Nat.le_of_ble_eq_true rfl) (c2 := 3) (s2 := 18) rfl rfl (Nat.le_of_ble_eq_true rfl) (Nat.le_of_ble_eq_true rfl) rfl (kIp (fun r_11 hw => ?_)) tNo
        refine g_istore C dX5_commonKey_35 (Nat.le_of_ble_eq_true rfl) (loc' := [(6, .int r_11), (2, gR E r_3), (3, .int x3_5), (4, .int x4_6), (5, .int x5_7)]) rfl ?_
        refine g_aload_n C dX5_commonKey_37 1 rfl rfl ?_
        refine g_iload C (j := 0) dX5_commonKey_38 0 rfl ?_
        refine g_cV C dX5_commonKey_40 (met_X3_timesOfKey C.st hw) (gc_X3_timesOfKey _ (Nat.le_of_ble_eq_true rfl) (Nat.le_of_ble_eq_true rfl)) tw715 tw716 tw717 (ci := 3) rfl (by decide) hk_10 rfl (Nat.le_of_ble_eq_true rfl) (c2 := 3) (s2 := 18) rfl rfl (Nat.le_of_ble_eq_true rfl) (Nat.le_of_ble_eq_true rfl) rfl (kIp (fun r_13 hw => ?_)) tNo
        refine g_istore C dX5_commonKey_43 (Nat.le_of_ble_eq_true rfl) (loc' := [(7, .int r_13), (6, .int r_11), (2, gR E r_3), (3, .int x3_5), (4, .int x4_6), (5, .int x5_7)]) rfl ?_
        refine g_iload C (j := 0) dX5_commonKey_45 0 rfl ?_
        refine g_iload C (j := 0) dX5_commonKey_47 4 rfl ?_
        refine g_icmp_gt C dX5_commonKey_49 (tgt := 65) (by decide) (fun c49 => ?_) (fun c49 => ?_)
        · have hw := hw.1 c49
          refine g_iload C (j := 0) dX5_commonKey_65 1 rfl ?_
          refine g_istore_n C dX5_commonKey_67 rfl (Nat.le_of_ble_eq_true rfl) (loc' := [(3, .int r_11), (7, .int r_13), (6, .int r_11), (2, gR E r_3), (4, .int x4_6), (5, .int x5_7)]) rfl ?_
          refine g_iload C (j := 0) dX5_commonKey_68 1 rfl ?_
          refine g_istore C dX5_commonKey_70 (Nat.le_of_ble_eq_true rfl) (loc' := [(4, .int r_13), (3, .int r_11), (7, .int r_13), (6, .int r_11), (2, gR E r_3), (5, .int x5_7)]) rfl ?_
          obtain ⟨x5_15, ex5_15⟩ : ∃ y : Int32, y = x5_7 + 1 := ⟨_, rfl⟩
          have hw := hw x5_15 ex5_15
          refine g_iinc C (j := 0) dX5_commonKey_72 5 rfl (v := x5_15) (by rw [ex5_15]; rfl) (Nat.le_of_ble_eq_true rfl) (loc' := [(5, .int x5_15), (4, .int r_13), (3, .int r_11), (7, .int r_13), (6, .int r_11), (2, gR E r_3)]) rfl ?_
          refine g_goto C dX5_commonKey_75 (tgt := 19) (by decide) ?_
          refine g_sub [5, 2, 1, 0] rfl ?_
          exact ih19 _ _ _ hw
        · have hw := hw.2 c49
          refine g_iload C (j := 0) dX5_commonKey_52 0 rfl ?_
          refine g_iload C (j := 0) dX5_commonKey_54 4 rfl ?_
          refine g_icmp_ne C dX5_commonKey_56 (tgt := 72) (by decide) (fun c56 => ?_) (fun c56 => ?_)
          · have hw := hw.1 c56
            obtain ⟨x5_16, ex5_16⟩ : ∃ y : Int32, y = x5_7 + 1 := ⟨_, rfl⟩
            have hw := hw x5_16 ex5_16
            refine g_iinc C (j := 0) dX5_commonKey_72 5 rfl (v := x5_16) (by rw [ex5_16]; rfl) (Nat.le_of_ble_eq_true rfl) (loc' := [(5, .int x5_16), (7, .int r_13), (6, .int r_11), (2, gR E r_3), (3, .int x3_5), (4, .int x4_6)]) rfl ?_
            refine g_goto C dX5_commonKey_75 (tgt := 19) (by decide) ?_
            refine g_sub [3, 4, 5, 0] rfl ?_
            exact ih19 _ _ _ hw
          · have hw := hw.2 c56
            refine g_iload C (j := 0) dX5_commonKey_59 1 rfl ?_
            refine g_iload_n C dX5_commonKey_61 3 rfl rfl ?_
            refine g_icmp_ge C dX5_commonKey_62 (tgt := 72) (by decide) (fun c62 => ?_) (fun c62 => ?_)
            · have hw := hw.1 c62
              obtain ⟨x5_17, ex5_17⟩ : ∃ y : Int32, y = x5_7 + 1 := ⟨_, rfl⟩
              have hw := hw x5_17 ex5_17
              refine g_iinc C (j := 0) dX5_commonKey_72 5 rfl (v := x5_17) (by rw [ex5_17]; rfl) (Nat.le_of_ble_eq_true rfl) (loc' := [(5, .int x5_17), (7, .int r_13), (6, .int r_11), (2, gR E r_3), (3, .int x3_5), (4, .int x4_6)]) rfl ?_
              refine g_goto C dX5_commonKey_75 (tgt := 19) (by decide) ?_
              refine g_sub [3, 4, 5, 0] rfl ?_
              exact ih19 _ _ _ hw
            · have hw := hw.2 c62
              refine g_iload C (j := 0) dX5_commonKey_65 1 rfl ?_
              refine g_istore_n C dX5_commonKey_67 rfl (Nat.le_of_ble_eq_true rfl) (loc' := [(3, .int r_11), (7, .int r_13), (6, .int r_11), (2, gR E r_3), (4, .int x4_6), (5, .int x5_7)]) rfl ?_
              refine g_iload C (j := 0) dX5_commonKey_68 1 rfl ?_
              refine g_istore C dX5_commonKey_70 (Nat.le_of_ble_eq_true rfl) (loc' := [(4, .int r_13), (3, .int r_11), (7, .int r_13), (6, .int r_11), (2, gR E r_3), (5, .int x5_7)]) rfl ?_
              obtain ⟨x5_18, ex5_18⟩ : ∃ y : Int32, y = x5_7 + 1 := ⟨_, rfl⟩
              have hw := hw x5_18 ex5_18
              refine g_iinc C (j := 0) dX5_commonKey_72 5 rfl (v := x5_18) (by rw [ex5_18]; rfl) (Nat.le_of_ble_eq_true rfl) (loc' := [(5, .int x5_18), (4, .int r_13), (3, .int r_11), (7, .int r_13), (6, .int r_11), (2, gR E r_3)]) rfl ?_
              refine g_goto C dX5_commonKey_75 (tgt := 19) (by decide) ?_
              refine g_sub [5, 2, 1, 0] rfl ?_
              exact ih19 _ _ _ hw
  refine g_sub [3, 2, 1, 0] rfl ?_
  exact hL19 m19 _ _ _ hw
theorem gc_X5_commonKey : ∀ rm : Room, rmX5_commonKey.frames + 1 ≤ rm.frames → 8 + (8 + 11) + rmX5_commonKey.locals ≤ rm.locals → gCall yX5_commonKey 8 1 rmX5_commonKey rm := fun rm a b => ⟨Or.inl ⟨_, _, tw691⟩, tw1, ⟨by decide, by decide⟩, by decide, a, b⟩
abbrev rmX5_reason : Room := { frames := 7, cells := 3, slots := 18, locals := 133 }
def wp_X5_reason (o : Nat) (p1 : Int32) (p2 : Int32) (M : MEM) (Q : Int32 → MEM → Prop) (X : String → MEM → Prop) : Prop := KD o = (15, 0) ∧ (wp_X5_slotAt o p1 M (fun r_1 => wp_X5_needItem r_1 p2 M (wp_X5_needFilled r_1 M (wp_X5_sampleOf o r_1 M (fun r_7 M_8 => KD r_7 = (13, 0) ∧ wp_X3_placeOf r_7 p2 M_8 (fun r_9 => (r_9 < 0 → (wp_X3_rankOf r_7 p2 M_8 (fun r_12 => (0 ≤ r_12 → (KD r_1 = (14, 0) ∧ ((¬ (mI M_8 r_1 1) = 2 → (Q 2 M_8)) ∧ ((mI M_8 r_1 1) = 2 → (wp_X4_limitFor r_1 p2 M_8 (fun r_15 => (¬ r_15 = 0 → (Q 2 M_8)) ∧ (r_15 = 0 → (Q 3 M_8)))))))) ∧ (¬ 0 ≤ r_12 → (Q 1 M_8))))) ∧ (¬ r_9 < 0 → (Q 0 M_8))))) (fun En => X En M)) (fun En => X En M)) (fun En => X En M))
set_option maxRecDepth 100000 in
set_option maxHeartbeats 4000000 in
theorem met_X5_reason {l : Launch} (hl : l.stackTraces = false) {E : MK} {o : Nat} {p1 : Int32} {p2 : Int32} {M : MEM} {Q : Int32 → MEM → Prop} {X : String → MEM → Prop} (hw : wp_X5_reason o p1 p2 M Q X) : gMet l E yX5_reason rmX5_reason [gR E o, .int p1, .int p2] M (qI Q) (qE X) := by
  obtain ⟨hk0, hw⟩ := hw
  refine g_met hl (cc := cX5_reason) (maxL := 5) (ret := (some .int)) (hh := []) (loc := [(0, gR E o), (1, .int p1), (2, .int p2)]) (by decide +kernel) (Or.inl ⟨tw726, rfl⟩) (Nat.le_of_ble_eq_true rfl) rfl (fun K hK C => ?_)
  have C : GC K E cX5_reason RX5 5 (some .int) [] rmX5_reason := C
  refine g_aload_n C dX5_reason_0 0 rfl rfl ?_
  refine g_iload_n C dX5_reason_1 1 rfl rfl ?_
  refine g_cV C dX5_reason_2 (met_X5_slotAt C.st hw) (gc_X5_slotAt _ (Nat.le_of_ble_eq_true rfl) (Nat.le_of_ble_eq_true rfl)) tw315 tw317 twp3 (ci := 5) rfl (by decide) hk0 rfl (Nat.le_of_ble_eq_true rfl) (c2 := 1) (s2 := 6) rfl rfl (Nat.le_of_ble_eq_true rfl) (Nat.le_of_ble_eq_true rfl) rfl (kRp (fun r_1 hw => ?_)) (fun En M9 hx => g_out C (noTab _) (Nat.le_of_ble_eq_true rfl) (Nat.le_of_ble_eq_true rfl) (by obtain ⟨rfl, hx⟩ := hx; exact hx))
  refine g_astore_n C dX5_reason_5 rfl (Nat.le_of_ble_eq_true rfl) (loc' := [(3, gR E r_1), (0, gR E o), (1, .int p1), (2, .int p2)]) rfl ?_
  refine g_aload_n C dX5_reason_6 0 rfl rfl ?_
  refine g_iload_n C dX5_reason_7 3 rfl rfl ?_
  refine g_cS C dX5_reason_8 (met_X5_needItem C.st hw) (gc_X5_needItem _ (Nat.le_of_ble_eq_true rfl) (Nat.le_of_ble_eq_true rfl)) (Or.inl tw650) tw651 rfl (Nat.le_of_ble_eq_true rfl) (c2 := 2) (s2 := 12) rfl rfl (Nat.le_of_ble_eq_true rfl) (Nat.le_of_ble_eq_true rfl) rfl (kVp (fun hw => ?_)) (fun En M9 hx => g_out C (noTab _) (Nat.le_of_ble_eq_true rfl) (Nat.le_of_ble_eq_true rfl) (by obtain ⟨rfl, hx⟩ := hx; exact hx))
  refine g_aload_n C dX5_reason_11 0 rfl rfl ?_
  refine g_cS C dX5_reason_12 (met_X5_needFilled C.st hw) (gc_X5_needFilled _ (Nat.le_of_ble_eq_true rfl) (Nat.le_of_ble_eq_true rfl)) (Or.inl tw405) tw406 rfl (Nat.le_of_ble_eq_true rfl) (c2 := 3) (s2 := 18) rfl rfl (Nat.le_of_ble_eq_true rfl) (Nat.le_of_ble_eq_true rfl) rfl (kVp (fun hw => ?_)) (fun En M9 hx => g_out C (noTab _) (Nat.le_of_ble_eq_true rfl) (Nat.le_of_ble_eq_true rfl) (by obtain ⟨rfl, hx⟩ := hx; exact hx))
  refine g_aload_n C dX5_reason_15 1 rfl rfl ?_
  refine g_aload_n C dX5_reason_16 0 rfl rfl ?_
  refine g_cV C dX5_reason_17 (met_X5_sampleOf C.st hw) (gc_X5_sampleOf _ (Nat.le_of_ble_eq_true rfl) (Nat.le_of_ble_eq_true rfl)) tw460 tw462 twp6 (ci := 5) rfl (by decide) hk0 rfl (Nat.le_of_ble_eq_true rfl) (c2 := 3) (s2 := 18) rfl rfl (Nat.le_of_ble_eq_true rfl) (Nat.le_of_ble_eq_true rfl) rfl (kR' (fun r_7 M_8 hw => ?_)) tNo
  refine g_astore C dX5_reason_20 (Nat.le_of_ble_eq_true rfl) (loc' := [(4, gR E r_7), (3, gR E r_1), (0, gR E o), (1, .int p1), (2, .int p2)]) rfl ?_
  refine g_aload C (j := 0) dX5_reason_22 0 rfl ?_
  refine g_iload_n C dX5_reason_24 4 rfl rfl ?_
  obtain ⟨hk_11, hw⟩ := hw
  refine g_cV C dX5_reason_25 (met_X3_placeOf C.st hw) (gc_X3_placeOf _ (Nat.le_of_ble_eq_true rfl) (Nat.le_of_ble_eq_true rfl)) tw655 tw656 tw657 (ci := 3) rfl (by decide) hk_11 rfl (Nat.le_of_ble_eq_true rfl) (c2 := 3) (s2 := 18) rfl rfl (Nat.le_of_ble_eq_true rfl) (Nat.le_of_ble_eq_true rfl) rfl (kIp (fun r_9 hw => ?_)) tNo
  refine g_if_lt C dX5_reason_28 (tgt := 33) (by decide) (fun c28 => ?_) (fun c28 => ?_)
  · have hw := hw.1 c28
    refine g_aload C (j := 0) dX5_reason_33 0 rfl ?_
    refine g_iload_n C dX5_reason_35 4 rfl rfl ?_
    refine g_cV C dX5_reason_36 (met_X3_rankOf C.st hw) (gc_X3_rankOf _ (Nat.le_of_ble_eq_true rfl) (Nat.le_of_ble_eq_true rfl)) tw727 tw728 tw729 (ci := 3) rfl (by decide) hk_11 rfl (Nat.le_of_ble_eq_true rfl) (c2 := 3) (s2 := 18) rfl rfl (Nat.le_of_ble_eq_true rfl) (Nat.le_of_ble_eq_true rfl) rfl (kIp (fun r_12 hw => ?_)) tNo
    refine g_if_ge C dX5_reason_39 (tgt := 44) (by decide) (fun c39 => ?_) (fun c39 => ?_)
    · have hw := hw.1 c39
      refine g_aload_n C dX5_reason_44 1 rfl rfl ?_
      obtain ⟨hk_14, hw⟩ := hw
      refine gf_RX5_124 C hk_14 dX5_reason_45 ?_
      refine g_iconst C dX5_reason_48 (v := 2) rfl ?_
      refine g_icmp_ne C dX5_reason_49 (tgt := 64) (by decide) (fun c49 => ?_) (fun c49 => ?_)
      · have hw := hw.1 c49
        refine g_iconst C dX5_reason_64 (v := 2) rfl ?_
        exact g_iret C dX5_reason_65 (Nat.le_of_ble_eq_true rfl) (Nat.le_of_ble_eq_true rfl) ⟨_, rfl, hw⟩
      · have hw := hw.2 c49
        refine g_aload_n C dX5_reason_52 1 rfl rfl ?_
        refine g_iload_n C dX5_reason_53 4 rfl rfl ?_
        refine g_cV C dX5_reason_54 (met_X4_limitFor C.st hw) (gc_X4_limitFor _ (Nat.le_of_ble_eq_true rfl) (Nat.le_of_ble_eq_true rfl)) tw731 tw515 tw516 (ci := 4) rfl (by decide) hk_14 rfl (Nat.le_of_ble_eq_true rfl) (c2 := 3) (s2 := 18) rfl rfl (Nat.le_of_ble_eq_true rfl) (Nat.le_of_ble_eq_true rfl) rfl (kIp (fun r_15 hw => ?_)) tNo
        refine g_if_ne C dX5_reason_57 (tgt := 64) (by decide) (fun c57 => ?_) (fun c57 => ?_)
        · have hw := hw.1 c57
          refine g_iconst C dX5_reason_64 (v := 2) rfl ?_
          exact g_iret C dX5_reason_65 (Nat.le_of_ble_eq_true rfl) (Nat.le_of_ble_eq_true rfl) ⟨_, rfl, hw⟩
        · have hw := hw.2 c57
          refine g_iconst C dX5_reason_60 (v := 3) rfl ?_
          refine g_goto C dX5_reason_61 (tgt := 65) (by decide) ?_
          exact g_iret C dX5_reason_65 (Nat.le_of_ble_eq_true rfl) (Nat.le_of_ble_eq_true rfl) ⟨_, rfl, hw⟩
    · have hw := hw.2 c39
      refine g_iconst C dX5_reason_42 (v := 1) rfl ?_
      exact g_iret C dX5_reason_43 (Nat.le_of_ble_eq_true rfl) (Nat.le_of_ble_eq_true rfl) ⟨_, rfl, hw⟩
  · have hw := hw.2 c28
    refine g_iconst C dX5_reason_31 (v := 0) rfl ?_
    exact g_iret C dX5_reason_32 (Nat.le_of_ble_eq_true rfl) (Nat.le_of_ble_eq_true rfl) ⟨_, rfl, hw⟩
theorem gc_X5_reason : ∀ rm : Room, rmX5_reason.frames + 1 ≤ rm.frames → 8 + (5 + 11) + rmX5_reason.locals ≤ rm.locals → gCall yX5_reason 5 2 rmX5_reason rm := fun rm a b => ⟨Or.inl ⟨_, _, tw726⟩, tw1, ⟨by decide, by decide⟩, by decide, a, b⟩
abbrev rmX5_needed : Room := { frames := 7, cells := 4, slots := 24, locals := 133 }
def wp_X5_needed (o : Nat) (p1 : Int32) (p2 : Int32) (M : MEM) (Q : Int32 → MEM → Prop) (X : String → MEM → Prop) : Prop := KD o = (15, 0) ∧ (wp_X5_slotAt o p1 M (fun r_1 => wp_X5_needItem r_1 p2 M (wp_X5_needFilled r_1 M (wp_X5_sampleOf o r_1 M (fun r_7 M_8 => KD r_7 = (13, 0) ∧ wp_X3_rankOf r_7 p2 M_8 (fun r_9 => (0 ≤ r_9 → (Q (r_9 + 1) M_8)) ∧ (¬ 0 ≤ r_9 → (X "java/util/NoSuchElementException" M_8))))) (fun En => X En M)) (fun En => X En M)) (fun En => X En M))
set_option maxRecDepth 100000 in
set_option maxHeartbeats 4000000 in
theorem met_X5_needed {l : Launch} (hl : l.stackTraces = false) {E : MK} {o : Nat} {p1 : Int32} {p2 : Int32} {M : MEM} {Q : Int32 → MEM → Prop} {X : String → MEM → Prop} (hw : wp_X5_needed o p1 p2 M Q X) : gMet l E yX5_needed rmX5_needed [gR E o, .int p1, .int p2] M (qI Q) (qE X) := by
  obtain ⟨hk0, hw⟩ := hw
  refine g_met hl (cc := cX5_needed) (maxL := 5) (ret := (some .int)) (hh := []) (loc := [(0, gR E o), (1, .int p1), (2, .int p2)]) (by decide +kernel) (Or.inl ⟨tw738, rfl⟩) (Nat.le_of_ble_eq_true rfl) rfl (fun K hK C => ?_)
  have C : GC K E cX5_needed RX5 5 (some .int) [] rmX5_needed := C
  refine g_aload_n C dX5_needed_0 0 rfl rfl ?_
  refine g_iload_n C dX5_needed_1 1 rfl rfl ?_
  refine g_cV C dX5_needed_2 (met_X5_slotAt C.st hw) (gc_X5_slotAt _ (Nat.le_of_ble_eq_true rfl) (Nat.le_of_ble_eq_true rfl)) tw315 tw317 twp3 (ci := 5) rfl (by decide) hk0 rfl (Nat.le_of_ble_eq_true rfl) (c2 := 1) (s2 := 6) rfl rfl (Nat.le_of_ble_eq_true rfl) (Nat.le_of_ble_eq_true rfl) rfl (kRp (fun r_1 hw => ?_)) (fun En M9 hx => g_out C (noTab _) (Nat.le_of_ble_eq_true rfl) (Nat.le_of_ble_eq_true rfl) (by obtain ⟨rfl, hx⟩ := hx; exact hx))
  refine g_astore_n C dX5_needed_5 rfl (Nat.le_of_ble_eq_true rfl) (loc' := [(3, gR E r_1), (0, gR E o), (1, .int p1), (2, .int p2)]) rfl ?_
  refine g_aload_n C dX5_needed_6 0 rfl rfl ?_
  refine g_iload_n C dX5_needed_7 3 rfl rfl ?_
  refine g_cS C dX5_needed_8 (met_X5_needItem C.st hw) (gc_X5_needItem _ (Nat.le_of_ble_eq_true rfl) (Nat.le_of_ble_eq_true rfl)) (Or.inl tw650) tw651 rfl (Nat.le_of_ble_eq_true rfl) (c2 := 2) (s2 := 12) rfl rfl (Nat.le_of_ble_eq_true rfl) (Nat.le_of_ble_eq_true rfl) rfl (kVp (fun hw => ?_)) (fun En M9 hx => g_out C (noTab _) (Nat.le_of_ble_eq_true rfl) (Nat.le_of_ble_eq_true rfl) (by obtain ⟨rfl, hx⟩ := hx; exact hx))
  refine g_aload_n C dX5_needed_11 0 rfl rfl ?_
  refine g_cS C dX5_needed_12 (met_X5_needFilled C.st hw) (gc_X5_needFilled _ (Nat.le_of_ble_eq_true rfl) (Nat.le_of_ble_eq_true rfl)) (Or.inl tw405) tw406 rfl (Nat.le_of_ble_eq_true rfl) (c2 := 3) (s2 := 18) rfl rfl (Nat.le_of_ble_eq_true rfl) (Nat.le_of_ble_eq_true rfl) rfl (kVp (fun hw => ?_)) (fun En M9 hx => g_out C (noTab _) (Nat.le_of_ble_eq_true rfl) (Nat.le_of_ble_eq_true rfl) (by obtain ⟨rfl, hx⟩ := hx; exact hx))
  refine g_aload_n C dX5_needed_15 1 rfl rfl ?_
  refine g_aload_n C dX5_needed_16 0 rfl rfl ?_
  refine g_cV C dX5_needed_17 (met_X5_sampleOf C.st hw) (gc_X5_sampleOf _ (Nat.le_of_ble_eq_true rfl) (Nat.le_of_ble_eq_true rfl)) tw460 tw462 twp6 (ci := 5) rfl (by decide) hk0 rfl (Nat.le_of_ble_eq_true rfl) (c2 := 3) (s2 := 18) rfl rfl (Nat.le_of_ble_eq_true rfl) (Nat.le_of_ble_eq_true rfl) rfl (kR' (fun r_7 M_8 hw => ?_)) tNo
  refine g_iload_n C dX5_needed_20 3 rfl rfl ?_
  obtain ⟨hk_11, hw⟩ := hw
  refine g_cV C dX5_needed_21 (met_X3_rankOf C.st hw) (gc_X3_rankOf _ (Nat.le_of_ble_eq_true rfl) (Nat.le_of_ble_eq_true rfl)) tw727 tw728 tw729 (ci := 3) rfl (by decide) hk_11 rfl (Nat.le_of_ble_eq_true rfl) (c2 := 3) (s2 := 18) rfl rfl (Nat.le_of_ble_eq_true rfl) (Nat.le_of_ble_eq_true rfl) rfl (kIp (fun r_9 hw => ?_)) tNo
  refine g_istore C dX5_needed_24 (Nat.le_of_ble_eq_true rfl) (loc' := [(4, .int r_9), (3, gR E r_1), (0, gR E o), (1, .int p1), (2, .int p2)]) rfl ?_
  refine g_iload C (j := 0) dX5_needed_26 0 rfl ?_
  refine g_if_ge C dX5_needed_28 (tgt := 41) (by decide) (fun c28 => ?_) (fun c28 => ?_)
  · have hw := hw.1 c28
    refine g_iload C (j := 0) dX5_needed_41 0 rfl ?_
    refine g_iconst C dX5_needed_43 (v := 1) rfl ?_
    refine g_iadd C dX5_needed_44 ?_
    exact g_iret C dX5_needed_45 (Nat.le_of_ble_eq_true rfl) (Nat.le_of_ble_eq_true rfl) ⟨_, rfl, hw⟩
  · have hw := hw.2 c28
    exact g_throwX C nse0 nse1 nse2 nse5 fit_NoSuchElementException fit_N tw699 tw20 (List.mem_of_getElem? (i := 10) rfl) (List.mem_of_getElem? (i := 5) rfl) at_RX5_244 dX5_needed_31 dX5_needed_34 dX5_needed_35 dX5_needed_37 dX5_needed_40 (noTab _) (Nat.le_of_ble_eq_true rfl) (Nat.le_of_ble_eq_true rfl) (Nat.le_of_ble_eq_true rfl) (Nat.le_of_ble_eq_true rfl) (Nat.le_of_ble_eq_true rfl) (Nat.le_of_ble_eq_true rfl) hw
theorem gc_X5_needed : ∀ rm : Room, rmX5_needed.frames + 1 ≤ rm.frames → 8 + (5 + 11) + rmX5_needed.locals ≤ rm.locals → gCall yX5_needed 5 2 rmX5_needed rm := fun rm a b => ⟨Or.inl ⟨_, _, tw738⟩, tw1, ⟨by decide, by decide⟩, by decide, a, b⟩
abbrev rmX5_margin : Room := { frames := 7, cells := 4, slots := 24, locals := 133 }
def wp_X5_margin (o : Nat) (p1 : Int32) (p2 : Int32) (M : MEM) (Q : Int32 → MEM → Prop) (X : String → MEM → Prop) : Prop := KD o = (15, 0) ∧ (wp_X5_slotAt o p1 M (fun r_1 => wp_X5_needItem r_1 p2 M (wp_X5_needFilled r_1 M (wp_X5_sampleOf o r_1 M (fun r_7 M_8 => KD r_7 = (13, 0) ∧ wp_X3_placeOf r_7 p2 M_8 (fun r_9 => (0 ≤ r_9 → (KD r_1 = (14, 0) ∧ wp_X4_limitFor r_1 p2 M_8 (fun r_12 => wp_X3_rankOf r_7 p2 M_8 (fun r_15 => Q (r_12 - r_15) M_8)))) ∧ (¬ 0 ≤ r_9 → (X "java/util/NoSuchElementException" M_8))))) (fun En => X En M)) (fun En => X En M)) (fun En => X En M))
set_option maxRecDepth 100000 in
set_option maxHeartbeats 4000000 in
theorem met_X5_margin {l : Launch} (hl : l.stackTraces = false) {E : MK} {o : Nat} {p1 : Int32} {p2 : Int32} {M : MEM} {Q : Int32 → MEM → Prop} {X : String → MEM → Prop} (hw : wp_X5_margin o p1 p2 M Q X) : gMet l E yX5_margin rmX5_margin [gR E o, .int p1, .int p2] M (qI Q) (qE X) := by
  obtain ⟨hk0, hw⟩ := hw
  refine g_met hl (cc := cX5_margin) (maxL := 5) (ret := (some .int)) (hh := []) (loc := [(0, gR E o), (1, .int p1), (2, .int p2)]) (by decide +kernel) (Or.inl ⟨tw746, rfl⟩) (Nat.le_of_ble_eq_true rfl) rfl (fun K hK C => ?_)
  have C : GC K E cX5_margin RX5 5 (some .int) [] rmX5_margin := C
  refine g_aload_n C dX5_margin_0 0 rfl rfl ?_
  refine g_iload_n C dX5_margin_1 1 rfl rfl ?_
  refine g_cV C dX5_margin_2 (met_X5_slotAt C.st hw) (gc_X5_slotAt _ (Nat.le_of_ble_eq_true rfl) (Nat.le_of_ble_eq_true rfl)) tw315 tw317 twp3 (ci := 5) rfl (by decide) hk0 rfl (Nat.le_of_ble_eq_true rfl) (c2 := 1) (s2 := 6) rfl rfl (Nat.le_of_ble_eq_true rfl) (Nat.le_of_ble_eq_true rfl) rfl (kRp (fun r_1 hw => ?_)) (fun En M9 hx => g_out C (noTab _) (Nat.le_of_ble_eq_true rfl) (Nat.le_of_ble_eq_true rfl) (by obtain ⟨rfl, hx⟩ := hx; exact hx))
  refine g_astore_n C dX5_margin_5 rfl (Nat.le_of_ble_eq_true rfl) (loc' := [(3, gR E r_1), (0, gR E o), (1, .int p1), (2, .int p2)]) rfl ?_
  refine g_aload_n C dX5_margin_6 0 rfl rfl ?_
  refine g_iload_n C dX5_margin_7 3 rfl rfl ?_
  refine g_cS C dX5_margin_8 (met_X5_needItem C.st hw) (gc_X5_needItem _ (Nat.le_of_ble_eq_true rfl) (Nat.le_of_ble_eq_true rfl)) (Or.inl tw650) tw651 rfl (Nat.le_of_ble_eq_true rfl) (c2 := 2) (s2 := 12) rfl rfl (Nat.le_of_ble_eq_true rfl) (Nat.le_of_ble_eq_true rfl) rfl (kVp (fun hw => ?_)) (fun En M9 hx => g_out C (noTab _) (Nat.le_of_ble_eq_true rfl) (Nat.le_of_ble_eq_true rfl) (by obtain ⟨rfl, hx⟩ := hx; exact hx))
  refine g_aload_n C dX5_margin_11 0 rfl rfl ?_
  refine g_cS C dX5_margin_12 (met_X5_needFilled C.st hw) (gc_X5_needFilled _ (Nat.le_of_ble_eq_true rfl) (Nat.le_of_ble_eq_true rfl)) (Or.inl tw405) tw406 rfl (Nat.le_of_ble_eq_true rfl) (c2 := 3) (s2 := 18) rfl rfl (Nat.le_of_ble_eq_true rfl) (Nat.le_of_ble_eq_true rfl) rfl (kVp (fun hw => ?_)) (fun En M9 hx => g_out C (noTab _) (Nat.le_of_ble_eq_true rfl) (Nat.le_of_ble_eq_true rfl) (by obtain ⟨rfl, hx⟩ := hx; exact hx))
  refine g_aload_n C dX5_margin_15 1 rfl rfl ?_
  refine g_aload_n C dX5_margin_16 0 rfl rfl ?_
  refine g_cV C dX5_margin_17 (met_X5_sampleOf C.st hw) (gc_X5_sampleOf _ (Nat.le_of_ble_eq_true rfl) (Nat.le_of_ble_eq_true rfl)) tw460 tw462 twp6 (ci := 5) rfl (by decide) hk0 rfl (Nat.le_of_ble_eq_true rfl) (c2 := 3) (s2 := 18) rfl rfl (Nat.le_of_ble_eq_true rfl) (Nat.le_of_ble_eq_true rfl) rfl (kR' (fun r_7 M_8 hw => ?_)) tNo
  refine g_astore C dX5_margin_20 (Nat.le_of_ble_eq_true rfl) (loc' := [(4, gR E r_7), (3, gR E r_1), (0, gR E o), (1, .int p1), (2, .int p2)]) rfl ?_
  refine g_aload C (j := 0) dX5_margin_22 0 rfl ?_
  refine g_iload_n C dX5_margin_24 4 rfl rfl ?_
  obtain ⟨hk_11, hw⟩ := hw
  refine g_cV C dX5_margin_25 (met_X3_placeOf C.st hw) (gc_X3_placeOf _ (Nat.le_of_ble_eq_true rfl) (Nat.le_of_ble_eq_true rfl)) tw655 tw656 tw657 (ci := 3) rfl (by decide) hk_11 rfl (Nat.le_of_ble_eq_true rfl) (c2 := 3) (s2 := 18) rfl rfl (Nat.le_of_ble_eq_true rfl) (Nat.le_of_ble_eq_true rfl) rfl (kIp (fun r_9 hw => ?_)) tNo
  refine g_if_ge C dX5_margin_28 (tgt := 41) (by decide) (fun c28 => ?_) (fun c28 => ?_)
  · have hw := hw.1 c28
    refine g_aload_n C dX5_margin_41 1 rfl rfl ?_
    refine g_iload_n C dX5_margin_42 4 rfl rfl ?_
    obtain ⟨hk_14, hw⟩ := hw
    refine g_cV C dX5_margin_43 (met_X4_limitFor C.st hw) (gc_X4_limitFor _ (Nat.le_of_ble_eq_true rfl) (Nat.le_of_ble_eq_true rfl)) tw731 tw515 tw516 (ci := 4) rfl (by decide) hk_14 rfl (Nat.le_of_ble_eq_true rfl) (c2 := 3) (s2 := 18) rfl rfl (Nat.le_of_ble_eq_true rfl) (Nat.le_of_ble_eq_true rfl) rfl (kIp (fun r_12 hw => ?_)) tNo
    refine g_aload C (j := 0) dX5_margin_46 0 rfl ?_
    refine g_iload_n C dX5_margin_48 4 rfl rfl ?_
    refine g_cV C dX5_margin_49 (met_X3_rankOf C.st hw) (gc_X3_rankOf _ (Nat.le_of_ble_eq_true rfl) (Nat.le_of_ble_eq_true rfl)) tw727 tw728 tw729 (ci := 3) rfl (by decide) hk_11 rfl (Nat.le_of_ble_eq_true rfl) (c2 := 3) (s2 := 18) rfl rfl (Nat.le_of_ble_eq_true rfl) (Nat.le_of_ble_eq_true rfl) rfl (kIp (fun r_15 hw => ?_)) tNo
    refine g_isub C dX5_margin_52 ?_
    exact g_iret C dX5_margin_53 (Nat.le_of_ble_eq_true rfl) (Nat.le_of_ble_eq_true rfl) ⟨_, rfl, hw⟩
  · have hw := hw.2 c28
    exact g_throwX C nse0 nse1 nse2 nse5 fit_NoSuchElementException fit_N tw699 tw20 (List.mem_of_getElem? (i := 11) rfl) (List.mem_of_getElem? (i := 5) rfl) at_RX5_244 dX5_margin_31 dX5_margin_34 dX5_margin_35 dX5_margin_37 dX5_margin_40 (noTab _) (Nat.le_of_ble_eq_true rfl) (Nat.le_of_ble_eq_true rfl) (Nat.le_of_ble_eq_true rfl) (Nat.le_of_ble_eq_true rfl) (Nat.le_of_ble_eq_true rfl) (Nat.le_of_ble_eq_true rfl) hw
theorem gc_X5_margin : ∀ rm : Room, rmX5_margin.frames + 1 ≤ rm.frames → 8 + (5 + 11) + rmX5_margin.locals ≤ rm.locals → gCall yX5_margin 5 2 rmX5_margin rm := fun rm a b => ⟨Or.inl ⟨_, _, tw746⟩, tw1, ⟨by decide, by decide⟩, by decide, a, b⟩
abbrev rmX5_stratum : Room := { frames := 7, cells := 4, slots := 24, locals := 133 }
def wp_X5_stratum_J93 (p3 : Int32) (r_1 : Nat) (M_12 : MEM) (K56 : Int32 → Int32 → Prop) (x7_14 : Int32) (x8_15 : Int32) : Prop := (2 ≤ p3 → ((4 ≤ p3 → (wp_X4_partAt r_1 x8_15 3 M_12 (fun r_22 => ∀ x7_24 : Int32, x7_24 = x7_14 + r_22 → (∀ x8_25 : Int32, x8_25 = x8_15 + 1 → (K56 x7_24 x8_25))))) ∧ (¬ 4 ≤ p3 → (wp_X4_partAt r_1 x8_15 4 M_12 (fun r_26 => ∀ x7_28 : Int32, x7_28 = x7_14 + r_26 → (∀ x8_29 : Int32, x8_29 = x8_15 + 1 → (K56 x7_28 x8_29))))))) ∧ (¬ 2 ≤ p3 → (∀ x7_30 : Int32, x7_30 = x7_14 + 1 → (∀ x8_31 : Int32, x8_31 = x8_15 + 1 → (K56 x7_30 x8_31))))
def wp_X5_stratum_L56 (p2 : Int32) (p3 : Int32) (Q : Int32 → MEM → Prop) (r_1 : Nat) (r_11 : Nat) (M_12 : MEM) (s_13 : Int32) : Nat → Int32 → Int32 → Prop
  | 0, _, _ => False
  | n56 + 1, x7_14, x8_15 => KD r_1 = (14, 0) ∧ wp_X4_count r_1 M_12 (fun r_16 => (r_16 ≤ x8_15 → (Q x7_14 M_12)) ∧ (¬ r_16 ≤ x8_15 → (wp_X4_partAt r_1 x8_15 2 M_12 (fun r_19 => (¬ r_19 = p2 → (∀ x8_21 : Int32, x8_21 = x8_15 + 1 → ((wp_X5_stratum_L56 p2 p3 Q r_1 r_11 M_12 s_13 n56) x7_14 x8_21))) ∧ (r_19 = p2 → ((s_13 = 0 → (wp_X5_stratum_J93 p3 r_1 M_12 (wp_X5_stratum_L56 p2 p3 Q r_1 r_11 M_12 s_13 n56) x7_14 x8_15)) ∧ (¬ s_13 = 0 → (KD r_11 = (13, 0) ∧ wp_X3_placeOf r_11 x8_15 M_12 (fun r_32 => (r_32 < 0 → (∀ x8_35 : Int32, x8_35 = x8_15 + 1 → ((wp_X5_stratum_L56 p2 p3 Q r_1 r_11 M_12 s_13 n56) x7_14 x8_35))) ∧ (¬ r_32 < 0 → (wp_X5_stratum_J93 p3 r_1 M_12 (wp_X5_stratum_L56 p2 p3 Q r_1 r_11 M_12 s_13 n56) x7_14 x8_15)))))))))))
def wp_X5_stratum_J48 (p2 : Int32) (p3 : Int32) (Q : Int32 → MEM → Prop) (r_1 : Nat) (r_11 : Nat) (M_12 : MEM) (s_13 : Int32) : Prop := ∃ m56 : Nat, wp_X5_stratum_L56 p2 p3 Q r_1 r_11 M_12 s_13 m56 0 0
def wp_X5_stratum (o : Nat) (p1 : Int32) (p2 : Int32) (p3 : Int32) (M : MEM) (Q : Int32 → MEM → Prop) (X : String → MEM → Prop) : Prop := KD o = (15, 0) ∧ (wp_X5_slotAt o p1 M (fun r_1 => wp_X5_needStratum p2 M (wp_X5_isWithin p3.toInt64 0 5 M (fun r_5 => wp_X5_needRange r_5 M (wp_X5_needFilled r_1 M (wp_X5_sampleOf o r_1 M (fun r_11 M_12 => (¬ (p3 - p3 / 2 * 2) = 1 → (wp_X5_stratum_J48 p2 p3 Q r_1 r_11 M_12 0)) ∧ ((p3 - p3 / 2 * 2) = 1 → (wp_X5_stratum_J48 p2 p3 Q r_1 r_11 M_12 1)))) (fun En => X En M)) (fun En => X En M))) (fun En => X En M)) (fun En => X En M))
set_option maxRecDepth 100000 in
set_option maxHeartbeats 4000000 in
theorem met_X5_stratum {l : Launch} (hl : l.stackTraces = false) {E : MK} {o : Nat} {p1 : Int32} {p2 : Int32} {p3 : Int32} {M : MEM} {Q : Int32 → MEM → Prop} {X : String → MEM → Prop} (hw : wp_X5_stratum o p1 p2 p3 M Q X) : gMet l E yX5_stratum rmX5_stratum [gR E o, .int p1, .int p2, .int p3] M (qI Q) (qE X) := by
  obtain ⟨hk0, hw⟩ := hw
  refine g_met hl (cc := cX5_stratum) (maxL := 9) (ret := (some .int)) (hh := []) (loc := [(0, gR E o), (1, .int p1), (2, .int p2), (3, .int p3)]) (by decide +kernel) (Or.inl ⟨tw754, rfl⟩) (Nat.le_of_ble_eq_true rfl) rfl (fun K hK C => ?_)
  have C : GC K E cX5_stratum RX5 9 (some .int) [] rmX5_stratum := C
  refine g_aload_n C dX5_stratum_0 0 rfl rfl ?_
  refine g_iload_n C dX5_stratum_1 1 rfl rfl ?_
  refine g_cV C dX5_stratum_2 (met_X5_slotAt C.st hw) (gc_X5_slotAt _ (Nat.le_of_ble_eq_true rfl) (Nat.le_of_ble_eq_true rfl)) tw315 tw317 twp3 (ci := 5) rfl (by decide) hk0 rfl (Nat.le_of_ble_eq_true rfl) (c2 := 1) (s2 := 6) rfl rfl (Nat.le_of_ble_eq_true rfl) (Nat.le_of_ble_eq_true rfl) rfl (kRp (fun r_1 hw => ?_)) (fun En M9 hx => g_out C (noTab _) (Nat.le_of_ble_eq_true rfl) (Nat.le_of_ble_eq_true rfl) (by obtain ⟨rfl, hx⟩ := hx; exact hx))
  refine g_astore C dX5_stratum_5 (Nat.le_of_ble_eq_true rfl) (loc' := [(4, gR E r_1), (0, gR E o), (1, .int p1), (2, .int p2), (3, .int p3)]) rfl ?_
  refine g_iload_n C dX5_stratum_7 3 rfl rfl ?_
  refine g_cS C dX5_stratum_8 (met_X5_needStratum C.st hw) (gc_X5_needStratum _ (Nat.le_of_ble_eq_true rfl) (Nat.le_of_ble_eq_true rfl)) (Or.inl tw542) tw543 rfl (Nat.le_of_ble_eq_true rfl) (c2 := 2) (s2 := 12) rfl rfl (Nat.le_of_ble_eq_true rfl) (Nat.le_of_ble_eq_true rfl) rfl (kVp (fun hw => ?_)) (fun En M9 hx => g_out C (noTab _) (Nat.le_of_ble_eq_true rfl) (Nat.le_of_ble_eq_true rfl) (by obtain ⟨rfl, hx⟩ := hx; exact hx))
  refine g_iload_n C dX5_stratum_11 4 rfl rfl ?_
  refine g_i2l C dX5_stratum_12 ?_
  refine g_lconst C dX5_stratum_13 (v := 0) rfl ?_
  refine g_ldc2 C dX5_stratum_14 tw654 ?_
  refine g_cS C dX5_stratum_17 (met_X5_isWithin C.st hw) (gc_X5_isWithin _ (Nat.le_of_ble_eq_true rfl) (Nat.le_of_ble_eq_true rfl)) (Or.inl tw336) tw337 rfl (Nat.le_of_ble_eq_true rfl) (c2 := 2) (s2 := 12) rfl rfl (Nat.le_of_ble_eq_true rfl) (Nat.le_of_ble_eq_true rfl) rfl (kIp (fun r_5 hw => ?_)) tNo
  refine g_cS C dX5_stratum_20 (met_X5_needRange C.st hw) (gc_X5_needRange _ (Nat.le_of_ble_eq_true rfl) (Nat.le_of_ble_eq_true rfl)) (Or.inl tw341) tw342 rfl (Nat.le_of_ble_eq_true rfl) (c2 := 3) (s2 := 18) rfl rfl (Nat.le_of_ble_eq_true rfl) (Nat.le_of_ble_eq_true rfl) rfl (kVp (fun hw => ?_)) (fun En M9 hx => g_out C (noTab _) (Nat.le_of_ble_eq_true rfl) (Nat.le_of_ble_eq_true rfl) (by obtain ⟨rfl, hx⟩ := hx; exact hx))
  refine g_aload C (j := 0) dX5_stratum_23 0 rfl ?_
  refine g_cS C dX5_stratum_25 (met_X5_needFilled C.st hw) (gc_X5_needFilled _ (Nat.le_of_ble_eq_true rfl) (Nat.le_of_ble_eq_true rfl)) (Or.inl tw405) tw406 rfl (Nat.le_of_ble_eq_true rfl) (c2 := 4) (s2 := 24) rfl rfl (Nat.le_of_ble_eq_true rfl) (Nat.le_of_ble_eq_true rfl) rfl (kVp (fun hw => ?_)) (fun En M9 hx => g_out C (noTab _) (Nat.le_of_ble_eq_true rfl) (Nat.le_of_ble_eq_true rfl) (by obtain ⟨rfl, hx⟩ := hx; exact hx))
  refine g_aload_n C dX5_stratum_28 1 rfl rfl ?_
  refine g_aload C (j := 0) dX5_stratum_29 0 rfl ?_
  refine g_cV C dX5_stratum_31 (met_X5_sampleOf C.st hw) (gc_X5_sampleOf _ (Nat.le_of_ble_eq_true rfl) (Nat.le_of_ble_eq_true rfl)) tw460 tw462 twp6 (ci := 5) rfl (by decide) hk0 rfl (Nat.le_of_ble_eq_true rfl) (c2 := 4) (s2 := 24) rfl rfl (Nat.le_of_ble_eq_true rfl) (Nat.le_of_ble_eq_true rfl) rfl (kR' (fun r_11 M_12 hw => ?_)) tNo
  refine g_astore C dX5_stratum_34 (Nat.le_of_ble_eq_true rfl) (loc' := [(5, gR E r_11), (4, gR E r_1), (0, gR E o), (1, .int p1), (2, .int p2), (3, .int p3)]) rfl ?_
  refine g_iload_n C dX5_stratum_36 5 rfl rfl ?_
  refine g_iconst C dX5_stratum_37 (v := 2) rfl ?_
  refine g_irem C dX5_stratum_38 (by decide) ?_
  refine g_iconst C dX5_stratum_39 (v := 1) rfl ?_
  have hJ48 : ∀ (s_13 : Int32), wp_X5_stratum_J48 p2 p3 Q r_1 r_11 M_12 s_13 → GX K E 9 M_12 [(2, .int p2), (3, .int p3), (4, gR E r_1), (5, gR E r_11)] [.int s_13] 48 4 24 (gEnd K E (qI Q) (qE X) rmX5_stratum.cells rmX5_stratum.slots) := by
    intro s_13 hw
    refine g_istore C dX5_stratum_48 (Nat.le_of_ble_eq_true rfl) (loc' := [(6, .int s_13), (2, .int p2), (3, .int p3), (4, gR E r_1), (5, gR E r_11)]) rfl ?_
    refine g_iconst C dX5_stratum_50 (v := 0) rfl ?_
    refine g_istore C dX5_stratum_51 (Nat.le_of_ble_eq_true rfl) (loc' := [(7, .int 0), (6, .int s_13), (2, .int p2), (3, .int p3), (4, gR E r_1), (5, gR E r_11)]) rfl ?_
    refine g_iconst C dX5_stratum_53 (v := 0) rfl ?_
    refine g_istore C dX5_stratum_54 (Nat.le_of_ble_eq_true rfl) (loc' := [(8, .int 0), (7, .int 0), (6, .int s_13), (2, .int p2), (3, .int p3), (4, gR E r_1), (5, gR E r_11)]) rfl ?_
    obtain ⟨m56, hw⟩ := hw
    have hL56 : ∀ (n56 : Nat) (x7_14 : Int32) (x8_15 : Int32), wp_X5_stratum_L56 p2 p3 Q r_1 r_11 M_12 s_13 n56 x7_14 x8_15 → GX K E 9 M_12 [(2, .int p2), (3, .int p3), (4, gR E r_1), (5, gR E r_11), (6, .int s_13), (7, .int x7_14), (8, .int x8_15)] [] 56 4 24 (gEnd K E (qI Q) (qE X) rmX5_stratum.cells rmX5_stratum.slots) := by
      intro n56
      induction n56 with
      | zero => intro _ _ hw; exact False.elim hw
      | succ n56 ih56 =>
        intro x7_14 x8_15 hw
        refine g_iload C (j := 0) dX5_stratum_56 6 rfl ?_
        refine g_aload C (j := 0) dX5_stratum_58 2 rfl ?_
        obtain ⟨hk_18, hw⟩ := hw
        refine g_cV C dX5_stratum_60 (met_X4_count C.st hw) (gc_X4_count _ (Nat.le_of_ble_eq_true rfl) (Nat.le_of_ble_eq_true rfl)) tw360 tw361 tw362 (ci := 4) rfl (by decide) hk_18 rfl (Nat.le_of_ble_eq_true rfl) (c2 := 4) (s2 := 24) rfl rfl (Nat.le_of_ble_eq_true rfl) (Nat.le_of_ble_eq_true rfl) rfl (kIp (fun r_16 hw => ?_)) tNo
        refine g_icmp_ge C dX5_stratum_63 (tgt := 130) (by decide) (fun c63 => ?_) (fun c63 => ?_)
        · have hw := hw.1 c63
          refine g_iload C (j := 0) dX5_stratum_130 5 rfl ?_
          exact g_iret C dX5_stratum_132 (Nat.le_of_ble_eq_true rfl) (Nat.le_of_ble_eq_true rfl) ⟨_, rfl, hw⟩
        · have hw := hw.2 c63
          refine g_aload C (j := 0) dX5_stratum_66 2 rfl ?_
          refine g_iload C (j := 0) dX5_stratum_68 6 rfl ?_
          refine g_iconst C dX5_stratum_70 (v := 2) rfl ?_
          refine g_cV C dX5_stratum_71 (met_X4_partAt C.st hw) (gc_X4_partAt _ (Nat.le_of_ble_eq_true rfl) (Nat.le_of_ble_eq_true rfl)) tw576 tw475 tw476 (ci := 4) rfl (by decide) hk_18 rfl (Nat.le_of_ble_eq_true rfl) (c2 := 4) (s2 := 24) rfl rfl (Nat.le_of_ble_eq_true rfl) (Nat.le_of_ble_eq_true rfl) rfl (kIp (fun r_19 hw => ?_)) tNo
          refine g_iload_n C dX5_stratum_74 0 rfl rfl ?_
          refine g_icmp_ne C dX5_stratum_75 (tgt := 124) (by decide) (fun c75 => ?_) (fun c75 => ?_)
          · have hw := hw.1 c75
            obtain ⟨x8_21, ex8_21⟩ : ∃ y : Int32, y = x8_15 + 1 := ⟨_, rfl⟩
            have hw := hw x8_21 ex8_21
            refine g_iinc C (j := 0) dX5_stratum_124 6 rfl (v := x8_21) (by rw [ex8_21]; rfl) (Nat.le_of_ble_eq_true rfl) (loc' := [(8, .int x8_21), (2, .int p2), (3, .int p3), (4, gR E r_1), (5, gR E r_11), (6, .int s_13), (7, .int x7_14)]) rfl ?_
            refine g_goto C dX5_stratum_127 (tgt := 56) (by decide) ?_
            refine g_sub [1, 2, 3, 4, 5, 6, 0] rfl ?_
            exact ih56 _ _ hw
          · have hw := hw.2 c75
            refine g_iload C (j := 0) dX5_stratum_78 4 rfl ?_
            have hJ93 : wp_X5_stratum_J93 p3 r_1 M_12 (wp_X5_stratum_L56 p2 p3 Q r_1 r_11 M_12 s_13 n56) x7_14 x8_15 → GX K E 9 M_12 [(2, .int p2), (3, .int p3), (4, gR E r_1), (5, gR E r_11), (6, .int s_13), (7, .int x7_14), (8, .int x8_15)] [] 93 4 24 (gEnd K E (qI Q) (qE X) rmX5_stratum.cells rmX5_stratum.slots) := by
              intro hw
              refine g_iload C (j := 0) dX5_stratum_93 5 rfl ?_
              refine g_iload_n C dX5_stratum_95 1 rfl rfl ?_
              refine g_iconst C dX5_stratum_96 (v := 2) rfl ?_
              refine g_icmp_ge C dX5_stratum_97 (tgt := 104) (by decide) (fun c97 => ?_) (fun c97 => ?_)
              · have hw := hw.1 c97
                refine g_aload C (j := 0) dX5_stratum_104 2 rfl ?_
                refine g_iload C (j := 0) dX5_stratum_106 6 rfl ?_
                refine g_iload_n C dX5_stratum_108 1 rfl rfl ?_
                refine g_iconst C dX5_stratum_109 (v := 4) rfl ?_
                refine g_icmp_ge C dX5_stratum_110 (tgt := 117) (by decide) (fun c110 => ?_) (fun c110 => ?_)
                · have hw := hw.1 c110
                  refine g_iconst C dX5_stratum_117 (v := 3) rfl ?_
                  refine g_cV C dX5_stratum_118 (met_X4_partAt C.st hw) (gc_X4_partAt _ (Nat.le_of_ble_eq_true rfl) (Nat.le_of_ble_eq_true rfl)) tw576 tw475 tw476 (ci := 4) rfl (by decide) hk_18 rfl (Nat.le_of_ble_eq_true rfl) (c2 := 4) (s2 := 24) rfl rfl (Nat.le_of_ble_eq_true rfl) (Nat.le_of_ble_eq_true rfl) rfl (kIp (fun r_22 hw => ?_)) tNo
                  refine g_iadd C dX5_stratum_121 ?_
                  refine g_nmI (fun x7_24 ex7_24 => ?_)
                  have hw := hw x7_24 ex7_24
                  refine g_istore C dX5_stratum_122 (Nat.le_of_ble_eq_true rfl) (loc' := [(7, .int x7_24), (2, .int p2), (3, .int p3), (4, gR E r_1), (5, gR E r_11), (6, .int s_13), (8, .int x8_15)]) rfl ?_
                  obtain ⟨x8_25, ex8_25⟩ : ∃ y : Int32, y = x8_15 + 1 := ⟨_, rfl⟩
                  have hw := hw x8_25 ex8_25
                  refine g_iinc C (j := 0) dX5_stratum_124 6 rfl (v := x8_25) (by rw [ex8_25]; rfl) (Nat.le_of_ble_eq_true rfl) (loc' := [(8, .int x8_25), (7, .int x7_24), (2, .int p2), (3, .int p3), (4, gR E r_1), (5, gR E r_11), (6, .int s_13)]) rfl ?_
                  refine g_goto C dX5_stratum_127 (tgt := 56) (by decide) ?_
                  refine g_sub [2, 3, 4, 5, 6, 1, 0] rfl ?_
                  exact ih56 _ _ hw
                · have hw := hw.2 c110
                  refine g_iconst C dX5_stratum_113 (v := 4) rfl ?_
                  refine g_goto C dX5_stratum_114 (tgt := 118) (by decide) ?_
                  refine g_cV C dX5_stratum_118 (met_X4_partAt C.st hw) (gc_X4_partAt _ (Nat.le_of_ble_eq_true rfl) (Nat.le_of_ble_eq_true rfl)) tw576 tw475 tw476 (ci := 4) rfl (by decide) hk_18 rfl (Nat.le_of_ble_eq_true rfl) (c2 := 4) (s2 := 24) rfl rfl (Nat.le_of_ble_eq_true rfl) (Nat.le_of_ble_eq_true rfl) rfl (kIp (fun r_26 hw => ?_)) tNo
                  refine g_iadd C dX5_stratum_121 ?_
                  refine g_nmI (fun x7_28 ex7_28 => ?_)
                  have hw := hw x7_28 ex7_28
                  refine g_istore C dX5_stratum_122 (Nat.le_of_ble_eq_true rfl) (loc' := [(7, .int x7_28), (2, .int p2), (3, .int p3), (4, gR E r_1), (5, gR E r_11), (6, .int s_13), (8, .int x8_15)]) rfl ?_
                  obtain ⟨x8_29, ex8_29⟩ : ∃ y : Int32, y = x8_15 + 1 := ⟨_, rfl⟩
                  have hw := hw x8_29 ex8_29
                  refine g_iinc C (j := 0) dX5_stratum_124 6 rfl (v := x8_29) (by rw [ex8_29]; rfl) (Nat.le_of_ble_eq_true rfl) (loc' := [(8, .int x8_29), (7, .int x7_28), (2, .int p2), (3, .int p3), (4, gR E r_1), (5, gR E r_11), (6, .int s_13)]) rfl ?_
                  refine g_goto C dX5_stratum_127 (tgt := 56) (by decide) ?_
                  refine g_sub [2, 3, 4, 5, 6, 1, 0] rfl ?_
                  exact ih56 _ _ hw
              · have hw := hw.2 c97
                refine g_iconst C dX5_stratum_100 (v := 1) rfl ?_
                refine g_goto C dX5_stratum_101 (tgt := 121) (by decide) ?_
                refine g_iadd C dX5_stratum_121 ?_
                refine g_nmI (fun x7_30 ex7_30 => ?_)
                have hw := hw x7_30 ex7_30
                refine g_istore C dX5_stratum_122 (Nat.le_of_ble_eq_true rfl) (loc' := [(7, .int x7_30), (2, .int p2), (3, .int p3), (4, gR E r_1), (5, gR E r_11), (6, .int s_13), (8, .int x8_15)]) rfl ?_
                obtain ⟨x8_31, ex8_31⟩ : ∃ y : Int32, y = x8_15 + 1 := ⟨_, rfl⟩
                have hw := hw x8_31 ex8_31
                refine g_iinc C (j := 0) dX5_stratum_124 6 rfl (v := x8_31) (by rw [ex8_31]; rfl) (Nat.le_of_ble_eq_true rfl) (loc' := [(8, .int x8_31), (7, .int x7_30), (2, .int p2), (3, .int p3), (4, gR E r_1), (5, gR E r_11), (6, .int s_13)]) rfl ?_
                refine g_goto C dX5_stratum_127 (tgt := 56) (by decide) ?_
                refine g_sub [2, 3, 4, 5, 6, 1, 0] rfl ?_
                exact ih56 _ _ hw
            refine g_if_eq C dX5_stratum_80 (tgt := 93) (by decide) (fun c80 => ?_) (fun c80 => ?_)
            · have hw := hw.1 c80
              exact hJ93 hw
            · have hw := hw.2 c80
              refine g_aload C (j := 0) dX5_stratum_83 3 rfl ?_
              refine g_iload C (j := 0) dX5_stratum_85 6 rfl ?_
              obtain ⟨hk_34, hw⟩ := hw
              refine g_cV C dX5_stratum_87 (met_X3_placeOf C.st hw) (gc_X3_placeOf _ (Nat.le_of_ble_eq_true rfl) (Nat.le_of_ble_eq_true rfl)) tw655 tw656 tw657 (ci := 3) rfl (by decide) hk_34 rfl (Nat.le_of_ble_eq_true rfl) (c2 := 4) (s2 := 24) rfl rfl (Nat.le_of_ble_eq_true rfl) (Nat.le_of_ble_eq_true rfl) rfl (kIp (fun r_32 hw => ?_)) tNo
              refine g_if_lt C dX5_stratum_90 (tgt := 124) (by decide) (fun c90 => ?_) (fun c90 => ?_)
              · have hw := hw.1 c90
                obtain ⟨x8_35, ex8_35⟩ : ∃ y : Int32, y = x8_15 + 1 := ⟨_, rfl⟩
                have hw := hw x8_35 ex8_35
                refine g_iinc C (j := 0) dX5_stratum_124 6 rfl (v := x8_35) (by rw [ex8_35]; rfl) (Nat.le_of_ble_eq_true rfl) (loc' := [(8, .int x8_35), (2, .int p2), (3, .int p3), (4, gR E r_1), (5, gR E r_11), (6, .int s_13), (7, .int x7_14)]) rfl ?_
                refine g_goto C dX5_stratum_127 (tgt := 56) (by decide) ?_
                refine g_sub [1, 2, 3, 4, 5, 6, 0] rfl ?_
                exact ih56 _ _ hw
              · have hw := hw.2 c90
                exact hJ93 hw
    refine g_sub [3, 4, 5, 6, 2, 1, 0] rfl ?_
    exact hL56 m56 _ _ hw
  refine g_icmp_ne C dX5_stratum_40 (tgt := 47) (by decide) (fun c40 => ?_) (fun c40 => ?_)
  · have hw := hw.1 c40
    refine g_iconst C dX5_stratum_47 (v := 0) rfl ?_
    refine g_sub [4, 5, 1, 0] rfl ?_
    exact hJ48 _ hw
  · have hw := hw.2 c40
    refine g_iconst C dX5_stratum_43 (v := 1) rfl ?_
    refine g_goto C dX5_stratum_44 (tgt := 48) (by decide) ?_
    refine g_sub [4, 5, 1, 0] rfl ?_
    exact hJ48 _ hw
theorem gc_X5_stratum : ∀ rm : Room, rmX5_stratum.frames + 1 ≤ rm.frames → 8 + (9 + 11) + rmX5_stratum.locals ≤ rm.locals → gCall yX5_stratum 9 3 rmX5_stratum rm := fun rm a b => ⟨Or.inl ⟨_, _, tw754⟩, tw1, ⟨by decide, by decide⟩, by decide, a, b⟩
abbrev rmX5_estimateKeys : Room := { frames := 7, cells := 2, slots := 12, locals := 133 }
def wp_X5_estimateKeys (o : Nat) (p1 : Int32) (p2 : Int32) (p3 : Int32) (p4 : Int32) (M : MEM) (Q : Int64 → MEM → Prop) (X : String → MEM → Prop) : Prop := KD o = (15, 0) ∧ (wp_X5_slotAt o p1 M (fun r_1 => wp_X5_needFilled r_1 M (wp_X5_sampleOf o r_1 M (fun r_5 M_6 => (p4 = 0 → (KD r_5 = (13, 0) ∧ wp_X3_estimatedTotal r_5 4 p2 p3 M_6 (fun r_7 => Q r_7 M_6))) ∧ (¬ p4 = 0 → (KD r_5 = (13, 0) ∧ wp_X3_estimatedTotal r_5 3 p2 p3 M_6 (fun r_10 => Q r_10 M_6))))) (fun En => X En M)) (fun En => X En M))
set_option maxRecDepth 100000 in
set_option maxHeartbeats 4000000 in
theorem met_X5_estimateKeys {l : Launch} (hl : l.stackTraces = false) {E : MK} {o : Nat} {p1 : Int32} {p2 : Int32} {p3 : Int32} {p4 : Int32} {M : MEM} {Q : Int64 → MEM → Prop} {X : String → MEM → Prop} (hw : wp_X5_estimateKeys o p1 p2 p3 p4 M Q X) : gMet l E yX5_estimateKeys rmX5_estimateKeys [gR E o, .int p1, .int p2, .int p3, .int p4] M (qL Q) (qE X) := by
  obtain ⟨hk0, hw⟩ := hw
  refine g_met hl (cc := cX5_estimateKeys) (maxL := 6) (ret := (some .long)) (hh := []) (loc := [(0, gR E o), (1, .int p1), (2, .int p2), (3, .int p3), (4, .int p4)]) (by decide +kernel) (Or.inl ⟨tw761, rfl⟩) (Nat.le_of_ble_eq_true rfl) rfl (fun K hK C => ?_)
  have C : GC K E cX5_estimateKeys RX5 6 (some .long) [] rmX5_estimateKeys := C
  refine g_aload_n C dX5_estimateKeys_0 0 rfl rfl ?_
  refine g_iload_n C dX5_estimateKeys_1 1 rfl rfl ?_
  refine g_cV C dX5_estimateKeys_2 (met_X5_slotAt C.st hw) (gc_X5_slotAt _ (Nat.le_of_ble_eq_true rfl) (Nat.le_of_ble_eq_true rfl)) tw315 tw317 twp3 (ci := 5) rfl (by decide) hk0 rfl (Nat.le_of_ble_eq_true rfl) (c2 := 1) (s2 := 6) rfl rfl (Nat.le_of_ble_eq_true rfl) (Nat.le_of_ble_eq_true rfl) rfl (kRp (fun r_1 hw => ?_)) (fun En M9 hx => g_out C (noTab _) (Nat.le_of_ble_eq_true rfl) (Nat.le_of_ble_eq_true rfl) (by obtain ⟨rfl, hx⟩ := hx; exact hx))
  refine g_astore C dX5_estimateKeys_5 (Nat.le_of_ble_eq_true rfl) (loc' := [(5, gR E r_1), (0, gR E o), (1, .int p1), (2, .int p2), (3, .int p3), (4, .int p4)]) rfl ?_
  refine g_aload C (j := 0) dX5_estimateKeys_7 0 rfl ?_
  refine g_cS C dX5_estimateKeys_9 (met_X5_needFilled C.st hw) (gc_X5_needFilled _ (Nat.le_of_ble_eq_true rfl) (Nat.le_of_ble_eq_true rfl)) (Or.inl tw405) tw406 rfl (Nat.le_of_ble_eq_true rfl) (c2 := 2) (s2 := 12) rfl rfl (Nat.le_of_ble_eq_true rfl) (Nat.le_of_ble_eq_true rfl) rfl (kVp (fun hw => ?_)) (fun En M9 hx => g_out C (noTab _) (Nat.le_of_ble_eq_true rfl) (Nat.le_of_ble_eq_true rfl) (by obtain ⟨rfl, hx⟩ := hx; exact hx))
  refine g_aload_n C dX5_estimateKeys_12 1 rfl rfl ?_
  refine g_aload C (j := 0) dX5_estimateKeys_13 0 rfl ?_
  refine g_cV C dX5_estimateKeys_15 (met_X5_sampleOf C.st hw) (gc_X5_sampleOf _ (Nat.le_of_ble_eq_true rfl) (Nat.le_of_ble_eq_true rfl)) tw460 tw462 twp6 (ci := 5) rfl (by decide) hk0 rfl (Nat.le_of_ble_eq_true rfl) (c2 := 2) (s2 := 12) rfl rfl (Nat.le_of_ble_eq_true rfl) (Nat.le_of_ble_eq_true rfl) rfl (kR' (fun r_5 M_6 hw => ?_)) tNo
  refine g_iload C (j := 0) dX5_estimateKeys_18 5 rfl ?_
  refine g_if_eq C dX5_estimateKeys_20 (tgt := 27) (by decide) (fun c20 => ?_) (fun c20 => ?_)
  · have hw := hw.1 c20
    refine g_iconst C dX5_estimateKeys_27 (v := 4) rfl ?_
    refine g_iload_n C dX5_estimateKeys_28 3 rfl rfl ?_
    refine g_iload_n C dX5_estimateKeys_29 4 rfl rfl ?_
    obtain ⟨hk_9, hw⟩ := hw
    refine g_cV C dX5_estimateKeys_30 (met_X3_estimatedTotal C.st hw) (gc_X3_estimatedTotal _ (Nat.le_of_ble_eq_true rfl) (Nat.le_of_ble_eq_true rfl)) tw762 tw763 tw764 (ci := 3) rfl (by decide) hk_9 rfl (Nat.le_of_ble_eq_true rfl) (c2 := 2) (s2 := 12) rfl rfl (Nat.le_of_ble_eq_true rfl) (Nat.le_of_ble_eq_true rfl) rfl (kLp (fun r_7 hw => ?_)) tNo
    exact g_lret C dX5_estimateKeys_33 (Nat.le_of_ble_eq_true rfl) (Nat.le_of_ble_eq_true rfl) ⟨_, rfl, hw⟩
  · have hw := hw.2 c20
    refine g_iconst C dX5_estimateKeys_23 (v := 3) rfl ?_
    refine g_goto C dX5_estimateKeys_24 (tgt := 28) (by decide) ?_
    refine g_iload_n C dX5_estimateKeys_28 3 rfl rfl ?_
    refine g_iload_n C dX5_estimateKeys_29 4 rfl rfl ?_
    obtain ⟨hk_12, hw⟩ := hw
    refine g_cV C dX5_estimateKeys_30 (met_X3_estimatedTotal C.st hw) (gc_X3_estimatedTotal _ (Nat.le_of_ble_eq_true rfl) (Nat.le_of_ble_eq_true rfl)) tw762 tw763 tw764 (ci := 3) rfl (by decide) hk_12 rfl (Nat.le_of_ble_eq_true rfl) (c2 := 2) (s2 := 12) rfl rfl (Nat.le_of_ble_eq_true rfl) (Nat.le_of_ble_eq_true rfl) rfl (kLp (fun r_10 hw => ?_)) tNo
    exact g_lret C dX5_estimateKeys_33 (Nat.le_of_ble_eq_true rfl) (Nat.le_of_ble_eq_true rfl) ⟨_, rfl, hw⟩
theorem gc_X5_estimateKeys : ∀ rm : Room, rmX5_estimateKeys.frames + 1 ≤ rm.frames → 8 + (6 + 11) + rmX5_estimateKeys.locals ≤ rm.locals → gCall yX5_estimateKeys 6 4 rmX5_estimateKeys rm := fun rm a b => ⟨Or.inl ⟨_, _, tw761⟩, tw1, ⟨by decide, by decide⟩, by decide, a, b⟩
abbrev rmX5_estimate : Room := { frames := 7, cells := 3, slots := 18, locals := 133 }
def wp_X5_estimate (o : Nat) (p1 : Int32) (p2 : Int32) (M : MEM) (Q : Int64 → MEM → Prop) (X : String → MEM → Prop) : Prop := KD o = (15, 0) ∧ (wp_X5_slotAt o p1 M (fun r_1 => wp_X5_isWithin p2.toInt64 0 2 M (fun r_3 => wp_X5_needRange r_3 M (wp_X5_needFilled r_1 M (wp_X5_sampleOf o r_1 M (fun r_9 M_10 => (¬ p2 = 0 → ((¬ p2 = 1 → (KD r_9 = (13, 0) ∧ wp_X3_estimatedTotal r_9 3 0 99 M_10 (fun r_11 => Q r_11 M_10))) ∧ (p2 = 1 → (KD r_9 = (13, 0) ∧ wp_X3_estimatedTotal r_9 4 0 99 M_10 (fun r_14 => Q r_14 M_10))))) ∧ (p2 = 0 → (KD r_9 = (13, 0) ∧ wp_X3_estimatedCount r_9 M_10 (fun r_17 => Q r_17 M_10))))) (fun En => X En M)) (fun En => X En M))) (fun En => X En M))
set_option maxRecDepth 100000 in
set_option maxHeartbeats 4000000 in
theorem met_X5_estimate {l : Launch} (hl : l.stackTraces = false) {E : MK} {o : Nat} {p1 : Int32} {p2 : Int32} {M : MEM} {Q : Int64 → MEM → Prop} {X : String → MEM → Prop} (hw : wp_X5_estimate o p1 p2 M Q X) : gMet l E yX5_estimate rmX5_estimate [gR E o, .int p1, .int p2] M (qL Q) (qE X) := by
  obtain ⟨hk0, hw⟩ := hw
  refine g_met hl (cc := cX5_estimate) (maxL := 5) (ret := (some .long)) (hh := []) (loc := [(0, gR E o), (1, .int p1), (2, .int p2)]) (by decide +kernel) (Or.inl ⟨tw802, rfl⟩) (Nat.le_of_ble_eq_true rfl) rfl (fun K hK C => ?_)
  have C : GC K E cX5_estimate RX5 5 (some .long) [] rmX5_estimate := C
  refine g_aload_n C dX5_estimate_0 0 rfl rfl ?_
  refine g_iload_n C dX5_estimate_1 1 rfl rfl ?_
  refine g_cV C dX5_estimate_2 (met_X5_slotAt C.st hw) (gc_X5_slotAt _ (Nat.le_of_ble_eq_true rfl) (Nat.le_of_ble_eq_true rfl)) tw315 tw317 twp3 (ci := 5) rfl (by decide) hk0 rfl (Nat.le_of_ble_eq_true rfl) (c2 := 1) (s2 := 6) rfl rfl (Nat.le_of_ble_eq_true rfl) (Nat.le_of_ble_eq_true rfl) rfl (kRp (fun r_1 hw => ?_)) (fun En M9 hx => g_out C (noTab _) (Nat.le_of_ble_eq_true rfl) (Nat.le_of_ble_eq_true rfl) (by obtain ⟨rfl, hx⟩ := hx; exact hx))
  refine g_astore_n C dX5_estimate_5 rfl (Nat.le_of_ble_eq_true rfl) (loc' := [(3, gR E r_1), (0, gR E o), (1, .int p1), (2, .int p2)]) rfl ?_
  refine g_iload_n C dX5_estimate_6 3 rfl rfl ?_
  refine g_i2l C dX5_estimate_7 ?_
  refine g_lconst C dX5_estimate_8 (v := 0) rfl ?_
  refine g_ldc2 C dX5_estimate_9 tw780 ?_
  refine g_cS C dX5_estimate_12 (met_X5_isWithin C.st hw) (gc_X5_isWithin _ (Nat.le_of_ble_eq_true rfl) (Nat.le_of_ble_eq_true rfl)) (Or.inl tw336) tw337 rfl (Nat.le_of_ble_eq_true rfl) (c2 := 1) (s2 := 6) rfl rfl (Nat.le_of_ble_eq_true rfl) (Nat.le_of_ble_eq_true rfl) rfl (kIp (fun r_3 hw => ?_)) tNo
  refine g_cS C dX5_estimate_15 (met_X5_needRange C.st hw) (gc_X5_needRange _ (Nat.le_of_ble_eq_true rfl) (Nat.le_of_ble_eq_true rfl)) (Or.inl tw341) tw342 rfl (Nat.le_of_ble_eq_true rfl) (c2 := 2) (s2 := 12) rfl rfl (Nat.le_of_ble_eq_true rfl) (Nat.le_of_ble_eq_true rfl) rfl (kVp (fun hw => ?_)) (fun En M9 hx => g_out C (noTab _) (Nat.le_of_ble_eq_true rfl) (Nat.le_of_ble_eq_true rfl) (by obtain ⟨rfl, hx⟩ := hx; exact hx))
  refine g_aload_n C dX5_estimate_18 0 rfl rfl ?_
  refine g_cS C dX5_estimate_19 (met_X5_needFilled C.st hw) (gc_X5_needFilled _ (Nat.le_of_ble_eq_true rfl) (Nat.le_of_ble_eq_true rfl)) (Or.inl tw405) tw406 rfl (Nat.le_of_ble_eq_true rfl) (c2 := 3) (s2 := 18) rfl rfl (Nat.le_of_ble_eq_true rfl) (Nat.le_of_ble_eq_true rfl) rfl (kVp (fun hw => ?_)) (fun En M9 hx => g_out C (noTab _) (Nat.le_of_ble_eq_true rfl) (Nat.le_of_ble_eq_true rfl) (by obtain ⟨rfl, hx⟩ := hx; exact hx))
  refine g_aload_n C dX5_estimate_22 1 rfl rfl ?_
  refine g_aload_n C dX5_estimate_23 0 rfl rfl ?_
  refine g_cV C dX5_estimate_24 (met_X5_sampleOf C.st hw) (gc_X5_sampleOf _ (Nat.le_of_ble_eq_true rfl) (Nat.le_of_ble_eq_true rfl)) tw460 tw462 twp6 (ci := 5) rfl (by decide) hk0 rfl (Nat.le_of_ble_eq_true rfl) (c2 := 3) (s2 := 18) rfl rfl (Nat.le_of_ble_eq_true rfl) (Nat.le_of_ble_eq_true rfl) rfl (kR' (fun r_9 M_10 hw => ?_)) tNo
  refine g_astore C dX5_estimate_27 (Nat.le_of_ble_eq_true rfl) (loc' := [(4, gR E r_9), (3, gR E r_1), (0, gR E o), (1, .int p1), (2, .int p2)]) rfl ?_
  refine g_iload_n C dX5_estimate_29 4 rfl rfl ?_
  refine g_if_ne C dX5_estimate_30 (tgt := 39) (by decide) (fun c30 => ?_) (fun c30 => ?_)
  · have hw := hw.1 c30
    refine g_aload C (j := 0) dX5_estimate_39 0 rfl ?_
    refine g_iload_n C dX5_estimate_41 4 rfl rfl ?_
    refine g_iconst C dX5_estimate_42 (v := 1) rfl ?_
    refine g_icmp_ne C dX5_estimate_43 (tgt := 50) (by decide) (fun c43 => ?_) (fun c43 => ?_)
    · have hw := hw.1 c43
      refine g_iconst C dX5_estimate_50 (v := 3) rfl ?_
      refine g_iconst C dX5_estimate_51 (v := 0) rfl ?_
      refine g_bipush C dX5_estimate_52 (v := 99) rfl ?_
      obtain ⟨hk_13, hw⟩ := hw
      refine g_cV C dX5_estimate_54 (met_X3_estimatedTotal C.st hw) (gc_X3_estimatedTotal _ (Nat.le_of_ble_eq_true rfl) (Nat.le_of_ble_eq_true rfl)) tw762 tw763 tw764 (ci := 3) rfl (by decide) hk_13 rfl (Nat.le_of_ble_eq_true rfl) (c2 := 3) (s2 := 18) rfl rfl (Nat.le_of_ble_eq_true rfl) (Nat.le_of_ble_eq_true rfl) rfl (kLp (fun r_11 hw => ?_)) tNo
      exact g_lret C dX5_estimate_57 (Nat.le_of_ble_eq_true rfl) (Nat.le_of_ble_eq_true rfl) ⟨_, rfl, hw⟩
    · have hw := hw.2 c43
      refine g_iconst C dX5_estimate_46 (v := 4) rfl ?_
      refine g_goto C dX5_estimate_47 (tgt := 51) (by decide) ?_
      refine g_iconst C dX5_estimate_51 (v := 0) rfl ?_
      refine g_bipush C dX5_estimate_52 (v := 99) rfl ?_
      obtain ⟨hk_16, hw⟩ := hw
      refine g_cV C dX5_estimate_54 (met_X3_estimatedTotal C.st hw) (gc_X3_estimatedTotal _ (Nat.le_of_ble_eq_true rfl) (Nat.le_of_ble_eq_true rfl)) tw762 tw763 tw764 (ci := 3) rfl (by decide) hk_16 rfl (Nat.le_of_ble_eq_true rfl) (c2 := 3) (s2 := 18) rfl rfl (Nat.le_of_ble_eq_true rfl) (Nat.le_of_ble_eq_true rfl) rfl (kLp (fun r_14 hw => ?_)) tNo
      exact g_lret C dX5_estimate_57 (Nat.le_of_ble_eq_true rfl) (Nat.le_of_ble_eq_true rfl) ⟨_, rfl, hw⟩
  · have hw := hw.2 c30
    refine g_aload C (j := 0) dX5_estimate_33 0 rfl ?_
    obtain ⟨hk_19, hw⟩ := hw
    refine g_cV C dX5_estimate_35 (met_X3_estimatedCount C.st hw) (gc_X3_estimatedCount _ (Nat.le_of_ble_eq_true rfl) (Nat.le_of_ble_eq_true rfl)) tw803 tw793 tw794 (ci := 3) rfl (by decide) hk_19 rfl (Nat.le_of_ble_eq_true rfl) (c2 := 3) (s2 := 18) rfl rfl (Nat.le_of_ble_eq_true rfl) (Nat.le_of_ble_eq_true rfl) rfl (kLp (fun r_17 hw => ?_)) tNo
    exact g_lret C dX5_estimate_38 (Nat.le_of_ble_eq_true rfl) (Nat.le_of_ble_eq_true rfl) ⟨_, rfl, hw⟩
theorem gc_X5_estimate : ∀ rm : Room, rmX5_estimate.frames + 1 ≤ rm.frames → 8 + (5 + 11) + rmX5_estimate.locals ≤ rm.locals → gCall yX5_estimate 5 2 rmX5_estimate rm := fun rm a b => ⟨Or.inl ⟨_, _, tw802⟩, tw1, ⟨by decide, by decide⟩, by decide, a, b⟩
abbrev rmX5_truth : Room := { frames := 7, cells := 3, slots := 18, locals := 133 }
def wp_X5_truth_L35 (p2 : Int32) (Q : Int64 → MEM → Prop) (r_1 : Nat) (r_9 : Nat) (M_10 : MEM) : Nat → Int64 → Int32 → Prop
  | 0, _, _ => False
  | n35 + 1, x5_11, x7_12 => KD r_1 = (14, 0) ∧ wp_X4_count r_1 M_10 (fun r_13 => (r_13 ≤ x7_12 → (Q x5_11 M_10)) ∧ (¬ r_13 ≤ x7_12 → (KD r_9 = (13, 0) ∧ wp_X3_rankOf r_9 x7_12 M_10 (fun r_16 => (r_16 < 0 → (∀ x7_19 : Int32, x7_19 = x7_12 + 1 → ((wp_X5_truth_L35 p2 Q r_1 r_9 M_10 n35) x5_11 x7_19))) ∧ (¬ r_16 < 0 → ((¬ p2 = 0 → ((¬ p2 = 1 → (wp_X4_partAt r_1 x7_12 3 M_10 (fun r_20 => ∀ x5_22 : Int64, x5_22 = x5_11 + r_20.toInt64 → (∀ x7_23 : Int32, x7_23 = x7_12 + 1 → ((wp_X5_truth_L35 p2 Q r_1 r_9 M_10 n35) x5_22 x7_23))))) ∧ (p2 = 1 → (wp_X4_partAt r_1 x7_12 4 M_10 (fun r_24 => ∀ x5_26 : Int64, x5_26 = x5_11 + r_24.toInt64 → (∀ x7_27 : Int32, x7_27 = x7_12 + 1 → ((wp_X5_truth_L35 p2 Q r_1 r_9 M_10 n35) x5_26 x7_27))))))) ∧ (p2 = 0 → (∀ x5_28 : Int64, x5_28 = x5_11 + 1 → (∀ x7_29 : Int32, x7_29 = x7_12 + 1 → ((wp_X5_truth_L35 p2 Q r_1 r_9 M_10 n35) x5_28 x7_29))))))))))
def wp_X5_truth (o : Nat) (p1 : Int32) (p2 : Int32) (M : MEM) (Q : Int64 → MEM → Prop) (X : String → MEM → Prop) : Prop := KD o = (15, 0) ∧ (wp_X5_slotAt o p1 M (fun r_1 => wp_X5_isWithin p2.toInt64 0 2 M (fun r_3 => wp_X5_needRange r_3 M (wp_X5_needFilled r_1 M (wp_X5_sampleOf o r_1 M (fun r_9 M_10 => ∃ m35 : Nat, wp_X5_truth_L35 p2 Q r_1 r_9 M_10 m35 0 0)) (fun En => X En M)) (fun En => X En M))) (fun En => X En M))
set_option maxRecDepth 100000 in
set_option maxHeartbeats 4000000 in
theorem met_X5_truth {l : Launch} (hl : l.stackTraces = false) {E : MK} {o : Nat} {p1 : Int32} {p2 : Int32} {M : MEM} {Q : Int64 → MEM → Prop} {X : String → MEM → Prop} (hw : wp_X5_truth o p1 p2 M Q X) : gMet l E yX5_truth rmX5_truth [gR E o, .int p1, .int p2] M (qL Q) (qE X) := by
  obtain ⟨hk0, hw⟩ := hw
  refine g_met hl (cc := cX5_truth) (maxL := 8) (ret := (some .long)) (hh := []) (loc := [(0, gR E o), (1, .int p1), (2, .int p2)]) (by decide +kernel) (Or.inl ⟨tw810, rfl⟩) (Nat.le_of_ble_eq_true rfl) rfl (fun K hK C => ?_)
  have C : GC K E cX5_truth RX5 8 (some .long) [] rmX5_truth := C
  refine g_aload_n C dX5_truth_0 0 rfl rfl ?_
  refine g_iload_n C dX5_truth_1 1 rfl rfl ?_
  refine g_cV C dX5_truth_2 (met_X5_slotAt C.st hw) (gc_X5_slotAt _ (Nat.le_of_ble_eq_true rfl) (Nat.le_of_ble_eq_true rfl)) tw315 tw317 twp3 (ci := 5) rfl (by decide) hk0 rfl (Nat.le_of_ble_eq_true rfl) (c2 := 1) (s2 := 6) rfl rfl (Nat.le_of_ble_eq_true rfl) (Nat.le_of_ble_eq_true rfl) rfl (kRp (fun r_1 hw => ?_)) (fun En M9 hx => g_out C (noTab _) (Nat.le_of_ble_eq_true rfl) (Nat.le_of_ble_eq_true rfl) (by obtain ⟨rfl, hx⟩ := hx; exact hx))
  refine g_astore_n C dX5_truth_5 rfl (Nat.le_of_ble_eq_true rfl) (loc' := [(3, gR E r_1), (0, gR E o), (1, .int p1), (2, .int p2)]) rfl ?_
  refine g_iload_n C dX5_truth_6 3 rfl rfl ?_
  refine g_i2l C dX5_truth_7 ?_
  refine g_lconst C dX5_truth_8 (v := 0) rfl ?_
  refine g_ldc2 C dX5_truth_9 tw780 ?_
  refine g_cS C dX5_truth_12 (met_X5_isWithin C.st hw) (gc_X5_isWithin _ (Nat.le_of_ble_eq_true rfl) (Nat.le_of_ble_eq_true rfl)) (Or.inl tw336) tw337 rfl (Nat.le_of_ble_eq_true rfl) (c2 := 1) (s2 := 6) rfl rfl (Nat.le_of_ble_eq_true rfl) (Nat.le_of_ble_eq_true rfl) rfl (kIp (fun r_3 hw => ?_)) tNo
  refine g_cS C dX5_truth_15 (met_X5_needRange C.st hw) (gc_X5_needRange _ (Nat.le_of_ble_eq_true rfl) (Nat.le_of_ble_eq_true rfl)) (Or.inl tw341) tw342 rfl (Nat.le_of_ble_eq_true rfl) (c2 := 2) (s2 := 12) rfl rfl (Nat.le_of_ble_eq_true rfl) (Nat.le_of_ble_eq_true rfl) rfl (kVp (fun hw => ?_)) (fun En M9 hx => g_out C (noTab _) (Nat.le_of_ble_eq_true rfl) (Nat.le_of_ble_eq_true rfl) (by obtain ⟨rfl, hx⟩ := hx; exact hx))
  refine g_aload_n C dX5_truth_18 0 rfl rfl ?_
  refine g_cS C dX5_truth_19 (met_X5_needFilled C.st hw) (gc_X5_needFilled _ (Nat.le_of_ble_eq_true rfl) (Nat.le_of_ble_eq_true rfl)) (Or.inl tw405) tw406 rfl (Nat.le_of_ble_eq_true rfl) (c2 := 3) (s2 := 18) rfl rfl (Nat.le_of_ble_eq_true rfl) (Nat.le_of_ble_eq_true rfl) rfl (kVp (fun hw => ?_)) (fun En M9 hx => g_out C (noTab _) (Nat.le_of_ble_eq_true rfl) (Nat.le_of_ble_eq_true rfl) (by obtain ⟨rfl, hx⟩ := hx; exact hx))
  refine g_aload_n C dX5_truth_22 1 rfl rfl ?_
  refine g_aload_n C dX5_truth_23 0 rfl rfl ?_
  refine g_cV C dX5_truth_24 (met_X5_sampleOf C.st hw) (gc_X5_sampleOf _ (Nat.le_of_ble_eq_true rfl) (Nat.le_of_ble_eq_true rfl)) tw460 tw462 twp6 (ci := 5) rfl (by decide) hk0 rfl (Nat.le_of_ble_eq_true rfl) (c2 := 3) (s2 := 18) rfl rfl (Nat.le_of_ble_eq_true rfl) (Nat.le_of_ble_eq_true rfl) rfl (kR' (fun r_9 M_10 hw => ?_)) tNo
  refine g_astore C dX5_truth_27 (Nat.le_of_ble_eq_true rfl) (loc' := [(4, gR E r_9), (3, gR E r_1), (0, gR E o), (1, .int p1), (2, .int p2)]) rfl ?_
  refine g_lconst C dX5_truth_29 (v := 0) rfl ?_
  refine g_lstore C dX5_truth_30 (Nat.le_of_ble_eq_true rfl) (loc' := [(5, .long 0), (4, gR E r_9), (3, gR E r_1), (0, gR E o), (1, .int p1), (2, .int p2)]) rfl ?_
  refine g_iconst C dX5_truth_32 (v := 0) rfl ?_
  refine g_istore C dX5_truth_33 (Nat.le_of_ble_eq_true rfl) (loc' := [(7, .int 0), (5, .long 0), (4, gR E r_9), (3, gR E r_1), (0, gR E o), (1, .int p1), (2, .int p2)]) rfl ?_
  obtain ⟨m35, hw⟩ := hw
  have hL35 : ∀ (n35 : Nat) (x5_11 : Int64) (x7_12 : Int32), wp_X5_truth_L35 p2 Q r_1 r_9 M_10 n35 x5_11 x7_12 → GX K E 8 M_10 [(2, .int p2), (3, gR E r_1), (4, gR E r_9), (5, .long x5_11), (7, .int x7_12)] [] 35 3 18 (gEnd K E (qL Q) (qE X) rmX5_truth.cells rmX5_truth.slots) := by
    intro n35
    induction n35 with
    | zero => intro _ _ hw; exact False.elim hw
    | succ n35 ih35 =>
      intro x5_11 x7_12 hw
      refine g_iload C (j := 0) dX5_truth_35 4 rfl ?_
      refine g_aload_n C dX5_truth_37 1 rfl rfl ?_
      obtain ⟨hk_15, hw⟩ := hw
      refine g_cV C dX5_truth_38 (met_X4_count C.st hw) (gc_X4_count _ (Nat.le_of_ble_eq_true rfl) (Nat.le_of_ble_eq_true rfl)) tw360 tw361 tw362 (ci := 4) rfl (by decide) hk_15 rfl (Nat.le_of_ble_eq_true rfl) (c2 := 3) (s2 := 18) rfl rfl (Nat.le_of_ble_eq_true rfl) (Nat.le_of_ble_eq_true rfl) rfl (kIp (fun r_13 hw => ?_)) tNo
      refine g_icmp_ge C dX5_truth_41 (tgt := 90) (by decide) (fun c41 => ?_) (fun c41 => ?_)
      · have hw := hw.1 c41
        refine g_lload C (j := 0) dX5_truth_90 3 rfl ?_
        exact g_lret C dX5_truth_92 (Nat.le_of_ble_eq_true rfl) (Nat.le_of_ble_eq_true rfl) ⟨_, rfl, hw⟩
      · have hw := hw.2 c41
        refine g_aload C (j := 0) dX5_truth_44 2 rfl ?_
        refine g_iload C (j := 0) dX5_truth_46 4 rfl ?_
        obtain ⟨hk_18, hw⟩ := hw
        refine g_cV C dX5_truth_48 (met_X3_rankOf C.st hw) (gc_X3_rankOf _ (Nat.le_of_ble_eq_true rfl) (Nat.le_of_ble_eq_true rfl)) tw727 tw728 tw729 (ci := 3) rfl (by decide) hk_18 rfl (Nat.le_of_ble_eq_true rfl) (c2 := 3) (s2 := 18) rfl rfl (Nat.le_of_ble_eq_true rfl) (Nat.le_of_ble_eq_true rfl) rfl (kIp (fun r_16 hw => ?_)) tNo
        refine g_if_lt C dX5_truth_51 (tgt := 84) (by decide) (fun c51 => ?_) (fun c51 => ?_)
        · have hw := hw.1 c51
          obtain ⟨x7_19, ex7_19⟩ : ∃ y : Int32, y = x7_12 + 1 := ⟨_, rfl⟩
          have hw := hw x7_19 ex7_19
          refine g_iinc C (j := 0) dX5_truth_84 4 rfl (v := x7_19) (by rw [ex7_19]; rfl) (Nat.le_of_ble_eq_true rfl) (loc' := [(7, .int x7_19), (2, .int p2), (3, gR E r_1), (4, gR E r_9), (5, .long x5_11)]) rfl ?_
          refine g_goto C dX5_truth_87 (tgt := 35) (by decide) ?_
          refine g_sub [1, 2, 3, 4, 0] rfl ?_
          exact ih35 _ _ hw
        · have hw := hw.2 c51
          refine g_lload C (j := 0) dX5_truth_54 3 rfl ?_
          refine g_iload_n C dX5_truth_56 0 rfl rfl ?_
          refine g_if_ne C dX5_truth_57 (tgt := 64) (by decide) (fun c57 => ?_) (fun c57 => ?_)
          · have hw := hw.1 c57
            refine g_aload_n C dX5_truth_64 1 rfl rfl ?_
            refine g_iload C (j := 0) dX5_truth_65 4 rfl ?_
            refine g_iload_n C dX5_truth_67 0 rfl rfl ?_
            refine g_iconst C dX5_truth_68 (v := 1) rfl ?_
            refine g_icmp_ne C dX5_truth_69 (tgt := 76) (by decide) (fun c69 => ?_) (fun c69 => ?_)
            · have hw := hw.1 c69
              refine g_iconst C dX5_truth_76 (v := 3) rfl ?_
              refine g_cV C dX5_truth_77 (met_X4_partAt C.st hw) (gc_X4_partAt _ (Nat.le_of_ble_eq_true rfl) (Nat.le_of_ble_eq_true rfl)) tw576 tw475 tw476 (ci := 4) rfl (by decide) hk_15 rfl (Nat.le_of_ble_eq_true rfl) (c2 := 3) (s2 := 18) rfl rfl (Nat.le_of_ble_eq_true rfl) (Nat.le_of_ble_eq_true rfl) rfl (kIp (fun r_20 hw => ?_)) tNo
              refine g_i2l C dX5_truth_80 ?_
              refine g_ladd C dX5_truth_81 ?_
              refine g_nmL (fun x5_22 ex5_22 => ?_)
              have hw := hw x5_22 ex5_22
              refine g_lstore C dX5_truth_82 (Nat.le_of_ble_eq_true rfl) (loc' := [(5, .long x5_22), (2, .int p2), (3, gR E r_1), (4, gR E r_9), (7, .int x7_12)]) rfl ?_
              obtain ⟨x7_23, ex7_23⟩ : ∃ y : Int32, y = x7_12 + 1 := ⟨_, rfl⟩
              have hw := hw x7_23 ex7_23
              refine g_iinc C (j := 0) dX5_truth_84 4 rfl (v := x7_23) (by rw [ex7_23]; rfl) (Nat.le_of_ble_eq_true rfl) (loc' := [(7, .int x7_23), (5, .long x5_22), (2, .int p2), (3, gR E r_1), (4, gR E r_9)]) rfl ?_
              refine g_goto C dX5_truth_87 (tgt := 35) (by decide) ?_
              refine g_sub [2, 3, 4, 1, 0] rfl ?_
              exact ih35 _ _ hw
            · have hw := hw.2 c69
              refine g_iconst C dX5_truth_72 (v := 4) rfl ?_
              refine g_goto C dX5_truth_73 (tgt := 77) (by decide) ?_
              refine g_cV C dX5_truth_77 (met_X4_partAt C.st hw) (gc_X4_partAt _ (Nat.le_of_ble_eq_true rfl) (Nat.le_of_ble_eq_true rfl)) tw576 tw475 tw476 (ci := 4) rfl (by decide) hk_15 rfl (Nat.le_of_ble_eq_true rfl) (c2 := 3) (s2 := 18) rfl rfl (Nat.le_of_ble_eq_true rfl) (Nat.le_of_ble_eq_true rfl) rfl (kIp (fun r_24 hw => ?_)) tNo
              refine g_i2l C dX5_truth_80 ?_
              refine g_ladd C dX5_truth_81 ?_
              refine g_nmL (fun x5_26 ex5_26 => ?_)
              have hw := hw x5_26 ex5_26
              refine g_lstore C dX5_truth_82 (Nat.le_of_ble_eq_true rfl) (loc' := [(5, .long x5_26), (2, .int p2), (3, gR E r_1), (4, gR E r_9), (7, .int x7_12)]) rfl ?_
              obtain ⟨x7_27, ex7_27⟩ : ∃ y : Int32, y = x7_12 + 1 := ⟨_, rfl⟩
              have hw := hw x7_27 ex7_27
              refine g_iinc C (j := 0) dX5_truth_84 4 rfl (v := x7_27) (by rw [ex7_27]; rfl) (Nat.le_of_ble_eq_true rfl) (loc' := [(7, .int x7_27), (5, .long x5_26), (2, .int p2), (3, gR E r_1), (4, gR E r_9)]) rfl ?_
              refine g_goto C dX5_truth_87 (tgt := 35) (by decide) ?_
              refine g_sub [2, 3, 4, 1, 0] rfl ?_
              exact ih35 _ _ hw
          · have hw := hw.2 c57
            refine g_lconst C dX5_truth_60 (v := 1) rfl ?_
            refine g_goto C dX5_truth_61 (tgt := 81) (by decide) ?_
            refine g_ladd C dX5_truth_81 ?_
            refine g_nmL (fun x5_28 ex5_28 => ?_)
            have hw := hw x5_28 ex5_28
            refine g_lstore C dX5_truth_82 (Nat.le_of_ble_eq_true rfl) (loc' := [(5, .long x5_28), (2, .int p2), (3, gR E r_1), (4, gR E r_9), (7, .int x7_12)]) rfl ?_
            obtain ⟨x7_29, ex7_29⟩ : ∃ y : Int32, y = x7_12 + 1 := ⟨_, rfl⟩
            have hw := hw x7_29 ex7_29
            refine g_iinc C (j := 0) dX5_truth_84 4 rfl (v := x7_29) (by rw [ex7_29]; rfl) (Nat.le_of_ble_eq_true rfl) (loc' := [(7, .int x7_29), (5, .long x5_28), (2, .int p2), (3, gR E r_1), (4, gR E r_9)]) rfl ?_
            refine g_goto C dX5_truth_87 (tgt := 35) (by decide) ?_
            refine g_sub [2, 3, 4, 1, 0] rfl ?_
            exact ih35 _ _ hw
  refine g_sub [6, 3, 2, 1, 0] rfl ?_
  exact hL35 m35 _ _ hw
theorem gc_X5_truth : ∀ rm : Room, rmX5_truth.frames + 1 ≤ rm.frames → 8 + (8 + 11) + rmX5_truth.locals ≤ rm.locals → gCall yX5_truth 8 2 rmX5_truth rm := fun rm a b => ⟨Or.inl ⟨_, _, tw810⟩, tw1, ⟨by decide, by decide⟩, by decide, a, b⟩
abbrev rmX5_quantile : Room := { frames := 8, cells := 4, slots := 24, locals := 155 }
def wp_X5_quantile (o : Nat) (p1 : Int32) (p2 : Int32) (M : MEM) (Q : Int32 → MEM → Prop) (X : String → MEM → Prop) : Prop := KD o = (15, 0) ∧ (wp_X5_slotAt o p1 M (fun r_1 => wp_X5_isWithin p2.toInt64 0 1000 M (fun r_3 => wp_X5_needRange r_3 M (wp_X5_neededSample o r_1 M (fun r_7 M_8 => KD r_7 = (13, 0) ∧ wp_X3_size r_7 M_8 (fun r_9 => ∀ x5_12 : Int32, x5_12 = (r_9 * p2) / 1000 → (wp_X3_size r_7 M_8 (fun r_13 => ∀ v_15 : Int32, v_15 = (if (r_13 - 1) < x5_12 then (r_13 - 1) else x5_12) → (wp_X3_sortedValue r_7 v_15 M_8 (fun r_16 M_17 => Q r_16 M_17)))))) X) (fun En => X En M))) (fun En => X En M))
set_option maxRecDepth 100000 in
set_option maxHeartbeats 4000000 in
theorem met_X5_quantile {l : Launch} (hl : l.stackTraces = false) {E : MK} {o : Nat} {p1 : Int32} {p2 : Int32} {M : MEM} {Q : Int32 → MEM → Prop} {X : String → MEM → Prop} (hw : wp_X5_quantile o p1 p2 M Q X) : gMet l E yX5_quantile rmX5_quantile [gR E o, .int p1, .int p2] M (qI Q) (qE X) := by
  obtain ⟨hk0, hw⟩ := hw
  refine g_met hl (cc := cX5_quantile) (maxL := 6) (ret := (some .int)) (hh := []) (loc := [(0, gR E o), (1, .int p1), (2, .int p2)]) (by decide +kernel) (Or.inl ⟨tw817, rfl⟩) (Nat.le_of_ble_eq_true rfl) rfl (fun K hK C => ?_)
  have C : GC K E cX5_quantile RX5 6 (some .int) [] rmX5_quantile := C
  refine g_aload_n C dX5_quantile_0 0 rfl rfl ?_
  refine g_iload_n C dX5_quantile_1 1 rfl rfl ?_
  refine g_cV C dX5_quantile_2 (met_X5_slotAt C.st hw) (gc_X5_slotAt _ (Nat.le_of_ble_eq_true rfl) (Nat.le_of_ble_eq_true rfl)) tw315 tw317 twp3 (ci := 5) rfl (by decide) hk0 rfl (Nat.le_of_ble_eq_true rfl) (c2 := 1) (s2 := 6) rfl rfl (Nat.le_of_ble_eq_true rfl) (Nat.le_of_ble_eq_true rfl) rfl (kRp (fun r_1 hw => ?_)) (fun En M9 hx => g_out C (noTab _) (Nat.le_of_ble_eq_true rfl) (Nat.le_of_ble_eq_true rfl) (by obtain ⟨rfl, hx⟩ := hx; exact hx))
  refine g_astore_n C dX5_quantile_5 rfl (Nat.le_of_ble_eq_true rfl) (loc' := [(3, gR E r_1), (0, gR E o), (1, .int p1), (2, .int p2)]) rfl ?_
  refine g_iload_n C dX5_quantile_6 3 rfl rfl ?_
  refine g_i2l C dX5_quantile_7 ?_
  refine g_lconst C dX5_quantile_8 (v := 0) rfl ?_
  refine g_ldc2 C dX5_quantile_9 tw818 ?_
  refine g_cS C dX5_quantile_12 (met_X5_isWithin C.st hw) (gc_X5_isWithin _ (Nat.le_of_ble_eq_true rfl) (Nat.le_of_ble_eq_true rfl)) (Or.inl tw336) tw337 rfl (Nat.le_of_ble_eq_true rfl) (c2 := 1) (s2 := 6) rfl rfl (Nat.le_of_ble_eq_true rfl) (Nat.le_of_ble_eq_true rfl) rfl (kIp (fun r_3 hw => ?_)) tNo
  refine g_cS C dX5_quantile_15 (met_X5_needRange C.st hw) (gc_X5_needRange _ (Nat.le_of_ble_eq_true rfl) (Nat.le_of_ble_eq_true rfl)) (Or.inl tw341) tw342 rfl (Nat.le_of_ble_eq_true rfl) (c2 := 2) (s2 := 12) rfl rfl (Nat.le_of_ble_eq_true rfl) (Nat.le_of_ble_eq_true rfl) rfl (kVp (fun hw => ?_)) (fun En M9 hx => g_out C (noTab _) (Nat.le_of_ble_eq_true rfl) (Nat.le_of_ble_eq_true rfl) (by obtain ⟨rfl, hx⟩ := hx; exact hx))
  refine g_aload_n C dX5_quantile_18 1 rfl rfl ?_
  refine g_aload_n C dX5_quantile_19 0 rfl rfl ?_
  refine g_cV C dX5_quantile_20 (met_X5_neededSample C.st hw) (gc_X5_neededSample _ (Nat.le_of_ble_eq_true rfl) (Nat.le_of_ble_eq_true rfl)) tw692 tw694 twp18 (ci := 5) rfl (by decide) hk0 rfl (Nat.le_of_ble_eq_true rfl) (c2 := 4) (s2 := 24) rfl rfl (Nat.le_of_ble_eq_true rfl) (Nat.le_of_ble_eq_true rfl) rfl (kR' (fun r_7 M_8 hw => ?_)) (fun En M9 hx => g_out C (noTab _) (Nat.le_of_ble_eq_true rfl) (Nat.le_of_ble_eq_true rfl) hx)
  refine g_astore C dX5_quantile_23 (Nat.le_of_ble_eq_true rfl) (loc' := [(4, gR E r_7), (3, gR E r_1), (0, gR E o), (1, .int p1), (2, .int p2)]) rfl ?_
  refine g_aload C (j := 0) dX5_quantile_25 0 rfl ?_
  obtain ⟨hk_11, hw⟩ := hw
  refine g_cV C dX5_quantile_27 (met_X3_size C.st hw) (gc_X3_size _ (Nat.le_of_ble_eq_true rfl) (Nat.le_of_ble_eq_true rfl)) tw522 tw523 tw524 (ci := 3) rfl (by decide) hk_11 rfl (Nat.le_of_ble_eq_true rfl) (c2 := 4) (s2 := 24) rfl rfl (Nat.le_of_ble_eq_true rfl) (Nat.le_of_ble_eq_true rfl) rfl (kIp (fun r_9 hw => ?_)) tNo
  refine g_iload_n C dX5_quantile_30 4 rfl rfl ?_
  refine g_imul C dX5_quantile_31 ?_
  refine g_sipush C dX5_quantile_32 (v := 1000) rfl ?_
  refine g_idiv C dX5_quantile_35 (by decide) ?_
  refine g_nmI (fun x5_12 ex5_12 => ?_)
  have hw := hw x5_12 ex5_12
  refine g_istore C dX5_quantile_36 (Nat.le_of_ble_eq_true rfl) (loc' := [(5, .int x5_12), (4, gR E r_7), (3, gR E r_1), (0, gR E o), (1, .int p1), (2, .int p2)]) rfl ?_
  refine g_aload C (j := 0) dX5_quantile_38 1 rfl ?_
  refine g_iload C (j := 0) dX5_quantile_40 0 rfl ?_
  refine g_aload C (j := 0) dX5_quantile_42 1 rfl ?_
  refine g_cV C dX5_quantile_44 (met_X3_size C.st hw) (gc_X3_size _ (Nat.le_of_ble_eq_true rfl) (Nat.le_of_ble_eq_true rfl)) tw522 tw523 tw524 (ci := 3) rfl (by decide) hk_11 rfl (Nat.le_of_ble_eq_true rfl) (c2 := 4) (s2 := 24) rfl rfl (Nat.le_of_ble_eq_true rfl) (Nat.le_of_ble_eq_true rfl) rfl (kIp (fun r_13 hw => ?_)) tNo
  refine g_iconst C dX5_quantile_47 (v := 1) rfl ?_
  refine g_isub C dX5_quantile_48 ?_
  refine g_min C dX5_quantile_49 tw819 tw374 tw6 tw375 (Nat.le_of_ble_eq_true rfl) (Nat.le_of_ble_eq_true rfl) (Nat.le_of_ble_eq_true rfl) (Nat.le_of_ble_eq_true rfl) ?_
  refine g_nmI (fun v_15 ev_15 => ?_)
  have hw := hw v_15 ev_15
  refine g_cV C dX5_quantile_52 (met_X3_sortedValue C.st hw) (gc_X3_sortedValue _ (Nat.le_of_ble_eq_true rfl) (Nat.le_of_ble_eq_true rfl)) tw820 tw821 tw822 (ci := 3) rfl (by decide) hk_11 rfl (Nat.le_of_ble_eq_true rfl) (c2 := 4) (s2 := 24) rfl rfl (Nat.le_of_ble_eq_true rfl) (Nat.le_of_ble_eq_true rfl) rfl (kI (fun r_16 M_17 hw => ?_)) tNo
  exact g_iret C dX5_quantile_55 (Nat.le_of_ble_eq_true rfl) (Nat.le_of_ble_eq_true rfl) ⟨_, rfl, hw⟩
theorem gc_X5_quantile : ∀ rm : Room, rmX5_quantile.frames + 1 ≤ rm.frames → 8 + (6 + 11) + rmX5_quantile.locals ≤ rm.locals → gCall yX5_quantile 6 2 rmX5_quantile rm := fun rm a b => ⟨Or.inl ⟨_, _, tw817⟩, tw1, ⟨by decide, by decide⟩, by decide, a, b⟩
abbrev rmX5_resampled : Room := { frames := 8, cells := 4, slots := 24, locals := 155 }
def wp_X5_resampled_L47 (p3 : Int32) (Q : UInt64 → MEM → Prop) (r_7 : Nat) (M_8 : MEM) (v_12 : Int32) : Nat → Int32 → UInt64 → Int32 → Prop
  | 0, _, _, _ => False
  | n47 + 1, x7_13, x8_14, x10_15 => (p3 ≤ x10_15 → (∀ f_16 : UInt64, alike64 f_16 (FP.ddiv x8_14 (FP.i2d p3)) = true → (Q f_16 M_8))) ∧ (¬ p3 ≤ x10_15 → (wp_X5_nextDrawn x7_13 M_8 (fun r_17 => ¬ v_12 = 0 ∧ (wp_X3_partAt r_7 ((gush r_17 8) - (gush r_17 8) / v_12 * v_12) 4 M_8 (fun r_20 => ∀ f_22 : UInt64, alike64 f_22 (FP.dadd x8_14 (FP.i2d r_20)) = true → (∀ x10_23 : Int32, x10_23 = x10_15 + 1 → ((wp_X5_resampled_L47 p3 Q r_7 M_8 v_12 n47) r_17 f_22 x10_23)))))))
def wp_X5_resampled (o : Nat) (p1 : Int32) (p2 : Int32) (p3 : Int32) (M : MEM) (Q : UInt64 → MEM → Prop) (X : String → MEM → Prop) : Prop := KD o = (15, 0) ∧ (wp_X5_slotAt o p1 M (fun r_1 => wp_X5_isWithin p3.toInt64 1 1000 M (fun r_3 => wp_X5_needRange r_3 M (wp_X5_neededSample o r_1 M (fun r_7 M_8 => KD r_7 = (13, 0) ∧ wp_X3_size r_7 M_8 (fun r_9 => ∀ v_12 : Int32, v_12 = (if (1 : Int32) < r_9 then r_9 else 1) → (∃ m47 : Nat, wp_X5_resampled_L47 p3 Q r_7 M_8 v_12 m47 p2 0 0))) X) (fun En => X En M))) (fun En => X En M))
set_option maxRecDepth 100000 in
set_option maxHeartbeats 4000000 in
theorem met_X5_resampled {l : Launch} (hl : l.stackTraces = false) {E : MK} {o : Nat} {p1 : Int32} {p2 : Int32} {p3 : Int32} {M : MEM} {Q : UInt64 → MEM → Prop} {X : String → MEM → Prop} (hw : wp_X5_resampled o p1 p2 p3 M Q X) : gMet l E yX5_resampled rmX5_resampled [gR E o, .int p1, .int p2, .int p3] M (qD Q) (qE X) := by
  obtain ⟨hk0, hw⟩ := hw
  refine g_met hl (cc := cX5_resampled) (maxL := 11) (ret := (some .double)) (hh := []) (loc := [(0, gR E o), (1, .int p1), (2, .int p2), (3, .int p3)]) (by decide +kernel) (Or.inl ⟨tw830, rfl⟩) (Nat.le_of_ble_eq_true rfl) rfl (fun K hK C => ?_)
  have C : GC K E cX5_resampled RX5 11 (some .double) [] rmX5_resampled := C
  refine g_aload_n C dX5_resampled_0 0 rfl rfl ?_
  refine g_iload_n C dX5_resampled_1 1 rfl rfl ?_
  refine g_cV C dX5_resampled_2 (met_X5_slotAt C.st hw) (gc_X5_slotAt _ (Nat.le_of_ble_eq_true rfl) (Nat.le_of_ble_eq_true rfl)) tw315 tw317 twp3 (ci := 5) rfl (by decide) hk0 rfl (Nat.le_of_ble_eq_true rfl) (c2 := 1) (s2 := 6) rfl rfl (Nat.le_of_ble_eq_true rfl) (Nat.le_of_ble_eq_true rfl) rfl (kRp (fun r_1 hw => ?_)) (fun En M9 hx => g_out C (noTab _) (Nat.le_of_ble_eq_true rfl) (Nat.le_of_ble_eq_true rfl) (by obtain ⟨rfl, hx⟩ := hx; exact hx))
  refine g_astore C dX5_resampled_5 (Nat.le_of_ble_eq_true rfl) (loc' := [(4, gR E r_1), (0, gR E o), (1, .int p1), (2, .int p2), (3, .int p3)]) rfl ?_
  refine g_iload_n C dX5_resampled_7 4 rfl rfl ?_
  refine g_i2l C dX5_resampled_8 ?_
  refine g_lconst C dX5_resampled_9 (v := 1) rfl ?_
  refine g_ldc2 C dX5_resampled_10 tw818 ?_
  refine g_cS C dX5_resampled_13 (met_X5_isWithin C.st hw) (gc_X5_isWithin _ (Nat.le_of_ble_eq_true rfl) (Nat.le_of_ble_eq_true rfl)) (Or.inl tw336) tw337 rfl (Nat.le_of_ble_eq_true rfl) (c2 := 1) (s2 := 6) rfl rfl (Nat.le_of_ble_eq_true rfl) (Nat.le_of_ble_eq_true rfl) rfl (kIp (fun r_3 hw => ?_)) tNo
  refine g_cS C dX5_resampled_16 (met_X5_needRange C.st hw) (gc_X5_needRange _ (Nat.le_of_ble_eq_true rfl) (Nat.le_of_ble_eq_true rfl)) (Or.inl tw341) tw342 rfl (Nat.le_of_ble_eq_true rfl) (c2 := 2) (s2 := 12) rfl rfl (Nat.le_of_ble_eq_true rfl) (Nat.le_of_ble_eq_true rfl) rfl (kVp (fun hw => ?_)) (fun En M9 hx => g_out C (noTab _) (Nat.le_of_ble_eq_true rfl) (Nat.le_of_ble_eq_true rfl) (by obtain ⟨rfl, hx⟩ := hx; exact hx))
  refine g_aload_n C dX5_resampled_19 1 rfl rfl ?_
  refine g_aload C (j := 0) dX5_resampled_20 0 rfl ?_
  refine g_cV C dX5_resampled_22 (met_X5_neededSample C.st hw) (gc_X5_neededSample _ (Nat.le_of_ble_eq_true rfl) (Nat.le_of_ble_eq_true rfl)) tw692 tw694 twp18 (ci := 5) rfl (by decide) hk0 rfl (Nat.le_of_ble_eq_true rfl) (c2 := 4) (s2 := 24) rfl rfl (Nat.le_of_ble_eq_true rfl) (Nat.le_of_ble_eq_true rfl) rfl (kR' (fun r_7 M_8 hw => ?_)) (fun En M9 hx => g_out C (noTab _) (Nat.le_of_ble_eq_true rfl) (Nat.le_of_ble_eq_true rfl) hx)
  refine g_astore C dX5_resampled_25 (Nat.le_of_ble_eq_true rfl) (loc' := [(5, gR E r_7), (4, gR E r_1), (0, gR E o), (1, .int p1), (2, .int p2), (3, .int p3)]) rfl ?_
  refine g_iconst C dX5_resampled_27 (v := 1) rfl ?_
  refine g_aload C (j := 0) dX5_resampled_28 0 rfl ?_
  obtain ⟨hk_11, hw⟩ := hw
  refine g_cV C dX5_resampled_30 (met_X3_size C.st hw) (gc_X3_size _ (Nat.le_of_ble_eq_true rfl) (Nat.le_of_ble_eq_true rfl)) tw522 tw523 tw524 (ci := 3) rfl (by decide) hk_11 rfl (Nat.le_of_ble_eq_true rfl) (c2 := 4) (s2 := 24) rfl rfl (Nat.le_of_ble_eq_true rfl) (Nat.le_of_ble_eq_true rfl) rfl (kIp (fun r_9 hw => ?_)) tNo
  refine g_max C dX5_resampled_33 tw831 tw135 tw6 tw136 (Nat.le_of_ble_eq_true rfl) (Nat.le_of_ble_eq_true rfl) (Nat.le_of_ble_eq_true rfl) (Nat.le_of_ble_eq_true rfl) ?_
  refine g_nmI (fun v_12 ev_12 => ?_)
  have hw := hw v_12 ev_12
  refine g_istore C dX5_resampled_36 (Nat.le_of_ble_eq_true rfl) (loc' := [(6, .int v_12), (5, gR E r_7), (4, gR E r_1), (0, gR E o), (1, .int p1), (2, .int p2), (3, .int p3)]) rfl ?_
  refine g_iload_n C dX5_resampled_38 5 rfl rfl ?_
  refine g_istore C dX5_resampled_39 (Nat.le_of_ble_eq_true rfl) (loc' := [(7, .int p2), (6, .int v_12), (5, gR E r_7), (4, gR E r_1), (0, gR E o), (1, .int p1), (2, .int p2), (3, .int p3)]) rfl ?_
  refine g_dconst C dX5_resampled_41 ?_
  refine g_dstore C dX5_resampled_42 (Nat.le_of_ble_eq_true rfl) (loc' := [(8, .double 0), (7, .int p2), (6, .int v_12), (5, gR E r_7), (4, gR E r_1), (0, gR E o), (1, .int p1), (2, .int p2), (3, .int p3)]) rfl ?_
  refine g_iconst C dX5_resampled_44 (v := 0) rfl ?_
  refine g_istore C dX5_resampled_45 (Nat.le_of_ble_eq_true rfl) (loc' := [(10, .int 0), (8, .double 0), (7, .int p2), (6, .int v_12), (5, gR E r_7), (4, gR E r_1), (0, gR E o), (1, .int p1), (2, .int p2), (3, .int p3)]) rfl ?_
  obtain ⟨m47, hw⟩ := hw
  have hL47 : ∀ (n47 : Nat) (x7_13 : Int32) (x8_14 : UInt64) (x10_15 : Int32), wp_X5_resampled_L47 p3 Q r_7 M_8 v_12 n47 x7_13 x8_14 x10_15 → GX K E 11 M_8 [(3, .int p3), (5, gR E r_7), (6, .int v_12), (7, .int x7_13), (8, .double x8_14), (10, .int x10_15)] [] 47 4 24 (gEnd K E (qD Q) (qE X) rmX5_resampled.cells rmX5_resampled.slots) := by
    intro n47
    induction n47 with
    | zero => intro _ _ _ hw; exact False.elim hw
    | succ n47 ih47 =>
      intro x7_13 x8_14 x10_15 hw
      refine g_iload C (j := 0) dX5_resampled_47 5 rfl ?_
      refine g_iload_n C dX5_resampled_49 0 rfl rfl ?_
      refine g_icmp_ge C dX5_resampled_50 (tgt := 86) (by decide) (fun c50 => ?_) (fun c50 => ?_)
      · have hw := hw.1 c50
        refine g_dload C (j := 0) dX5_resampled_86 4 rfl ?_
        refine g_iload_n C dX5_resampled_88 0 rfl rfl ?_
        refine g_i2d C dX5_resampled_89 ?_
        refine g_ddiv C dX5_resampled_90 (fun f_16 ef_16 => ?_)
        have hw := hw f_16 ef_16
        exact g_dret C dX5_resampled_91 (Nat.le_of_ble_eq_true rfl) (Nat.le_of_ble_eq_true rfl) ⟨_, rfl, hw⟩
      · have hw := hw.2 c50
        refine g_iload C (j := 0) dX5_resampled_53 3 rfl ?_
        refine g_cS C dX5_resampled_55 (met_X5_nextDrawn C.st hw) (gc_X5_nextDrawn _ (Nat.le_of_ble_eq_true rfl) (Nat.le_of_ble_eq_true rfl)) (Or.inl tw448) tw449 rfl (Nat.le_of_ble_eq_true rfl) (c2 := 4) (s2 := 24) rfl rfl (Nat.le_of_ble_eq_true rfl) (Nat.le_of_ble_eq_true rfl) rfl (kIp (fun r_17 hw => ?_)) tNo
        refine g_istore C dX5_resampled_58 (Nat.le_of_ble_eq_true rfl) (loc' := [(7, .int r_17), (3, .int p3), (5, gR E r_7), (6, .int v_12), (8, .double x8_14), (10, .int x10_15)]) rfl ?_
        refine g_dload C (j := 0) dX5_resampled_60 4 rfl ?_
        refine g_aload C (j := 0) dX5_resampled_62 2 rfl ?_
        refine g_iload C (j := 0) dX5_resampled_64 0 rfl ?_
        refine g_bipush C dX5_resampled_66 (v := 8) rfl ?_
        refine g_iushr C dX5_resampled_68 ?_
        refine g_iload C (j := 0) dX5_resampled_69 3 rfl ?_
        obtain ⟨hz_19, hw⟩ := hw
        refine g_irem C dX5_resampled_71 hz_19 ?_
        refine g_iconst C dX5_resampled_72 (v := 4) rfl ?_
        refine g_cV C dX5_resampled_73 (met_X3_partAt C.st hw) (gc_X3_partAt _ (Nat.le_of_ble_eq_true rfl) (Nat.le_of_ble_eq_true rfl)) tw668 tw669 tw670 (ci := 3) rfl (by decide) hk_11 rfl (Nat.le_of_ble_eq_true rfl) (c2 := 4) (s2 := 24) rfl rfl (Nat.le_of_ble_eq_true rfl) (Nat.le_of_ble_eq_true rfl) rfl (kIp (fun r_20 hw => ?_)) tNo
        refine g_i2d C dX5_resampled_76 ?_
        refine g_dadd C dX5_resampled_77 (fun f_22 ef_22 => ?_)
        have hw := hw f_22 ef_22
        refine g_dstore C dX5_resampled_78 (Nat.le_of_ble_eq_true rfl) (loc' := [(8, .double f_22), (7, .int r_17), (3, .int p3), (5, gR E r_7), (6, .int v_12), (10, .int x10_15)]) rfl ?_
        obtain ⟨x10_23, ex10_23⟩ : ∃ y : Int32, y = x10_15 + 1 := ⟨_, rfl⟩
        have hw := hw x10_23 ex10_23
        refine g_iinc C (j := 0) dX5_resampled_80 5 rfl (v := x10_23) (by rw [ex10_23]; rfl) (Nat.le_of_ble_eq_true rfl) (loc' := [(10, .int x10_23), (8, .double f_22), (7, .int r_17), (3, .int p3), (5, gR E r_7), (6, .int v_12)]) rfl ?_
        refine g_goto C dX5_resampled_83 (tgt := 47) (by decide) ?_
        refine g_sub [3, 4, 5, 2, 1, 0] rfl ?_
        exact ih47 _ _ _ hw
  refine g_sub [9, 4, 3, 2, 1, 0] rfl ?_
  exact hL47 m47 _ _ _ hw
theorem gc_X5_resampled : ∀ rm : Room, rmX5_resampled.frames + 1 ≤ rm.frames → 8 + (11 + 11) + rmX5_resampled.locals ≤ rm.locals → gCall yX5_resampled 11 3 rmX5_resampled rm := fun rm a b => ⟨Or.inl ⟨_, _, tw830⟩, tw1, ⟨by decide, by decide⟩, by decide, a, b⟩
abbrev rmX5_findBothSamples : Room := { frames := 7, cells := 4, slots := 24, locals := 112 }
def wp_X5_findBothSamples (o : Nat) (p1 : Int32) (p2 : Int32) (M : MEM) (Q : MEM → Prop) (X : String → MEM → Prop) : Prop := KD o = (15, 0) ∧ (wp_X5_slotAt o p1 M (fun r_1 => wp_X5_slotAt o p2 M (fun r_3 => wp_X5_needFilled r_1 M (wp_X5_needFilled r_3 M (KD (RF o 7) = (13, 0) ∧ wp_X3_find (RF o 7) r_1 M (fun M_10 => KD (RF o 8) = (13, 0) ∧ wp_X3_find (RF o 8) r_3 M_10 (fun M_13 => Q M_13))) (fun En => X En M)) (fun En => X En M)) (fun En => X En M)) (fun En => X En M))
set_option maxRecDepth 100000 in
set_option maxHeartbeats 4000000 in
theorem met_X5_findBothSamples {l : Launch} (hl : l.stackTraces = false) {E : MK} {o : Nat} {p1 : Int32} {p2 : Int32} {M : MEM} {Q : MEM → Prop} {X : String → MEM → Prop} (hw : wp_X5_findBothSamples o p1 p2 M Q X) : gMet l E yX5_findBothSamples rmX5_findBothSamples [gR E o, .int p1, .int p2] M (qV Q) (qE X) := by
  obtain ⟨hk0, hw⟩ := hw
  refine g_met hl (cc := cX5_findBothSamples) (maxL := 5) (ret := none) (hh := []) (loc := [(0, gR E o), (1, .int p1), (2, .int p2)]) (by decide +kernel) (Or.inl ⟨tw842, rfl⟩) (Nat.le_of_ble_eq_true rfl) rfl (fun K hK C => ?_)
  have C : GC K E cX5_findBothSamples RX5 5 none [] rmX5_findBothSamples := C
  refine g_aload_n C dX5_findBothSamples_0 0 rfl rfl ?_
  refine g_iload_n C dX5_findBothSamples_1 1 rfl rfl ?_
  refine g_cV C dX5_findBothSamples_2 (met_X5_slotAt C.st hw) (gc_X5_slotAt _ (Nat.le_of_ble_eq_true rfl) (Nat.le_of_ble_eq_true rfl)) tw315 tw317 twp3 (ci := 5) rfl (by decide) hk0 rfl (Nat.le_of_ble_eq_true rfl) (c2 := 1) (s2 := 6) rfl rfl (Nat.le_of_ble_eq_true rfl) (Nat.le_of_ble_eq_true rfl) rfl (kRp (fun r_1 hw => ?_)) (fun En M9 hx => g_out C (noTab _) (Nat.le_of_ble_eq_true rfl) (Nat.le_of_ble_eq_true rfl) (by obtain ⟨rfl, hx⟩ := hx; exact hx))
  refine g_astore_n C dX5_findBothSamples_5 rfl (Nat.le_of_ble_eq_true rfl) (loc' := [(3, gR E r_1), (0, gR E o), (1, .int p1), (2, .int p2)]) rfl ?_
  refine g_aload_n C dX5_findBothSamples_6 1 rfl rfl ?_
  refine g_iload_n C dX5_findBothSamples_7 3 rfl rfl ?_
  refine g_cV C dX5_findBothSamples_8 (met_X5_slotAt C.st hw) (gc_X5_slotAt _ (Nat.le_of_ble_eq_true rfl) (Nat.le_of_ble_eq_true rfl)) tw315 tw317 twp3 (ci := 5) rfl (by decide) hk0 rfl (Nat.le_of_ble_eq_true rfl) (c2 := 2) (s2 := 12) rfl rfl (Nat.le_of_ble_eq_true rfl) (Nat.le_of_ble_eq_true rfl) rfl (kRp (fun r_3 hw => ?_)) (fun En M9 hx => g_out C (noTab _) (Nat.le_of_ble_eq_true rfl) (Nat.le_of_ble_eq_true rfl) (by obtain ⟨rfl, hx⟩ := hx; exact hx))
  refine g_astore C dX5_findBothSamples_11 (Nat.le_of_ble_eq_true rfl) (loc' := [(4, gR E r_3), (3, gR E r_1), (0, gR E o), (1, .int p1), (2, .int p2)]) rfl ?_
  refine g_aload_n C dX5_findBothSamples_13 1 rfl rfl ?_
  refine g_cS C dX5_findBothSamples_14 (met_X5_needFilled C.st hw) (gc_X5_needFilled _ (Nat.le_of_ble_eq_true rfl) (Nat.le_of_ble_eq_true rfl)) (Or.inl tw405) tw406 rfl (Nat.le_of_ble_eq_true rfl) (c2 := 3) (s2 := 18) rfl rfl (Nat.le_of_ble_eq_true rfl) (Nat.le_of_ble_eq_true rfl) rfl (kVp (fun hw => ?_)) (fun En M9 hx => g_out C (noTab _) (Nat.le_of_ble_eq_true rfl) (Nat.le_of_ble_eq_true rfl) (by obtain ⟨rfl, hx⟩ := hx; exact hx))
  refine g_aload C (j := 0) dX5_findBothSamples_17 0 rfl ?_
  refine g_cS C dX5_findBothSamples_19 (met_X5_needFilled C.st hw) (gc_X5_needFilled _ (Nat.le_of_ble_eq_true rfl) (Nat.le_of_ble_eq_true rfl)) (Or.inl tw405) tw406 rfl (Nat.le_of_ble_eq_true rfl) (c2 := 4) (s2 := 24) rfl rfl (Nat.le_of_ble_eq_true rfl) (Nat.le_of_ble_eq_true rfl) rfl (kVp (fun hw => ?_)) (fun En M9 hx => g_out C (noTab _) (Nat.le_of_ble_eq_true rfl) (Nat.le_of_ble_eq_true rfl) (by obtain ⟨rfl, hx⟩ := hx; exact hx))
  refine g_aload_n C dX5_findBothSamples_22 2 rfl rfl ?_
  refine gf_RX5_33 C hk0 dX5_findBothSamples_23 ?_
  refine g_aload_n C dX5_findBothSamples_26 1 rfl rfl ?_
  obtain ⟨hk_11, hw⟩ := hw
  refine g_cV C dX5_findBothSamples_27 (met_X3_find C.st hw) (gc_X3_find _ (Nat.le_of_ble_eq_true rfl) (Nat.le_of_ble_eq_true rfl)) tw464 tw465 tw466 (ci := 3) rfl (by decide) hk_11 rfl (Nat.le_of_ble_eq_true rfl) (c2 := 4) (s2 := 24) rfl rfl (Nat.le_of_ble_eq_true rfl) (Nat.le_of_ble_eq_true rfl) rfl (kV (fun M_10 hw => ?_)) tNo
  refine g_aload_n C dX5_findBothSamples_30 2 rfl rfl ?_
  refine gf_RX5_37 C hk0 dX5_findBothSamples_31 ?_
  refine g_aload C (j := 0) dX5_findBothSamples_34 0 rfl ?_
  obtain ⟨hk_14, hw⟩ := hw
  refine g_cV C dX5_findBothSamples_36 (met_X3_find C.st hw) (gc_X3_find _ (Nat.le_of_ble_eq_true rfl) (Nat.le_of_ble_eq_true rfl)) tw464 tw465 tw466 (ci := 3) rfl (by decide) hk_14 rfl (Nat.le_of_ble_eq_true rfl) (c2 := 4) (s2 := 24) rfl rfl (Nat.le_of_ble_eq_true rfl) (Nat.le_of_ble_eq_true rfl) rfl (kV (fun M_13 hw => ?_)) tNo
  exact g_vret C dX5_findBothSamples_39 (Nat.le_of_ble_eq_true rfl) (Nat.le_of_ble_eq_true rfl) ⟨rfl, hw⟩
theorem gc_X5_findBothSamples : ∀ rm : Room, rmX5_findBothSamples.frames + 1 ≤ rm.frames → 8 + (5 + 11) + rmX5_findBothSamples.locals ≤ rm.locals → gCall yX5_findBothSamples 5 2 rmX5_findBothSamples rm := fun rm a b => ⟨Or.inl ⟨_, _, tw842⟩, tw1, ⟨by decide, by decide⟩, by decide, a, b⟩
abbrev rmX5_greatestGap : Room := { frames := 3, cells := 0, slots := 0, locals := 67 }
def wp_X5_greatestGap_J56 (K4 : UInt32 → Int32 → Prop) (x2_1 : UInt32) (x3_2 : Int32) (s_15 : UInt32) : Prop := ((Op.cmpValue (FP.fcmp s_15 x2_1) .l) ≤ 0 → (∀ x3_16 : Int32, x3_16 = x3_2 + 1 → (K4 x2_1 x3_16))) ∧ (¬ (Op.cmpValue (FP.fcmp s_15 x2_1) .l) ≤ 0 → (∀ x3_17 : Int32, x3_17 = x3_2 + 1 → (K4 s_15 x3_17)))
def wp_X5_greatestGap_L4 (o : Nat) (p1 : Nat) (M : MEM) (Q : UInt32 → Prop) : Nat → UInt32 → Int32 → Prop
  | 0, _, _ => False
  | n4 + 1, x2_1, x3_2 => KD p1 = (13, 0) ∧ wp_X3_size p1 M (fun r_3 => (r_3 ≤ x3_2 → (Q x2_1)) ∧ (¬ r_3 ≤ x3_2 → (wp_X3_partAt p1 x3_2 4 M (fun r_6 => KD (RF o 7) = (13, 0) ∧ wp_X3_shareUpTo (RF o 7) r_6 M (fun r_8 => KD (RF o 8) = (13, 0) ∧ wp_X3_shareUpTo (RF o 8) r_6 M (fun r_11 => ∀ f_14 : UInt32, alike32 f_14 (FP.fsub r_8 r_11) = true → ((0 ≤ (Op.cmpValue (FP.fcmp f_14 0) .g) → (wp_X5_greatestGap_J56 (wp_X5_greatestGap_L4 o p1 M Q n4) x2_1 x3_2 f_14)) ∧ (¬ 0 ≤ (Op.cmpValue (FP.fcmp f_14 0) .g) → (wp_X5_greatestGap_J56 (wp_X5_greatestGap_L4 o p1 M Q n4) x2_1 x3_2 (FP.fneg f_14))))))))))
def wp_X5_greatestGap (o : Nat) (p1 : Nat) (M : MEM) (Q : UInt32 → Prop) : Prop := KD o = (15, 0) ∧ (∃ m4 : Nat, wp_X5_greatestGap_L4 o p1 M Q m4 0 0)
set_option maxRecDepth 100000 in
set_option maxHeartbeats 4000000 in
theorem met_X5_greatestGap {l : Launch} (hl : l.stackTraces = false) {E : MK} {o : Nat} {p1 : Nat} {M : MEM} {Q : UInt32 → Prop} (hw : wp_X5_greatestGap o p1 M Q) : gMet l E yX5_greatestGap rmX5_greatestGap [gR E o, gR E p1] M (qFp M Q) gNo := by
  obtain ⟨hk0, hw⟩ := hw
  refine g_met hl (cc := cX5_greatestGap) (maxL := 7) (ret := (some .float)) (hh := []) (loc := [(0, gR E o), (1, gR E p1)]) (by decide +kernel) (Or.inl ⟨tw846, rfl⟩) (Nat.le_of_ble_eq_true rfl) rfl (fun K hK C => ?_)
  have C : GC K E cX5_greatestGap RX5 7 (some .float) [] rmX5_greatestGap := C
  refine g_fconst C dX5_greatestGap_0 ?_
  refine g_fstore_n C dX5_greatestGap_1 rfl (Nat.le_of_ble_eq_true rfl) (loc' := [(2, .float 0), (0, gR E o), (1, gR E p1)]) rfl ?_
  refine g_iconst C dX5_greatestGap_2 (v := 0) rfl ?_
  refine g_istore_n C dX5_greatestGap_3 rfl (Nat.le_of_ble_eq_true rfl) (loc' := [(3, .int 0), (2, .float 0), (0, gR E o), (1, gR E p1)]) rfl ?_
  obtain ⟨m4, hw⟩ := hw
  have hL4 : ∀ (n4 : Nat) (x2_1 : UInt32) (x3_2 : Int32), wp_X5_greatestGap_L4 o p1 M Q n4 x2_1 x3_2 → GX K E 7 M [(0, gR E o), (1, gR E p1), (2, .float x2_1), (3, .int x3_2)] [] 4 0 0 (gEnd K E (qFp M Q) gNo rmX5_greatestGap.cells rmX5_greatestGap.slots) := by
    intro n4
    induction n4 with
    | zero => intro _ _ hw; exact False.elim hw
    | succ n4 ih4 =>
      intro x2_1 x3_2 hw
      refine g_iload_n C dX5_greatestGap_4 3 rfl rfl ?_
      refine g_aload_n C dX5_greatestGap_5 1 rfl rfl ?_
      obtain ⟨hk_5, hw⟩ := hw
      refine g_cV C dX5_greatestGap_6 (met_X3_size C.st hw) (gc_X3_size _ (Nat.le_of_ble_eq_true rfl) (Nat.le_of_ble_eq_true rfl)) tw522 tw523 tw524 (ci := 3) rfl (by decide) hk_5 rfl (Nat.le_of_ble_eq_true rfl) (c2 := 0) (s2 := 0) rfl rfl (Nat.le_of_ble_eq_true rfl) (Nat.le_of_ble_eq_true rfl) rfl (kIp (fun r_3 hw => ?_)) tNo
      refine g_icmp_ge C dX5_greatestGap_9 (tgt := 78) (by decide) (fun c9 => ?_) (fun c9 => ?_)
      · have hw := hw.1 c9
        refine g_fload_n C dX5_greatestGap_78 2 rfl rfl ?_
        exact g_fret C dX5_greatestGap_79 (Nat.le_of_ble_eq_true rfl) (Nat.le_of_ble_eq_true rfl) ⟨_, rfl, rfl, hw⟩
      · have hw := hw.2 c9
        refine g_aload_n C dX5_greatestGap_12 1 rfl rfl ?_
        refine g_iload_n C dX5_greatestGap_13 3 rfl rfl ?_
        refine g_iconst C dX5_greatestGap_14 (v := 4) rfl ?_
        refine g_cV C dX5_greatestGap_15 (met_X3_partAt C.st hw) (gc_X3_partAt _ (Nat.le_of_ble_eq_true rfl) (Nat.le_of_ble_eq_true rfl)) tw668 tw669 tw670 (ci := 3) rfl (by decide) hk_5 rfl (Nat.le_of_ble_eq_true rfl) (c2 := 0) (s2 := 0) rfl rfl (Nat.le_of_ble_eq_true rfl) (Nat.le_of_ble_eq_true rfl) rfl (kIp (fun r_6 hw => ?_)) tNo
        refine g_istore C dX5_greatestGap_18 (Nat.le_of_ble_eq_true rfl) (loc' := [(4, .int r_6), (0, gR E o), (1, gR E p1), (2, .float x2_1), (3, .int x3_2)]) rfl ?_
        refine g_aload_n C dX5_greatestGap_20 1 rfl rfl ?_
        refine gf_RX5_33 C hk0 dX5_greatestGap_21 ?_
        refine g_iload C (j := 0) dX5_greatestGap_24 0 rfl ?_
        obtain ⟨hk_10, hw⟩ := hw
        refine g_cV C dX5_greatestGap_26 (met_X3_shareUpTo C.st hw) (gc_X3_shareUpTo _ (Nat.le_of_ble_eq_true rfl) (Nat.le_of_ble_eq_true rfl)) tw847 tw848 tw849 (ci := 3) rfl (by decide) hk_10 rfl (Nat.le_of_ble_eq_true rfl) (c2 := 0) (s2 := 0) rfl rfl (Nat.le_of_ble_eq_true rfl) (Nat.le_of_ble_eq_true rfl) rfl (kFp (fun r_8 hw => ?_)) tNo
        refine g_aload_n C dX5_greatestGap_29 1 rfl rfl ?_
        refine gf_RX5_37 C hk0 dX5_greatestGap_30 ?_
        refine g_iload C (j := 0) dX5_greatestGap_33 0 rfl ?_
        obtain ⟨hk_13, hw⟩ := hw
        refine g_cV C dX5_greatestGap_35 (met_X3_shareUpTo C.st hw) (gc_X3_shareUpTo _ (Nat.le_of_ble_eq_true rfl) (Nat.le_of_ble_eq_true rfl)) tw847 tw848 tw849 (ci := 3) rfl (by decide) hk_13 rfl (Nat.le_of_ble_eq_true rfl) (c2 := 0) (s2 := 0) rfl rfl (Nat.le_of_ble_eq_true rfl) (Nat.le_of_ble_eq_true rfl) rfl (kFp (fun r_11 hw => ?_)) tNo
        refine g_fsub C dX5_greatestGap_38 (fun f_14 ef_14 => ?_)
        have hw := hw f_14 ef_14
        refine g_fstore C dX5_greatestGap_39 (Nat.le_of_ble_eq_true rfl) (loc' := [(5, .float f_14), (4, .int r_6), (0, gR E o), (1, gR E p1), (2, .float x2_1), (3, .int x3_2)]) rfl ?_
        refine g_fload C (j := 0) dX5_greatestGap_41 0 rfl ?_
        refine g_fconst C dX5_greatestGap_43 ?_
        refine g_fcmp C dX5_greatestGap_44 ?_
        have hJ56 : ∀ (s_15 : UInt32), wp_X5_greatestGap_J56 (wp_X5_greatestGap_L4 o p1 M Q n4) x2_1 x3_2 s_15 → GX K E 7 M [(0, gR E o), (1, gR E p1), (2, .float x2_1), (3, .int x3_2)] [.float s_15] 56 0 0 (gEnd K E (qFp M Q) gNo rmX5_greatestGap.cells rmX5_greatestGap.slots) := by
          intro s_15 hw
          refine g_fstore C dX5_greatestGap_56 (Nat.le_of_ble_eq_true rfl) (loc' := [(6, .float s_15), (0, gR E o), (1, gR E p1), (2, .float x2_1), (3, .int x3_2)]) rfl ?_
          refine g_fload C (j := 0) dX5_greatestGap_58 0 rfl ?_
          refine g_fload_n C dX5_greatestGap_60 3 rfl rfl ?_
          refine g_fcmp C dX5_greatestGap_61 ?_
          refine g_if_le C dX5_greatestGap_62 (tgt := 70) (by decide) (fun c62 => ?_) (fun c62 => ?_)
          · have hw := hw.1 c62
            refine g_fload_n C dX5_greatestGap_70 3 rfl rfl ?_
            refine g_fstore_n C dX5_greatestGap_71 rfl (Nat.le_of_ble_eq_true rfl) (loc' := [(2, .float x2_1), (6, .float s_15), (0, gR E o), (1, gR E p1), (3, .int x3_2)]) rfl ?_
            obtain ⟨x3_16, ex3_16⟩ : ∃ y : Int32, y = x3_2 + 1 := ⟨_, rfl⟩
            have hw := hw x3_16 ex3_16
            refine g_iinc C (j := 0) dX5_greatestGap_72 4 rfl (v := x3_16) (by rw [ex3_16]; rfl) (Nat.le_of_ble_eq_true rfl) (loc' := [(3, .int x3_16), (2, .float x2_1), (6, .float s_15), (0, gR E o), (1, gR E p1)]) rfl ?_
            refine g_goto C dX5_greatestGap_75 (tgt := 4) (by decide) ?_
            refine g_sub [3, 4, 1, 0] rfl ?_
            exact ih4 _ _ hw
          · have hw := hw.2 c62
            refine g_fload C (j := 0) dX5_greatestGap_65 0 rfl ?_
            refine g_goto C dX5_greatestGap_67 (tgt := 71) (by decide) ?_
            refine g_fstore_n C dX5_greatestGap_71 rfl (Nat.le_of_ble_eq_true rfl) (loc' := [(2, .float s_15), (6, .float s_15), (0, gR E o), (1, gR E p1), (3, .int x3_2)]) rfl ?_
            obtain ⟨x3_17, ex3_17⟩ : ∃ y : Int32, y = x3_2 + 1 := ⟨_, rfl⟩
            have hw := hw x3_17 ex3_17
            refine g_iinc C (j := 0) dX5_greatestGap_72 4 rfl (v := x3_17) (by rw [ex3_17]; rfl) (Nat.le_of_ble_eq_true rfl) (loc' := [(3, .int x3_17), (2, .float s_15), (6, .float s_15), (0, gR E o), (1, gR E p1)]) rfl ?_
            refine g_goto C dX5_greatestGap_75 (tgt := 4) (by decide) ?_
            refine g_sub [3, 4, 1, 0] rfl ?_
            exact ih4 _ _ hw
        refine g_if_ge C dX5_greatestGap_45 (tgt := 54) (by decide) (fun c45 => ?_) (fun c45 => ?_)
        · have hw := hw.1 c45
          refine g_fload C (j := 0) dX5_greatestGap_54 0 rfl ?_
          refine g_sub [2, 3, 4, 5] rfl ?_
          exact hJ56 _ hw
        · have hw := hw.2 c45
          refine g_fload C (j := 0) dX5_greatestGap_48 0 rfl ?_
          refine g_fneg C dX5_greatestGap_50 ?_
          refine g_goto C dX5_greatestGap_51 (tgt := 56) (by decide) ?_
          refine g_sub [2, 3, 4, 5] rfl ?_
          exact hJ56 _ hw
  refine g_sub [2, 3, 1, 0] rfl ?_
  exact hL4 m4 _ _ hw
theorem gc_X5_greatestGap : ∀ rm : Room, rmX5_greatestGap.frames + 1 ≤ rm.frames → 8 + (7 + 11) + rmX5_greatestGap.locals ≤ rm.locals → gCall yX5_greatestGap 7 1 rmX5_greatestGap rm := fun rm a b => ⟨Or.inl ⟨_, _, tw846⟩, tw1, ⟨by decide, by decide⟩, by decide, a, b⟩
abbrev rmX5_distance : Room := { frames := 8, cells := 6, slots := 36, locals := 136 }
def wp_X5_distance (o : Nat) (p1 : Int32) (p2 : Int32) (M : MEM) (Q : UInt32 → MEM → Prop) (X : String → MEM → Prop) : Prop := KD o = (15, 0) ∧ (wp_X5_findBothSamples o p1 p2 M (fun M_2 => wp_X5_needItems (RF o 7) M_2 (wp_X5_needItems (RF o 8) M_2 (wp_X5_greatestGap o (RF o 7) M_2 (fun r_7 => wp_X5_greatestGap o (RF o 8) M_2 (fun r_9 => ((Op.cmpValue (FP.fcmp r_7 r_9) .l) < 0 → (Q r_9 M_2)) ∧ (¬ (Op.cmpValue (FP.fcmp r_7 r_9) .l) < 0 → (Q r_7 M_2))))) (fun En => X En M_2)) (fun En => X En M_2)) X)
set_option maxRecDepth 100000 in
set_option maxHeartbeats 4000000 in
theorem met_X5_distance {l : Launch} (hl : l.stackTraces = false) {E : MK} {o : Nat} {p1 : Int32} {p2 : Int32} {M : MEM} {Q : UInt32 → MEM → Prop} {X : String → MEM → Prop} (hw : wp_X5_distance o p1 p2 M Q X) : gMet l E yX5_distance rmX5_distance [gR E o, .int p1, .int p2] M (qF Q) (qE X) := by
  obtain ⟨hk0, hw⟩ := hw
  refine g_met hl (cc := cX5_distance) (maxL := 5) (ret := (some .float)) (hh := []) (loc := [(0, gR E o), (1, .int p1), (2, .int p2)]) (by decide +kernel) (Or.inl ⟨tw838, rfl⟩) (Nat.le_of_ble_eq_true rfl) rfl (fun K hK C => ?_)
  have C : GC K E cX5_distance RX5 5 (some .float) [] rmX5_distance := C
  refine g_aload_n C dX5_distance_0 0 rfl rfl ?_
  refine g_iload_n C dX5_distance_1 1 rfl rfl ?_
  refine g_iload_n C dX5_distance_2 2 rfl rfl ?_
  refine g_cV C dX5_distance_3 (met_X5_findBothSamples C.st hw) (gc_X5_findBothSamples _ (Nat.le_of_ble_eq_true rfl) (Nat.le_of_ble_eq_true rfl)) tw839 tw841 twp22 (ci := 5) rfl (by decide) hk0 rfl (Nat.le_of_ble_eq_true rfl) (c2 := 4) (s2 := 24) rfl rfl (Nat.le_of_ble_eq_true rfl) (Nat.le_of_ble_eq_true rfl) rfl (kV (fun M_2 hw => ?_)) (fun En M9 hx => g_out C (noTab _) (Nat.le_of_ble_eq_true rfl) (Nat.le_of_ble_eq_true rfl) hx)
  refine g_aload_n C dX5_distance_6 0 rfl rfl ?_
  refine gf_RX5_33 C hk0 dX5_distance_7 ?_
  refine g_cS C dX5_distance_10 (met_X5_needItems C.st hw) (gc_X5_needItems _ (Nat.le_of_ble_eq_true rfl) (Nat.le_of_ble_eq_true rfl)) (Or.inl tw696) tw697 rfl (Nat.le_of_ble_eq_true rfl) (c2 := 5) (s2 := 30) rfl rfl (Nat.le_of_ble_eq_true rfl) (Nat.le_of_ble_eq_true rfl) rfl (kVp (fun hw => ?_)) (fun En M9 hx => g_out C (noTab _) (Nat.le_of_ble_eq_true rfl) (Nat.le_of_ble_eq_true rfl) (by obtain ⟨rfl, hx⟩ := hx; exact hx))
  refine g_aload_n C dX5_distance_13 0 rfl rfl ?_
  refine gf_RX5_37 C hk0 dX5_distance_14 ?_
  refine g_cS C dX5_distance_17 (met_X5_needItems C.st hw) (gc_X5_needItems _ (Nat.le_of_ble_eq_true rfl) (Nat.le_of_ble_eq_true rfl)) (Or.inl tw696) tw697 rfl (Nat.le_of_ble_eq_true rfl) (c2 := 6) (s2 := 36) rfl rfl (Nat.le_of_ble_eq_true rfl) (Nat.le_of_ble_eq_true rfl) rfl (kVp (fun hw => ?_)) (fun En M9 hx => g_out C (noTab _) (Nat.le_of_ble_eq_true rfl) (Nat.le_of_ble_eq_true rfl) (by obtain ⟨rfl, hx⟩ := hx; exact hx))
  refine g_aload_n C dX5_distance_20 0 rfl rfl ?_
  refine g_aload_n C dX5_distance_21 0 rfl rfl ?_
  refine gf_RX5_33 C hk0 dX5_distance_22 ?_
  refine g_cV C dX5_distance_25 (met_X5_greatestGap C.st hw) (gc_X5_greatestGap _ (Nat.le_of_ble_eq_true rfl) (Nat.le_of_ble_eq_true rfl)) tw843 tw845 twp23 (ci := 5) rfl (by decide) hk0 rfl (Nat.le_of_ble_eq_true rfl) (c2 := 6) (s2 := 36) rfl rfl (Nat.le_of_ble_eq_true rfl) (Nat.le_of_ble_eq_true rfl) rfl (kFp (fun r_7 hw => ?_)) tNo
  refine g_fstore_n C dX5_distance_28 rfl (Nat.le_of_ble_eq_true rfl) (loc' := [(3, .float r_7), (0, gR E o), (1, .int p1), (2, .int p2)]) rfl ?_
  refine g_aload_n C dX5_distance_29 1 rfl rfl ?_
  refine g_aload_n C dX5_distance_30 1 rfl rfl ?_
  refine gf_RX5_37 C hk0 dX5_distance_31 ?_
  refine g_cV C dX5_distance_34 (met_X5_greatestGap C.st hw) (gc_X5_greatestGap _ (Nat.le_of_ble_eq_true rfl) (Nat.le_of_ble_eq_true rfl)) tw843 tw845 twp23 (ci := 5) rfl (by decide) hk0 rfl (Nat.le_of_ble_eq_true rfl) (c2 := 6) (s2 := 36) rfl rfl (Nat.le_of_ble_eq_true rfl) (Nat.le_of_ble_eq_true rfl) rfl (kFp (fun r_9 hw => ?_)) tNo
  refine g_fstore C dX5_distance_37 (Nat.le_of_ble_eq_true rfl) (loc' := [(4, .float r_9), (3, .float r_7), (0, gR E o), (1, .int p1), (2, .int p2)]) rfl ?_
  refine g_fload_n C dX5_distance_39 1 rfl rfl ?_
  refine g_fload C (j := 0) dX5_distance_40 0 rfl ?_
  refine g_fcmp C dX5_distance_42 ?_
  refine g_if_lt C dX5_distance_43 (tgt := 50) (by decide) (fun c43 => ?_) (fun c43 => ?_)
  · have hw := hw.1 c43
    refine g_fload C (j := 0) dX5_distance_50 0 rfl ?_
    exact g_fret C dX5_distance_52 (Nat.le_of_ble_eq_true rfl) (Nat.le_of_ble_eq_true rfl) ⟨_, rfl, hw⟩
  · have hw := hw.2 c43
    refine g_fload_n C dX5_distance_46 1 rfl rfl ?_
    refine g_goto C dX5_distance_47 (tgt := 52) (by decide) ?_
    exact g_fret C dX5_distance_52 (Nat.le_of_ble_eq_true rfl) (Nat.le_of_ble_eq_true rfl) ⟨_, rfl, hw⟩
theorem gc_X5_distance : ∀ rm : Room, rmX5_distance.frames + 1 ≤ rm.frames → 8 + (5 + 11) + rmX5_distance.locals ≤ rm.locals → gCall yX5_distance 5 2 rmX5_distance rm := fun rm a b => ⟨Or.inl ⟨_, _, tw838⟩, tw1, ⟨by decide, by decide⟩, by decide, a, b⟩
abbrev rmX5_common : Room := { frames := 8, cells := 4, slots := 24, locals := 136 }
def wp_X5_common_L11 (o : Nat) (Q : Int32 → MEM → Prop) (M_2 : MEM) : Nat → Int32 → Int32 → Prop
  | 0, _, _ => False
  | n11 + 1, x3_3, x4_4 => KD (RF o 7) = (13, 0) ∧ wp_X3_size (RF o 7) M_2 (fun r_5 => (r_5 ≤ x4_4 → (Q x3_3 M_2)) ∧ (¬ r_5 ≤ x4_4 → (wp_X3_partAt (RF o 7) x4_4 0 M_2 (fun r_8 => KD (RF o 8) = (13, 0) ∧ wp_X3_hasNumber (RF o 8) r_8 M_2 (fun r_10 => (r_10 = 0 → (∀ x4_13 : Int32, x4_13 = x4_4 + 1 → ((wp_X5_common_L11 o Q M_2 n11) x3_3 x4_13))) ∧ (¬ r_10 = 0 → (∀ x3_14 : Int32, x3_14 = x3_3 + 1 → (∀ x4_15 : Int32, x4_15 = x4_4 + 1 → ((wp_X5_common_L11 o Q M_2 n11) x3_14 x4_15)))))))))
def wp_X5_common (o : Nat) (p1 : Int32) (p2 : Int32) (M : MEM) (Q : Int32 → MEM → Prop) (X : String → MEM → Prop) : Prop := KD o = (15, 0) ∧ (wp_X5_findBothSamples o p1 p2 M (fun M_2 => ∃ m11 : Nat, wp_X5_common_L11 o Q M_2 m11 0 0) X)
set_option maxRecDepth 100000 in
set_option maxHeartbeats 4000000 in
theorem met_X5_common {l : Launch} (hl : l.stackTraces = false) {E : MK} {o : Nat} {p1 : Int32} {p2 : Int32} {M : MEM} {Q : Int32 → MEM → Prop} {X : String → MEM → Prop} (hw : wp_X5_common o p1 p2 M Q X) : gMet l E yX5_common rmX5_common [gR E o, .int p1, .int p2] M (qI Q) (qE X) := by
  obtain ⟨hk0, hw⟩ := hw
  refine g_met hl (cc := cX5_common) (maxL := 5) (ret := (some .int)) (hh := []) (loc := [(0, gR E o), (1, .int p1), (2, .int p2)]) (by decide +kernel) (Or.inl ⟨tw857, rfl⟩) (Nat.le_of_ble_eq_true rfl) rfl (fun K hK C => ?_)
  have C : GC K E cX5_common RX5 5 (some .int) [] rmX5_common := C
  refine g_aload_n C dX5_common_0 0 rfl rfl ?_
  refine g_iload_n C dX5_common_1 1 rfl rfl ?_
  refine g_iload_n C dX5_common_2 2 rfl rfl ?_
  refine g_cV C dX5_common_3 (met_X5_findBothSamples C.st hw) (gc_X5_findBothSamples _ (Nat.le_of_ble_eq_true rfl) (Nat.le_of_ble_eq_true rfl)) tw839 tw841 twp22 (ci := 5) rfl (by decide) hk0 rfl (Nat.le_of_ble_eq_true rfl) (c2 := 4) (s2 := 24) rfl rfl (Nat.le_of_ble_eq_true rfl) (Nat.le_of_ble_eq_true rfl) rfl (kV (fun M_2 hw => ?_)) (fun En M9 hx => g_out C (noTab _) (Nat.le_of_ble_eq_true rfl) (Nat.le_of_ble_eq_true rfl) hx)
  refine g_iconst C dX5_common_6 (v := 0) rfl ?_
  refine g_istore_n C dX5_common_7 rfl (Nat.le_of_ble_eq_true rfl) (loc' := [(3, .int 0), (0, gR E o), (1, .int p1), (2, .int p2)]) rfl ?_
  refine g_iconst C dX5_common_8 (v := 0) rfl ?_
  refine g_istore C dX5_common_9 (Nat.le_of_ble_eq_true rfl) (loc' := [(4, .int 0), (3, .int 0), (0, gR E o), (1, .int p1), (2, .int p2)]) rfl ?_
  obtain ⟨m11, hw⟩ := hw
  have hL11 : ∀ (n11 : Nat) (x3_3 : Int32) (x4_4 : Int32), wp_X5_common_L11 o Q M_2 n11 x3_3 x4_4 → GX K E 5 M_2 [(0, gR E o), (3, .int x3_3), (4, .int x4_4)] [] 11 4 24 (gEnd K E (qI Q) (qE X) rmX5_common.cells rmX5_common.slots) := by
    intro n11
    induction n11 with
    | zero => intro _ _ hw; exact False.elim hw
    | succ n11 ih11 =>
      intro x3_3 x4_4 hw
      refine g_iload C (j := 0) dX5_common_11 2 rfl ?_
      refine g_aload_n C dX5_common_13 0 rfl rfl ?_
      refine gf_RX5_33 C hk0 dX5_common_14 ?_
      obtain ⟨hk_7, hw⟩ := hw
      refine g_cV C dX5_common_17 (met_X3_size C.st hw) (gc_X3_size _ (Nat.le_of_ble_eq_true rfl) (Nat.le_of_ble_eq_true rfl)) tw522 tw523 tw524 (ci := 3) rfl (by decide) hk_7 rfl (Nat.le_of_ble_eq_true rfl) (c2 := 4) (s2 := 24) rfl rfl (Nat.le_of_ble_eq_true rfl) (Nat.le_of_ble_eq_true rfl) rfl (kIp (fun r_5 hw => ?_)) tNo
      refine g_icmp_ge C dX5_common_20 (tgt := 52) (by decide) (fun c20 => ?_) (fun c20 => ?_)
      · have hw := hw.1 c20
        refine g_iload_n C dX5_common_52 1 rfl rfl ?_
        exact g_iret C dX5_common_53 (Nat.le_of_ble_eq_true rfl) (Nat.le_of_ble_eq_true rfl) ⟨_, rfl, hw⟩
      · have hw := hw.2 c20
        refine g_aload_n C dX5_common_23 0 rfl rfl ?_
        refine gf_RX5_37 C hk0 dX5_common_24 ?_
        refine g_aload_n C dX5_common_27 0 rfl rfl ?_
        refine gf_RX5_33 C hk0 dX5_common_28 ?_
        refine g_iload C (j := 0) dX5_common_31 2 rfl ?_
        refine g_iconst C dX5_common_33 (v := 0) rfl ?_
        refine g_cV C dX5_common_34 (met_X3_partAt C.st hw) (gc_X3_partAt _ (Nat.le_of_ble_eq_true rfl) (Nat.le_of_ble_eq_true rfl)) tw668 tw669 tw670 (ci := 3) rfl (by decide) hk_7 rfl (Nat.le_of_ble_eq_true rfl) (c2 := 4) (s2 := 24) rfl rfl (Nat.le_of_ble_eq_true rfl) (Nat.le_of_ble_eq_true rfl) rfl (kIp (fun r_8 hw => ?_)) tNo
        obtain ⟨hk_12, hw⟩ := hw
        refine g_cV C dX5_common_37 (met_X3_hasNumber C.st hw) (gc_X3_hasNumber _ (Nat.le_of_ble_eq_true rfl) (Nat.le_of_ble_eq_true rfl)) tw858 tw859 tw860 (ci := 3) rfl (by decide) hk_12 rfl (Nat.le_of_ble_eq_true rfl) (c2 := 4) (s2 := 24) rfl rfl (Nat.le_of_ble_eq_true rfl) (Nat.le_of_ble_eq_true rfl) rfl (kIp (fun r_10 hw => ?_)) tNo
        refine g_if_eq C dX5_common_40 (tgt := 46) (by decide) (fun c40 => ?_) (fun c40 => ?_)
        · have hw := hw.1 c40
          obtain ⟨x4_13, ex4_13⟩ : ∃ y : Int32, y = x4_4 + 1 := ⟨_, rfl⟩
          have hw := hw x4_13 ex4_13
          refine g_iinc C (j := 0) dX5_common_46 2 rfl (v := x4_13) (by rw [ex4_13]; rfl) (Nat.le_of_ble_eq_true rfl) (loc' := [(4, .int x4_13), (0, gR E o), (3, .int x3_3)]) rfl ?_
          refine g_goto C dX5_common_49 (tgt := 11) (by decide) ?_
          refine g_sub [1, 2, 0] rfl ?_
          exact ih11 _ _ hw
        · have hw := hw.2 c40
          obtain ⟨x3_14, ex3_14⟩ : ∃ y : Int32, y = x3_3 + 1 := ⟨_, rfl⟩
          have hw := hw x3_14 ex3_14
          refine g_iinc C (j := 0) dX5_common_43 1 rfl (v := x3_14) (by rw [ex3_14]; rfl) (Nat.le_of_ble_eq_true rfl) (loc' := [(3, .int x3_14), (0, gR E o), (4, .int x4_4)]) rfl ?_
          obtain ⟨x4_15, ex4_15⟩ : ∃ y : Int32, y = x4_4 + 1 := ⟨_, rfl⟩
          have hw := hw x4_15 ex4_15
          refine g_iinc C (j := 0) dX5_common_46 2 rfl (v := x4_15) (by rw [ex4_15]; rfl) (Nat.le_of_ble_eq_true rfl) (loc' := [(4, .int x4_15), (3, .int x3_14), (0, gR E o)]) rfl ?_
          refine g_goto C dX5_common_49 (tgt := 11) (by decide) ?_
          refine g_sub [2, 1, 0] rfl ?_
          exact ih11 _ _ hw
  refine g_sub [2, 1, 0] rfl ?_
  exact hL11 m11 _ _ hw
theorem gc_X5_common : ∀ rm : Room, rmX5_common.frames + 1 ≤ rm.frames → 8 + (5 + 11) + rmX5_common.locals ≤ rm.locals → gCall yX5_common 5 2 rmX5_common rm := fun rm a b => ⟨Or.inl ⟨_, _, tw857⟩, tw1, ⟨by decide, by decide⟩, by decide, a, b⟩
abbrev rmX5_feed : Room := { frames := 6, cells := 1, slots := 6, locals := 82 }
def wp_X5_feed (o : Nat) (p1 : Int32) (M : MEM) (Q : Int32 → MEM → Prop) (X : String → MEM → Prop) : Prop := KD o = (15, 0) ∧ (KD (RF o 9) = (11, 0) ∧ wp_X1_isFull (RF o 9) M (fun r_1 => (r_1 = 0 → (wp_X1_add (RF o 9) p1 M (fun M_5 => wp_X1_length (RF o 9) M_5 (fun r_6 => Q r_6 M_5)))) ∧ (¬ r_1 = 0 → (X "java/lang/IllegalStateException" M))))
set_option maxRecDepth 100000 in
set_option maxHeartbeats 4000000 in
theorem met_X5_feed {l : Launch} (hl : l.stackTraces = false) {E : MK} {o : Nat} {p1 : Int32} {M : MEM} {Q : Int32 → MEM → Prop} {X : String → MEM → Prop} (hw : wp_X5_feed o p1 M Q X) : gMet l E yX5_feed rmX5_feed [gR E o, .int p1] M (qI Q) (qE X) := by
  obtain ⟨hk0, hw⟩ := hw
  refine g_met hl (cc := cX5_feed) (maxL := 2) (ret := (some .int)) (hh := []) (loc := [(0, gR E o), (1, .int p1)]) (by decide +kernel) (Or.inl ⟨tw868, rfl⟩) (Nat.le_of_ble_eq_true rfl) rfl (fun K hK C => ?_)
  have C : GC K E cX5_feed RX5 2 (some .int) [] rmX5_feed := C
  refine g_aload_n C dX5_feed_0 0 rfl rfl ?_
  refine gf_RX5_45 C hk0 dX5_feed_1 ?_
  obtain ⟨hk_3, hw⟩ := hw
  refine g_cV C dX5_feed_4 (met_X1_isFull C.st hw) (gc_X1_isFull _ (Nat.le_of_ble_eq_true rfl) (Nat.le_of_ble_eq_true rfl)) tw869 tw870 tw871 (ci := 1) rfl (by decide) hk_3 rfl (Nat.le_of_ble_eq_true rfl) (c2 := 0) (s2 := 0) rfl rfl (Nat.le_of_ble_eq_true rfl) (Nat.le_of_ble_eq_true rfl) rfl (kIp (fun r_1 hw => ?_)) tNo
  refine g_if_eq C dX5_feed_7 (tgt := 21) (by decide) (fun c7 => ?_) (fun c7 => ?_)
  · have hw := hw.1 c7
    refine g_aload_n C dX5_feed_21 0 rfl rfl ?_
    refine gf_RX5_45 C hk0 dX5_feed_22 ?_
    refine g_iload_n C dX5_feed_25 1 rfl rfl ?_
    refine g_cV C dX5_feed_26 (met_X1_add C.st hw) (gc_X1_add _ (Nat.le_of_ble_eq_true rfl) (Nat.le_of_ble_eq_true rfl)) tw874 tw875 tw876 (ci := 1) rfl (by decide) hk_3 rfl (Nat.le_of_ble_eq_true rfl) (c2 := 0) (s2 := 0) rfl rfl (Nat.le_of_ble_eq_true rfl) (Nat.le_of_ble_eq_true rfl) rfl (kV (fun M_5 hw => ?_)) tNo
    refine g_aload_n C dX5_feed_29 0 rfl rfl ?_
    refine gf_RX5_45 C hk0 dX5_feed_30 ?_
    refine g_cV C dX5_feed_33 (met_X1_length C.st hw) (gc_X1_length _ (Nat.le_of_ble_eq_true rfl) (Nat.le_of_ble_eq_true rfl)) tw878 tw879 tw880 (ci := 1) rfl (by decide) hk_3 rfl (Nat.le_of_ble_eq_true rfl) (c2 := 0) (s2 := 0) rfl rfl (Nat.le_of_ble_eq_true rfl) (Nat.le_of_ble_eq_true rfl) rfl (kIp (fun r_6 hw => ?_)) tNo
    exact g_iret C dX5_feed_36 (Nat.le_of_ble_eq_true rfl) (Nat.le_of_ble_eq_true rfl) ⟨_, rfl, hw⟩
  · have hw := hw.2 c7
    exact g_throwSW C fit_IllegalStateException fit_N tw408 tw17 (List.mem_of_getElem? (i := 12) rfl) (List.mem_of_getElem? (i := 2) rfl) at_RX5_291 dX5_feed_10 dX5_feed_13 dX5_feed_14 dX5_feed_17 dX5_feed_20 (noTab _) (Nat.le_of_ble_eq_true rfl) (Nat.le_of_ble_eq_true rfl) (Nat.le_of_ble_eq_true rfl) (Nat.le_of_ble_eq_true rfl) (Nat.le_of_ble_eq_true rfl) (Nat.le_of_ble_eq_true rfl) hw
theorem gc_X5_feed : ∀ rm : Room, rmX5_feed.frames + 1 ≤ rm.frames → 8 + (2 + 11) + rmX5_feed.locals ≤ rm.locals → gCall yX5_feed 2 1 rmX5_feed rm := fun rm a b => ⟨Or.inl ⟨_, _, tw868⟩, tw1, ⟨by decide, by decide⟩, by decide, a, b⟩
abbrev rmX5_read : Room := { frames := 7, cells := 3, slots := 18, locals := 103 }
def wp_X5_read (o : Nat) (p1 : Int32) (M : MEM) (Q : Int32 → MEM → Prop) (X : String → MEM → Prop) : Prop := KD o = (15, 0) ∧ (wp_X5_slotAt o p1 M (fun r_1 => KD (RF o 11) = (12, 0) ∧ wp_X2_findError (RF o 11) (RF o 9) M (fun r_3 M_4 => KD (RF o 9) = (11, 0) ∧ wp_X1_clear (RF o 9) M_4 (fun M_7 => (r_3 < 0 → (wp_X2_isInRange (RF o 11) M_7 (fun r_9 => wp_X5_needRange r_9 M_7 (wp_X2_fitsSpan (RF o 11) M_7 (fun r_13 => (¬ r_13 = 0 → (KD (RF o 5) = (10, 0) ∧ wp_X0_remember (RF o 5) p1 r_1 (mI M_7 o 4) M_7 (fun M_16 => wp_X2_fill (RF o 11) r_1 M_16 (fun M_19 => KD r_1 = (14, 0) ∧ wp_X4_lastNumber r_1 M_19 (fun r_20 => ∀ v_23 : Int32, v_23 = (if (mI M_19 o 4) < (r_20 + 1) then (r_20 + 1) else (mI M_19 o 4)) → ((∀ M_24 : MEM, M_24 = uI M_19 o 4 v_23 → (wp_X4_count r_1 M_24 (fun r_25 => Q r_25 M_24))))))))) ∧ (r_13 = 0 → (X "java/lang/IllegalStateException" M_7)))) (fun En => X En M_7)))) ∧ (¬ r_3 < 0 → (Q ((-100) - r_3) M_7))))) (fun En => X En M))
set_option maxRecDepth 100000 in
set_option maxHeartbeats 4000000 in
theorem met_X5_read {l : Launch} (hl : l.stackTraces = false) {E : MK} {o : Nat} {p1 : Int32} {M : MEM} {Q : Int32 → MEM → Prop} {X : String → MEM → Prop} (hw : wp_X5_read o p1 M Q X) : gMet l E yX5_read rmX5_read [gR E o, .int p1] M (qI Q) (qE X) := by
  obtain ⟨hk0, hw⟩ := hw
  refine g_met hl (cc := cX5_read) (maxL := 4) (ret := (some .int)) (hh := []) (loc := [(0, gR E o), (1, .int p1)]) (by decide +kernel) (Or.inl ⟨tw888, rfl⟩) (Nat.le_of_ble_eq_true rfl) rfl (fun K hK C => ?_)
  have C : GC K E cX5_read RX5 4 (some .int) [] rmX5_read := C
  refine g_aload_n C dX5_read_0 0 rfl rfl ?_
  refine g_iload_n C dX5_read_1 1 rfl rfl ?_
  refine g_cV C dX5_read_2 (met_X5_slotAt C.st hw) (gc_X5_slotAt _ (Nat.le_of_ble_eq_true rfl) (Nat.le_of_ble_eq_true rfl)) tw315 tw317 twp3 (ci := 5) rfl (by decide) hk0 rfl (Nat.le_of_ble_eq_true rfl) (c2 := 1) (s2 := 6) rfl rfl (Nat.le_of_ble_eq_true rfl) (Nat.le_of_ble_eq_true rfl) rfl (kRp (fun r_1 hw => ?_)) (fun En M9 hx => g_out C (noTab _) (Nat.le_of_ble_eq_true rfl) (Nat.le_of_ble_eq_true rfl) (by obtain ⟨rfl, hx⟩ := hx; exact hx))
  refine g_astore_n C dX5_read_5 rfl (Nat.le_of_ble_eq_true rfl) (loc' := [(2, gR E r_1), (0, gR E o), (1, .int p1)]) rfl ?_
  refine g_aload_n C dX5_read_6 1 rfl rfl ?_
  refine gf_RX5_55 C hk0 dX5_read_7 ?_
  refine g_aload_n C dX5_read_10 1 rfl rfl ?_
  refine gf_RX5_45 C hk0 dX5_read_11 ?_
  obtain ⟨hk_5, hw⟩ := hw
  refine g_cV C dX5_read_14 (met_X2_findError C.st hw) (gc_X2_findError _ (Nat.le_of_ble_eq_true rfl) (Nat.le_of_ble_eq_true rfl)) tw889 tw890 tw891 (ci := 2) rfl (by decide) hk_5 rfl (Nat.le_of_ble_eq_true rfl) (c2 := 1) (s2 := 6) rfl rfl (Nat.le_of_ble_eq_true rfl) (Nat.le_of_ble_eq_true rfl) rfl (kI (fun r_3 M_4 hw => ?_)) tNo
  refine g_istore_n C dX5_read_17 rfl (Nat.le_of_ble_eq_true rfl) (loc' := [(3, .int r_3), (2, gR E r_1), (0, gR E o), (1, .int p1)]) rfl ?_
  refine g_aload_n C dX5_read_18 2 rfl rfl ?_
  refine gf_RX5_45 C hk0 dX5_read_19 ?_
  obtain ⟨hk_8, hw⟩ := hw
  refine g_cV C dX5_read_22 (met_X1_clear C.st hw) (gc_X1_clear _ (Nat.le_of_ble_eq_true rfl) (Nat.le_of_ble_eq_true rfl)) tw915 tw916 tw917 (ci := 1) rfl (by decide) hk_8 rfl (Nat.le_of_ble_eq_true rfl) (c2 := 1) (s2 := 6) rfl rfl (Nat.le_of_ble_eq_true rfl) (Nat.le_of_ble_eq_true rfl) rfl (kV (fun M_7 hw => ?_)) tNo
  refine g_iload_n C dX5_read_25 0 rfl rfl ?_
  refine g_if_lt C dX5_read_26 (tgt := 34) (by decide) (fun c26 => ?_) (fun c26 => ?_)
  · have hw := hw.1 c26
    refine g_aload_n C dX5_read_34 2 rfl rfl ?_
    refine gf_RX5_55 C hk0 dX5_read_35 ?_
    refine g_cV C dX5_read_38 (met_X2_isInRange C.st hw) (gc_X2_isInRange _ (Nat.le_of_ble_eq_true rfl) (Nat.le_of_ble_eq_true rfl)) tw919 tw920 tw921 (ci := 2) rfl (by decide) hk_5 rfl (Nat.le_of_ble_eq_true rfl) (c2 := 1) (s2 := 6) rfl rfl (Nat.le_of_ble_eq_true rfl) (Nat.le_of_ble_eq_true rfl) rfl (kIp (fun r_9 hw => ?_)) tNo
    refine g_cS C dX5_read_41 (met_X5_needRange C.st hw) (gc_X5_needRange _ (Nat.le_of_ble_eq_true rfl) (Nat.le_of_ble_eq_true rfl)) (Or.inl tw341) tw342 rfl (Nat.le_of_ble_eq_true rfl) (c2 := 2) (s2 := 12) rfl rfl (Nat.le_of_ble_eq_true rfl) (Nat.le_of_ble_eq_true rfl) rfl (kVp (fun hw => ?_)) (fun En M9 hx => g_out C (noTab _) (Nat.le_of_ble_eq_true rfl) (Nat.le_of_ble_eq_true rfl) (by obtain ⟨rfl, hx⟩ := hx; exact hx))
    refine g_aload_n C dX5_read_44 2 rfl rfl ?_
    refine gf_RX5_55 C hk0 dX5_read_45 ?_
    refine g_cV C dX5_read_48 (met_X2_fitsSpan C.st hw) (gc_X2_fitsSpan _ (Nat.le_of_ble_eq_true rfl) (Nat.le_of_ble_eq_true rfl)) tw941 tw942 tw943 (ci := 2) rfl (by decide) hk_5 rfl (Nat.le_of_ble_eq_true rfl) (c2 := 2) (s2 := 12) rfl rfl (Nat.le_of_ble_eq_true rfl) (Nat.le_of_ble_eq_true rfl) rfl (kIp (fun r_13 hw => ?_)) tNo
    refine g_if_ne C dX5_read_51 (tgt := 65) (by decide) (fun c51 => ?_) (fun c51 => ?_)
    · have hw := hw.1 c51
      refine g_aload_n C dX5_read_65 2 rfl rfl ?_
      refine gf_RX5_22 C hk0 dX5_read_66 ?_
      refine g_iload_n C dX5_read_69 3 rfl rfl ?_
      refine g_aload_n C dX5_read_70 1 rfl rfl ?_
      refine g_aload_n C dX5_read_71 2 rfl rfl ?_
      refine gf_RX5_82 C hk0 dX5_read_72 ?_
      obtain ⟨hk_17, hw⟩ := hw
      refine g_cV C dX5_read_75 (met_X0_remember C.st hw) (gc_X0_remember _ (Nat.le_of_ble_eq_true rfl) (Nat.le_of_ble_eq_true rfl)) tw364 tw365 tw366 (ci := 0) rfl (by decide) hk_17 rfl (Nat.le_of_ble_eq_true rfl) (c2 := 2) (s2 := 12) rfl rfl (Nat.le_of_ble_eq_true rfl) (Nat.le_of_ble_eq_true rfl) rfl (kV (fun M_16 hw => ?_)) tNo
      refine g_aload_n C dX5_read_78 2 rfl rfl ?_
      refine gf_RX5_55 C hk0 dX5_read_79 ?_
      refine g_aload_n C dX5_read_82 1 rfl rfl ?_
      refine g_cV C dX5_read_83 (met_X2_fill C.st hw) (gc_X2_fill _ (Nat.le_of_ble_eq_true rfl) (Nat.le_of_ble_eq_true rfl)) tw947 tw948 tw949 (ci := 2) rfl (by decide) hk_5 rfl (Nat.le_of_ble_eq_true rfl) (c2 := 2) (s2 := 12) rfl rfl (Nat.le_of_ble_eq_true rfl) (Nat.le_of_ble_eq_true rfl) rfl (kV (fun M_19 hw => ?_)) tNo
      refine g_aload_n C dX5_read_86 2 rfl rfl ?_
      refine g_aload_n C dX5_read_87 2 rfl rfl ?_
      refine gf_RX5_82 C hk0 dX5_read_88 ?_
      refine g_aload_n C dX5_read_91 1 rfl rfl ?_
      obtain ⟨hk_22, hw⟩ := hw
      refine g_cV C dX5_read_92 (met_X4_lastNumber C.st hw) (gc_X4_lastNumber _ (Nat.le_of_ble_eq_true rfl) (Nat.le_of_ble_eq_true rfl)) tw953 tw954 tw955 (ci := 4) rfl (by decide) hk_22 rfl (Nat.le_of_ble_eq_true rfl) (c2 := 2) (s2 := 12) rfl rfl (Nat.le_of_ble_eq_true rfl) (Nat.le_of_ble_eq_true rfl) rfl (kIp (fun r_20 hw => ?_)) tNo
      refine g_iconst C dX5_read_95 (v := 1) rfl ?_
      refine g_iadd C dX5_read_96 ?_
      refine g_max C dX5_read_97 tw831 tw135 tw6 tw136 (Nat.le_of_ble_eq_true rfl) (Nat.le_of_ble_eq_true rfl) (Nat.le_of_ble_eq_true rfl) (Nat.le_of_ble_eq_true rfl) ?_
      refine g_nmI (fun v_23 ev_23 => ?_)
      have hw := hw v_23 ev_23
      refine pf_RX5_82 C hk0 dX5_read_100 ?_
      refine g_nmM (fun M_24 eM_24 => ?_)
      have hw := hw M_24 eM_24
      refine g_aload_n C dX5_read_103 1 rfl rfl ?_
      refine g_cV C dX5_read_104 (met_X4_count C.st hw) (gc_X4_count _ (Nat.le_of_ble_eq_true rfl) (Nat.le_of_ble_eq_true rfl)) tw360 tw361 tw362 (ci := 4) rfl (by decide) hk_22 rfl (Nat.le_of_ble_eq_true rfl) (c2 := 2) (s2 := 12) rfl rfl (Nat.le_of_ble_eq_true rfl) (Nat.le_of_ble_eq_true rfl) rfl (kIp (fun r_25 hw => ?_)) tNo
      exact g_iret C dX5_read_107 (Nat.le_of_ble_eq_true rfl) (Nat.le_of_ble_eq_true rfl) ⟨_, rfl, hw⟩
    · have hw := hw.2 c51
      exact g_throwSW C fit_IllegalStateException fit_N tw408 tw17 (List.mem_of_getElem? (i := 13) rfl) (List.mem_of_getElem? (i := 2) rfl) at_RX5_291 dX5_read_54 dX5_read_57 dX5_read_58 dX5_read_61 dX5_read_64 (noTab _) (Nat.le_of_ble_eq_true rfl) (Nat.le_of_ble_eq_true rfl) (Nat.le_of_ble_eq_true rfl) (Nat.le_of_ble_eq_true rfl) (Nat.le_of_ble_eq_true rfl) (Nat.le_of_ble_eq_true rfl) hw
  · have hw := hw.2 c26
    refine g_bipush C dX5_read_29 (v := (-100)) rfl ?_
    refine g_iload_n C dX5_read_31 0 rfl rfl ?_
    refine g_isub C dX5_read_32 ?_
    exact g_iret C dX5_read_33 (Nat.le_of_ble_eq_true rfl) (Nat.le_of_ble_eq_true rfl) ⟨_, rfl, hw⟩
theorem gc_X5_read : ∀ rm : Room, rmX5_read.frames + 1 ≤ rm.frames → 8 + (4 + 11) + rmX5_read.locals ≤ rm.locals → gCall yX5_read 4 1 rmX5_read rm := fun rm a b => ⟨Or.inl ⟨_, _, tw888⟩, tw1, ⟨by decide, by decide⟩, by decide, a, b⟩
