abbrev rmL_define : Room := { frames := 8, cells := 2, slots := 12, locals := 130 }
def wp_L_define (p1 : Nat) (p2 : Int32) (p3 : Int32) (p4 : Int32) (p5 : Int32) (p6 : Int32) (p7 : Nat) (M : MEM) (Q : Int32 → MEM → Prop) : Prop := KD p1 = (15, 0) ∧ wp_X5_define p1 p2 p3 p4 p5 p6 M (fun r_1 M_2 => (KD p7 = (2, 1) ∧ (∀ M_5 : MEM, M_5 = uL M_2 p7 0 r_1.toInt64 → (Q 0 M_5)))) (fun En M11x => (En = "java/lang/IndexOutOfBoundsException" ∧ (Q 1 M11x)) ∨ (En = "java/lang/IllegalArgumentException" ∧ (Q 2 M11x)))
set_option maxRecDepth 100000 in
set_option maxHeartbeats 4000000 in
theorem met_L_define {l : Launch} (hl : l.stackTraces = false) {E : MK} {p1 : Nat} {p2 : Int32} {p3 : Int32} {p4 : Int32} {p5 : Int32} {p6 : Int32} {p7 : Nat} {M : MEM} {Q : Int32 → MEM → Prop} (hw : wp_L_define p1 p2 p3 p4 p5 p6 p7 M Q) : gMet l E yL_define rmL_define [gR E p1, .int p2, .int p3, .int p4, .int p5, .int p6, gR E p7] M (qI Q) gNo := by
  refine g_met hl (cc := cL_define) (maxL := 8) (ret := (some .int)) (hh := [(0, 16, 19, 13), (0, 16, 23, 15)]) (loc := [(0, gR E p1), (1, .int p2), (2, .int p3), (3, .int p4), (4, .int p5), (5, .int p6), (6, gR E p7)]) (by decide +kernel) (Or.inr tw229) (Nat.le_of_ble_eq_true rfl) rfl (fun K hK C => ?_)
  have C : GC K E cL_define RL 8 (some .int) [(0, 16, 19, 13), (0, 16, 23, 15)] rmL_define := C
  refine g_aload C (j := 0) dL_define_0 6 rfl ?_
  refine g_iconst C dL_define_2 (v := 0) rfl ?_
  refine g_aload_n C dL_define_3 0 rfl rfl ?_
  refine g_iload_n C dL_define_4 1 rfl rfl ?_
  refine g_iload_n C dL_define_5 2 rfl rfl ?_
  refine g_iload_n C dL_define_6 3 rfl rfl ?_
  refine g_iload C (j := 0) dL_define_7 4 rfl ?_
  refine g_iload C (j := 0) dL_define_9 5 rfl ?_
  obtain ⟨hk_3, hw⟩ := hw
  refine g_cV C dL_define_11 (met_X5_define C.st hw) (gc_X5_define _ (Nat.le_of_ble_eq_true rfl) (Nat.le_of_ble_eq_true rfl)) tw311 tw312 tw313 (ci := 5) rfl (by decide) hk_3 rfl (Nat.le_of_ble_eq_true rfl) (c2 := 2) (s2 := 12) rfl rfl (Nat.le_of_ble_eq_true rfl) (Nat.le_of_ble_eq_true rfl) rfl (kI (fun r_1 M_2 hw => ?_)) (fun En11 M11x hx => ?_)
  · skip
    refine g_i2l C dL_define_14 ?_
    obtain ⟨hk_4, hw⟩ := hw
    refine g_lastore C hk_4 (i := 0) (vp_lit rfl) dL_define_15 ?_
    refine g_nmM (fun M_5 eM_5 => ?_)
    have hw := hw M_5 eM_5
    refine g_goto C dL_define_16 (tgt := 27) (by decide) ?_
    refine g_iconst C dL_define_27 (v := 0) rfl ?_
    exact g_iret C dL_define_28 (Nat.le_of_ble_eq_true rfl) (Nat.le_of_ble_eq_true rfl) ⟨_, rfl, hw⟩
  · have hx := hx
    rcases hx with ⟨rfl, hw⟩ | ⟨rfl, hw⟩
    · refine g_catch C [] ⟨0, 16, 19, 13⟩ [⟨0, 16, 23, 15⟩] rfl (fun z hz => absurd hz List.not_mem_nil) rfl (by decide) tw230 (List.mem_of_getElem? (i := 0) rfl) (fun q11 => ?_)
      refine g_astore C dL_define_19 (Nat.le_of_ble_eq_true rfl) (loc' := [(7, .ref q11), (0, gR E p1), (1, .int p2), (2, .int p3), (3, .int p4), (4, .int p5), (5, .int p6), (6, gR E p7)]) rfl ?_
      refine g_iconst C dL_define_21 (v := 1) rfl ?_
      exact g_iret C dL_define_22 (Nat.le_of_ble_eq_true rfl) (Nat.le_of_ble_eq_true rfl) ⟨_, rfl, hw⟩
    · refine g_catch C [⟨0, 16, 19, 13⟩] ⟨0, 16, 23, 15⟩ [] rfl (List.forall_mem_cons.mpr ⟨⟨by decide, "java/lang/IndexOutOfBoundsException", tw230, List.mem_of_getElem? (i := 0) rfl⟩, fun z hz => absurd hz List.not_mem_nil⟩) rfl (by decide) tw310 (List.mem_of_getElem? (i := 1) rfl) (fun q11 => ?_)
      refine g_astore C dL_define_23 (Nat.le_of_ble_eq_true rfl) (loc' := [(7, .ref q11), (0, gR E p1), (1, .int p2), (2, .int p3), (3, .int p4), (4, .int p5), (5, .int p6), (6, gR E p7)]) rfl ?_
      refine g_iconst C dL_define_25 (v := 2) rfl ?_
      exact g_iret C dL_define_26 (Nat.le_of_ble_eq_true rfl) (Nat.le_of_ble_eq_true rfl) ⟨_, rfl, hw⟩
theorem gc_L_define : ∀ rm : Room, rmL_define.frames + 1 ≤ rm.frames → 8 + (8 + 11) + rmL_define.locals ≤ rm.locals → gCall yL_define 8 7 rmL_define rm := fun rm a b => ⟨Or.inr ⟨_, _, _, tw229⟩, tw0, ⟨by decide, by decide⟩, by decide, a, b⟩
abbrev rmL_drop : Room := { frames := 8, cells := 1, slots := 6, locals := 126 }
def wp_L_drop (p1 : Nat) (p2 : Int32) (p3 : Nat) (M : MEM) (Q : Int32 → MEM → Prop) : Prop := KD p1 = (15, 0) ∧ wp_X5_drop p1 p2 M (fun r_1 M_2 => (KD p3 = (2, 1) ∧ (∀ M_5 : MEM, M_5 = uL M_2 p3 0 r_1.toInt64 → (Q 0 M_5)))) (fun En M4x => (En = "java/lang/IndexOutOfBoundsException" ∧ (Q 1 M4x)))
set_option maxRecDepth 100000 in
set_option maxHeartbeats 4000000 in
theorem met_L_drop {l : Launch} (hl : l.stackTraces = false) {E : MK} {p1 : Nat} {p2 : Int32} {p3 : Nat} {M : MEM} {Q : Int32 → MEM → Prop} (hw : wp_L_drop p1 p2 p3 M Q) : gMet l E yL_drop rmL_drop [gR E p1, .int p2, gR E p3] M (qI Q) gNo := by
  refine g_met hl (cc := cL_drop) (maxL := 4) (ret := (some .int)) (hh := [(0, 9, 12, 13)]) (loc := [(0, gR E p1), (1, .int p2), (2, gR E p3)]) (by decide +kernel) (Or.inr tw382) (Nat.le_of_ble_eq_true rfl) rfl (fun K hK C => ?_)
  have C : GC K E cL_drop RL 4 (some .int) [(0, 9, 12, 13)] rmL_drop := C
  refine g_aload_n C dL_drop_0 2 rfl rfl ?_
  refine g_iconst C dL_drop_1 (v := 0) rfl ?_
  refine g_aload_n C dL_drop_2 0 rfl rfl ?_
  refine g_iload_n C dL_drop_3 1 rfl rfl ?_
  obtain ⟨hk_3, hw⟩ := hw
  refine g_cV C dL_drop_4 (met_X5_drop C.st hw) (gc_X5_drop _ (Nat.le_of_ble_eq_true rfl) (Nat.le_of_ble_eq_true rfl)) tw383 tw384 tw385 (ci := 5) rfl (by decide) hk_3 rfl (Nat.le_of_ble_eq_true rfl) (c2 := 1) (s2 := 6) rfl rfl (Nat.le_of_ble_eq_true rfl) (Nat.le_of_ble_eq_true rfl) rfl (kI (fun r_1 M_2 hw => ?_)) (fun En4 M4x hx => ?_)
  · skip
    refine g_i2l C dL_drop_7 ?_
    obtain ⟨hk_4, hw⟩ := hw
    refine g_lastore C hk_4 (i := 0) (vp_lit rfl) dL_drop_8 ?_
    refine g_nmM (fun M_5 eM_5 => ?_)
    have hw := hw M_5 eM_5
    refine g_goto C dL_drop_9 (tgt := 15) (by decide) ?_
    refine g_iconst C dL_drop_15 (v := 0) rfl ?_
    exact g_iret C dL_drop_16 (Nat.le_of_ble_eq_true rfl) (Nat.le_of_ble_eq_true rfl) ⟨_, rfl, hw⟩
  · have hx := hx
    rcases hx with ⟨rfl, hw⟩
    · refine g_catch C [] ⟨0, 9, 12, 13⟩ [] rfl (fun z hz => absurd hz List.not_mem_nil) rfl (by decide) tw230 (List.mem_of_getElem? (i := 0) rfl) (fun q4 => ?_)
      refine g_astore_n C dL_drop_12 rfl (Nat.le_of_ble_eq_true rfl) (loc' := [(3, .ref q4), (0, gR E p1), (1, .int p2), (2, gR E p3)]) rfl ?_
      refine g_iconst C dL_drop_13 (v := 1) rfl ?_
      exact g_iret C dL_drop_14 (Nat.le_of_ble_eq_true rfl) (Nat.le_of_ble_eq_true rfl) ⟨_, rfl, hw⟩
theorem gc_L_drop : ∀ rm : Room, rmL_drop.frames + 1 ≤ rm.frames → 8 + (4 + 11) + rmL_drop.locals ≤ rm.locals → gCall yL_drop 4 3 rmL_drop rm := fun rm a b => ⟨Or.inr ⟨_, _, _, tw382⟩, tw0, ⟨by decide, by decide⟩, by decide, a, b⟩
abbrev rmL_offer : Room := { frames := 8, cells := 4, slots := 24, locals := 130 }
def wp_L_offer (p1 : Nat) (p2 : Int32) (p3 : Int32) (p4 : Int32) (p5 : Int32) (p6 : Int32) (p7 : Nat) (M : MEM) (Q : Int32 → MEM → Prop) : Prop := KD p1 = (15, 0) ∧ wp_X5_offer p1 p2 p3 p4 p5 p6 M (fun r_1 M_2 => (KD p7 = (2, 1) ∧ (∀ M_5 : MEM, M_5 = uL M_2 p7 0 r_1.toInt64 → (Q 0 M_5)))) (fun En M11x => (En = "java/lang/IndexOutOfBoundsException" ∧ (Q 1 M11x)) ∨ (En = "java/lang/IllegalArgumentException" ∧ (Q 2 M11x)) ∨ (En = "java/lang/IllegalStateException" ∧ (Q 3 M11x)))
set_option maxRecDepth 100000 in
set_option maxHeartbeats 4000000 in
theorem met_L_offer {l : Launch} (hl : l.stackTraces = false) {E : MK} {p1 : Nat} {p2 : Int32} {p3 : Int32} {p4 : Int32} {p5 : Int32} {p6 : Int32} {p7 : Nat} {M : MEM} {Q : Int32 → MEM → Prop} (hw : wp_L_offer p1 p2 p3 p4 p5 p6 p7 M Q) : gMet l E yL_offer rmL_offer [gR E p1, .int p2, .int p3, .int p4, .int p5, .int p6, gR E p7] M (qI Q) gNo := by
  refine g_met hl (cc := cL_offer) (maxL := 8) (ret := (some .int)) (hh := [(0, 16, 19, 13), (0, 16, 23, 15), (0, 16, 27, 24)]) (loc := [(0, gR E p1), (1, .int p2), (2, .int p3), (3, .int p4), (4, .int p5), (5, .int p6), (6, gR E p7)]) (by decide +kernel) (Or.inr tw393) (Nat.le_of_ble_eq_true rfl) rfl (fun K hK C => ?_)
  have C : GC K E cL_offer RL 8 (some .int) [(0, 16, 19, 13), (0, 16, 23, 15), (0, 16, 27, 24)] rmL_offer := C
  refine g_aload C (j := 0) dL_offer_0 6 rfl ?_
  refine g_iconst C dL_offer_2 (v := 0) rfl ?_
  refine g_aload_n C dL_offer_3 0 rfl rfl ?_
  refine g_iload_n C dL_offer_4 1 rfl rfl ?_
  refine g_iload_n C dL_offer_5 2 rfl rfl ?_
  refine g_iload_n C dL_offer_6 3 rfl rfl ?_
  refine g_iload C (j := 0) dL_offer_7 4 rfl ?_
  refine g_iload C (j := 0) dL_offer_9 5 rfl ?_
  obtain ⟨hk_3, hw⟩ := hw
  refine g_cV C dL_offer_11 (met_X5_offer C.st hw) (gc_X5_offer _ (Nat.le_of_ble_eq_true rfl) (Nat.le_of_ble_eq_true rfl)) tw395 tw396 tw397 (ci := 5) rfl (by decide) hk_3 rfl (Nat.le_of_ble_eq_true rfl) (c2 := 4) (s2 := 24) rfl rfl (Nat.le_of_ble_eq_true rfl) (Nat.le_of_ble_eq_true rfl) rfl (kI (fun r_1 M_2 hw => ?_)) (fun En11 M11x hx => ?_)
  · skip
    refine g_i2l C dL_offer_14 ?_
    obtain ⟨hk_4, hw⟩ := hw
    refine g_lastore C hk_4 (i := 0) (vp_lit rfl) dL_offer_15 ?_
    refine g_nmM (fun M_5 eM_5 => ?_)
    have hw := hw M_5 eM_5
    refine g_goto C dL_offer_16 (tgt := 31) (by decide) ?_
    refine g_iconst C dL_offer_31 (v := 0) rfl ?_
    exact g_iret C dL_offer_32 (Nat.le_of_ble_eq_true rfl) (Nat.le_of_ble_eq_true rfl) ⟨_, rfl, hw⟩
  · have hx := hx
    rcases hx with ⟨rfl, hw⟩ | ⟨rfl, hw⟩ | ⟨rfl, hw⟩
    · refine g_catch C [] ⟨0, 16, 19, 13⟩ [⟨0, 16, 23, 15⟩, ⟨0, 16, 27, 24⟩] rfl (fun z hz => absurd hz List.not_mem_nil) rfl (by decide) tw230 (List.mem_of_getElem? (i := 0) rfl) (fun q11 => ?_)
      refine g_astore C dL_offer_19 (Nat.le_of_ble_eq_true rfl) (loc' := [(7, .ref q11), (0, gR E p1), (1, .int p2), (2, .int p3), (3, .int p4), (4, .int p5), (5, .int p6), (6, gR E p7)]) rfl ?_
      refine g_iconst C dL_offer_21 (v := 1) rfl ?_
      exact g_iret C dL_offer_22 (Nat.le_of_ble_eq_true rfl) (Nat.le_of_ble_eq_true rfl) ⟨_, rfl, hw⟩
    · refine g_catch C [⟨0, 16, 19, 13⟩] ⟨0, 16, 23, 15⟩ [⟨0, 16, 27, 24⟩] rfl (List.forall_mem_cons.mpr ⟨⟨by decide, "java/lang/IndexOutOfBoundsException", tw230, List.mem_of_getElem? (i := 0) rfl⟩, fun z hz => absurd hz List.not_mem_nil⟩) rfl (by decide) tw310 (List.mem_of_getElem? (i := 1) rfl) (fun q11 => ?_)
      refine g_astore C dL_offer_23 (Nat.le_of_ble_eq_true rfl) (loc' := [(7, .ref q11), (0, gR E p1), (1, .int p2), (2, .int p3), (3, .int p4), (4, .int p5), (5, .int p6), (6, gR E p7)]) rfl ?_
      refine g_iconst C dL_offer_25 (v := 2) rfl ?_
      exact g_iret C dL_offer_26 (Nat.le_of_ble_eq_true rfl) (Nat.le_of_ble_eq_true rfl) ⟨_, rfl, hw⟩
    · refine g_catch C [⟨0, 16, 19, 13⟩, ⟨0, 16, 23, 15⟩] ⟨0, 16, 27, 24⟩ [] rfl (List.forall_mem_cons.mpr ⟨⟨by decide, "java/lang/IndexOutOfBoundsException", tw230, List.mem_of_getElem? (i := 1) rfl⟩, List.forall_mem_cons.mpr ⟨⟨by decide, "java/lang/IllegalArgumentException", tw310, List.mem_of_getElem? (i := 6) rfl⟩, fun z hz => absurd hz List.not_mem_nil⟩⟩) rfl (by decide) tw394 (List.mem_of_getElem? (i := 2) rfl) (fun q11 => ?_)
      refine g_astore C dL_offer_27 (Nat.le_of_ble_eq_true rfl) (loc' := [(7, .ref q11), (0, gR E p1), (1, .int p2), (2, .int p3), (3, .int p4), (4, .int p5), (5, .int p6), (6, gR E p7)]) rfl ?_
      refine g_iconst C dL_offer_29 (v := 3) rfl ?_
      exact g_iret C dL_offer_30 (Nat.le_of_ble_eq_true rfl) (Nat.le_of_ble_eq_true rfl) ⟨_, rfl, hw⟩
theorem gc_L_offer : ∀ rm : Room, rmL_offer.frames + 1 ≤ rm.frames → 8 + (8 + 11) + rmL_offer.locals ≤ rm.locals → gCall yL_offer 8 7 rmL_offer rm := fun rm a b => ⟨Or.inr ⟨_, _, _, tw393⟩, tw0, ⟨by decide, by decide⟩, by decide, a, b⟩
abbrev rmL_offerDrawn : Room := { frames := 8, cells := 4, slots := 24, locals := 130 }
def wp_L_offerDrawn (p1 : Nat) (p2 : Int32) (p3 : Int32) (p4 : Int32) (p5 : Nat) (M : MEM) (Q : Int32 → MEM → Prop) : Prop := KD p1 = (15, 0) ∧ wp_X5_offerDrawn p1 p2 p3 p4 M (fun r_1 M_2 => (KD p5 = (2, 1) ∧ (∀ M_5 : MEM, M_5 = uL M_2 p5 0 r_1.toInt64 → (Q 0 M_5)))) (fun En M7x => (En = "java/lang/IndexOutOfBoundsException" ∧ (Q 1 M7x)) ∨ (En = "java/lang/IllegalArgumentException" ∧ (Q 2 M7x)) ∨ (En = "java/lang/IllegalStateException" ∧ (Q 3 M7x)))
set_option maxRecDepth 100000 in
set_option maxHeartbeats 4000000 in
theorem met_L_offerDrawn {l : Launch} (hl : l.stackTraces = false) {E : MK} {p1 : Nat} {p2 : Int32} {p3 : Int32} {p4 : Int32} {p5 : Nat} {M : MEM} {Q : Int32 → MEM → Prop} (hw : wp_L_offerDrawn p1 p2 p3 p4 p5 M Q) : gMet l E yL_offerDrawn rmL_offerDrawn [gR E p1, .int p2, .int p3, .int p4, gR E p5] M (qI Q) gNo := by
  refine g_met hl (cc := cL_offerDrawn) (maxL := 6) (ret := (some .int)) (hh := [(0, 12, 15, 13), (0, 12, 19, 15), (0, 12, 23, 24)]) (loc := [(0, gR E p1), (1, .int p2), (2, .int p3), (3, .int p4), (4, gR E p5)]) (by decide +kernel) (Or.inr tw442) (Nat.le_of_ble_eq_true rfl) rfl (fun K hK C => ?_)
  have C : GC K E cL_offerDrawn RL 6 (some .int) [(0, 12, 15, 13), (0, 12, 19, 15), (0, 12, 23, 24)] rmL_offerDrawn := C
  refine g_aload C (j := 0) dL_offerDrawn_0 4 rfl ?_
  refine g_iconst C dL_offerDrawn_2 (v := 0) rfl ?_
  refine g_aload_n C dL_offerDrawn_3 0 rfl rfl ?_
  refine g_iload_n C dL_offerDrawn_4 1 rfl rfl ?_
  refine g_iload_n C dL_offerDrawn_5 2 rfl rfl ?_
  refine g_iload_n C dL_offerDrawn_6 3 rfl rfl ?_
  obtain ⟨hk_3, hw⟩ := hw
  refine g_cV C dL_offerDrawn_7 (met_X5_offerDrawn C.st hw) (gc_X5_offerDrawn _ (Nat.le_of_ble_eq_true rfl) (Nat.le_of_ble_eq_true rfl)) tw443 tw444 tw445 (ci := 5) rfl (by decide) hk_3 rfl (Nat.le_of_ble_eq_true rfl) (c2 := 4) (s2 := 24) rfl rfl (Nat.le_of_ble_eq_true rfl) (Nat.le_of_ble_eq_true rfl) rfl (kI (fun r_1 M_2 hw => ?_)) (fun En7 M7x hx => ?_)
  · skip
    refine g_i2l C dL_offerDrawn_10 ?_
    obtain ⟨hk_4, hw⟩ := hw
    refine g_lastore C hk_4 (i := 0) (vp_lit rfl) dL_offerDrawn_11 ?_
    refine g_nmM (fun M_5 eM_5 => ?_)
    have hw := hw M_5 eM_5
    refine g_goto C dL_offerDrawn_12 (tgt := 27) (by decide) ?_
    refine g_iconst C dL_offerDrawn_27 (v := 0) rfl ?_
    exact g_iret C dL_offerDrawn_28 (Nat.le_of_ble_eq_true rfl) (Nat.le_of_ble_eq_true rfl) ⟨_, rfl, hw⟩
  · have hx := hx
    rcases hx with ⟨rfl, hw⟩ | ⟨rfl, hw⟩ | ⟨rfl, hw⟩
    · refine g_catch C [] ⟨0, 12, 15, 13⟩ [⟨0, 12, 19, 15⟩, ⟨0, 12, 23, 24⟩] rfl (fun z hz => absurd hz List.not_mem_nil) rfl (by decide) tw230 (List.mem_of_getElem? (i := 0) rfl) (fun q7 => ?_)
      refine g_astore C dL_offerDrawn_15 (Nat.le_of_ble_eq_true rfl) (loc' := [(5, .ref q7), (0, gR E p1), (1, .int p2), (2, .int p3), (3, .int p4), (4, gR E p5)]) rfl ?_
      refine g_iconst C dL_offerDrawn_17 (v := 1) rfl ?_
      exact g_iret C dL_offerDrawn_18 (Nat.le_of_ble_eq_true rfl) (Nat.le_of_ble_eq_true rfl) ⟨_, rfl, hw⟩
    · refine g_catch C [⟨0, 12, 15, 13⟩] ⟨0, 12, 19, 15⟩ [⟨0, 12, 23, 24⟩] rfl (List.forall_mem_cons.mpr ⟨⟨by decide, "java/lang/IndexOutOfBoundsException", tw230, List.mem_of_getElem? (i := 0) rfl⟩, fun z hz => absurd hz List.not_mem_nil⟩) rfl (by decide) tw310 (List.mem_of_getElem? (i := 1) rfl) (fun q7 => ?_)
      refine g_astore C dL_offerDrawn_19 (Nat.le_of_ble_eq_true rfl) (loc' := [(5, .ref q7), (0, gR E p1), (1, .int p2), (2, .int p3), (3, .int p4), (4, gR E p5)]) rfl ?_
      refine g_iconst C dL_offerDrawn_21 (v := 2) rfl ?_
      exact g_iret C dL_offerDrawn_22 (Nat.le_of_ble_eq_true rfl) (Nat.le_of_ble_eq_true rfl) ⟨_, rfl, hw⟩
    · refine g_catch C [⟨0, 12, 15, 13⟩, ⟨0, 12, 19, 15⟩] ⟨0, 12, 23, 24⟩ [] rfl (List.forall_mem_cons.mpr ⟨⟨by decide, "java/lang/IndexOutOfBoundsException", tw230, List.mem_of_getElem? (i := 1) rfl⟩, List.forall_mem_cons.mpr ⟨⟨by decide, "java/lang/IllegalArgumentException", tw310, List.mem_of_getElem? (i := 6) rfl⟩, fun z hz => absurd hz List.not_mem_nil⟩⟩) rfl (by decide) tw394 (List.mem_of_getElem? (i := 2) rfl) (fun q7 => ?_)
      refine g_astore C dL_offerDrawn_23 (Nat.le_of_ble_eq_true rfl) (loc' := [(5, .ref q7), (0, gR E p1), (1, .int p2), (2, .int p3), (3, .int p4), (4, gR E p5)]) rfl ?_
      refine g_iconst C dL_offerDrawn_25 (v := 3) rfl ?_
      exact g_iret C dL_offerDrawn_26 (Nat.le_of_ble_eq_true rfl) (Nat.le_of_ble_eq_true rfl) ⟨_, rfl, hw⟩
theorem gc_L_offerDrawn : ∀ rm : Room, rmL_offerDrawn.frames + 1 ≤ rm.frames → 8 + (6 + 11) + rmL_offerDrawn.locals ≤ rm.locals → gCall yL_offerDrawn 6 5 rmL_offerDrawn rm := fun rm a b => ⟨Or.inr ⟨_, _, _, tw442⟩, tw0, ⟨by decide, by decide⟩, by decide, a, b⟩
abbrev rmL_summary : Room := { frames := 8, cells := 3, slots := 18, locals := 156 }
def wp_L_summary (p1 : Nat) (p2 : Int32) (p3 : Int32) (p4 : Nat) (M : MEM) (Q : Int32 → MEM → Prop) : Prop := KD p1 = (15, 0) ∧ wp_X5_summary p1 p2 p3 M (fun r_1 M_2 => (KD p4 = (2, 1) ∧ (∀ M_5 : MEM, M_5 = uL M_2 p4 0 r_1.toInt64 → (Q 0 M_5)))) (fun En M5x => (En = "java/lang/IndexOutOfBoundsException" ∧ (Q 1 M5x)) ∨ (En = "java/lang/IllegalArgumentException" ∧ (Q 2 M5x)) ∨ (En = "java/lang/IllegalStateException" ∧ (Q 3 M5x)))
set_option maxRecDepth 100000 in
set_option maxHeartbeats 4000000 in
theorem met_L_summary {l : Launch} (hl : l.stackTraces = false) {E : MK} {p1 : Nat} {p2 : Int32} {p3 : Int32} {p4 : Nat} {M : MEM} {Q : Int32 → MEM → Prop} (hw : wp_L_summary p1 p2 p3 p4 M Q) : gMet l E yL_summary rmL_summary [gR E p1, .int p2, .int p3, gR E p4] M (qI Q) gNo := by
  refine g_met hl (cc := cL_summary) (maxL := 5) (ret := (some .int)) (hh := [(0, 10, 13, 13), (0, 10, 17, 15), (0, 10, 21, 24)]) (loc := [(0, gR E p1), (1, .int p2), (2, .int p3), (3, gR E p4)]) (by decide +kernel) (Or.inr tw454) (Nat.le_of_ble_eq_true rfl) rfl (fun K hK C => ?_)
  have C : GC K E cL_summary RL 5 (some .int) [(0, 10, 13, 13), (0, 10, 17, 15), (0, 10, 21, 24)] rmL_summary := C
  refine g_aload_n C dL_summary_0 3 rfl rfl ?_
  refine g_iconst C dL_summary_1 (v := 0) rfl ?_
  refine g_aload_n C dL_summary_2 0 rfl rfl ?_
  refine g_iload_n C dL_summary_3 1 rfl rfl ?_
  refine g_iload_n C dL_summary_4 2 rfl rfl ?_
  obtain ⟨hk_3, hw⟩ := hw
  refine g_cV C dL_summary_5 (met_X5_summary C.st hw) (gc_X5_summary _ (Nat.le_of_ble_eq_true rfl) (Nat.le_of_ble_eq_true rfl)) tw455 tw456 tw457 (ci := 5) rfl (by decide) hk_3 rfl (Nat.le_of_ble_eq_true rfl) (c2 := 3) (s2 := 18) rfl rfl (Nat.le_of_ble_eq_true rfl) (Nat.le_of_ble_eq_true rfl) rfl (kI (fun r_1 M_2 hw => ?_)) (fun En5 M5x hx => ?_)
  · skip
    refine g_i2l C dL_summary_8 ?_
    obtain ⟨hk_4, hw⟩ := hw
    refine g_lastore C hk_4 (i := 0) (vp_lit rfl) dL_summary_9 ?_
    refine g_nmM (fun M_5 eM_5 => ?_)
    have hw := hw M_5 eM_5
    refine g_goto C dL_summary_10 (tgt := 25) (by decide) ?_
    refine g_iconst C dL_summary_25 (v := 0) rfl ?_
    exact g_iret C dL_summary_26 (Nat.le_of_ble_eq_true rfl) (Nat.le_of_ble_eq_true rfl) ⟨_, rfl, hw⟩
  · have hx := hx
    rcases hx with ⟨rfl, hw⟩ | ⟨rfl, hw⟩ | ⟨rfl, hw⟩
    · refine g_catch C [] ⟨0, 10, 13, 13⟩ [⟨0, 10, 17, 15⟩, ⟨0, 10, 21, 24⟩] rfl (fun z hz => absurd hz List.not_mem_nil) rfl (by decide) tw230 (List.mem_of_getElem? (i := 0) rfl) (fun q5 => ?_)
      refine g_astore C dL_summary_13 (Nat.le_of_ble_eq_true rfl) (loc' := [(4, .ref q5), (0, gR E p1), (1, .int p2), (2, .int p3), (3, gR E p4)]) rfl ?_
      refine g_iconst C dL_summary_15 (v := 1) rfl ?_
      exact g_iret C dL_summary_16 (Nat.le_of_ble_eq_true rfl) (Nat.le_of_ble_eq_true rfl) ⟨_, rfl, hw⟩
    · refine g_catch C [⟨0, 10, 13, 13⟩] ⟨0, 10, 17, 15⟩ [⟨0, 10, 21, 24⟩] rfl (List.forall_mem_cons.mpr ⟨⟨by decide, "java/lang/IndexOutOfBoundsException", tw230, List.mem_of_getElem? (i := 0) rfl⟩, fun z hz => absurd hz List.not_mem_nil⟩) rfl (by decide) tw310 (List.mem_of_getElem? (i := 1) rfl) (fun q5 => ?_)
      refine g_astore C dL_summary_17 (Nat.le_of_ble_eq_true rfl) (loc' := [(4, .ref q5), (0, gR E p1), (1, .int p2), (2, .int p3), (3, gR E p4)]) rfl ?_
      refine g_iconst C dL_summary_19 (v := 2) rfl ?_
      exact g_iret C dL_summary_20 (Nat.le_of_ble_eq_true rfl) (Nat.le_of_ble_eq_true rfl) ⟨_, rfl, hw⟩
    · refine g_catch C [⟨0, 10, 13, 13⟩, ⟨0, 10, 17, 15⟩] ⟨0, 10, 21, 24⟩ [] rfl (List.forall_mem_cons.mpr ⟨⟨by decide, "java/lang/IndexOutOfBoundsException", tw230, List.mem_of_getElem? (i := 1) rfl⟩, List.forall_mem_cons.mpr ⟨⟨by decide, "java/lang/IllegalArgumentException", tw310, List.mem_of_getElem? (i := 6) rfl⟩, fun z hz => absurd hz List.not_mem_nil⟩⟩) rfl (by decide) tw394 (List.mem_of_getElem? (i := 2) rfl) (fun q5 => ?_)
      refine g_astore C dL_summary_21 (Nat.le_of_ble_eq_true rfl) (loc' := [(4, .ref q5), (0, gR E p1), (1, .int p2), (2, .int p3), (3, gR E p4)]) rfl ?_
      refine g_iconst C dL_summary_23 (v := 3) rfl ?_
      exact g_iret C dL_summary_24 (Nat.le_of_ble_eq_true rfl) (Nat.le_of_ble_eq_true rfl) ⟨_, rfl, hw⟩
theorem gc_L_summary : ∀ rm : Room, rmL_summary.frames + 1 ≤ rm.frames → 8 + (5 + 11) + rmL_summary.locals ≤ rm.locals → gCall yL_summary 5 4 rmL_summary rm := fun rm a b => ⟨Or.inr ⟨_, _, _, tw454⟩, tw0, ⟨by decide, by decide⟩, by decide, a, b⟩
abbrev rmL_setQuota : Room := { frames := 8, cells := 4, slots := 24, locals := 128 }
def wp_L_setQuota (p1 : Nat) (p2 : Int32) (p3 : Int32) (p4 : Int32) (p5 : Nat) (M : MEM) (Q : Int32 → MEM → Prop) : Prop := KD p1 = (15, 0) ∧ wp_X5_setQuota p1 p2 p3 p4 M (fun r_1 M_2 => (KD p5 = (2, 1) ∧ (∀ M_5 : MEM, M_5 = uL M_2 p5 0 r_1.toInt64 → (Q 0 M_5)))) (fun En M7x => (En = "java/lang/IndexOutOfBoundsException" ∧ (Q 1 M7x)) ∨ (En = "java/lang/IllegalArgumentException" ∧ (Q 2 M7x)) ∨ (En = "java/lang/IllegalStateException" ∧ (Q 3 M7x)))
set_option maxRecDepth 100000 in
set_option maxHeartbeats 4000000 in
theorem met_L_setQuota {l : Launch} (hl : l.stackTraces = false) {E : MK} {p1 : Nat} {p2 : Int32} {p3 : Int32} {p4 : Int32} {p5 : Nat} {M : MEM} {Q : Int32 → MEM → Prop} (hw : wp_L_setQuota p1 p2 p3 p4 p5 M Q) : gMet l E yL_setQuota rmL_setQuota [gR E p1, .int p2, .int p3, .int p4, gR E p5] M (qI Q) gNo := by
  refine g_met hl (cc := cL_setQuota) (maxL := 6) (ret := (some .int)) (hh := [(0, 12, 15, 13), (0, 12, 19, 15), (0, 12, 23, 24)]) (loc := [(0, gR E p1), (1, .int p2), (2, .int p3), (3, .int p4), (4, gR E p5)]) (by decide +kernel) (Or.inr tw537) (Nat.le_of_ble_eq_true rfl) rfl (fun K hK C => ?_)
  have C : GC K E cL_setQuota RL 6 (some .int) [(0, 12, 15, 13), (0, 12, 19, 15), (0, 12, 23, 24)] rmL_setQuota := C
  refine g_aload C (j := 0) dL_setQuota_0 4 rfl ?_
  refine g_iconst C dL_setQuota_2 (v := 0) rfl ?_
  refine g_aload_n C dL_setQuota_3 0 rfl rfl ?_
  refine g_iload_n C dL_setQuota_4 1 rfl rfl ?_
  refine g_iload_n C dL_setQuota_5 2 rfl rfl ?_
  refine g_iload_n C dL_setQuota_6 3 rfl rfl ?_
  obtain ⟨hk_3, hw⟩ := hw
  refine g_cV C dL_setQuota_7 (met_X5_setQuota C.st hw) (gc_X5_setQuota _ (Nat.le_of_ble_eq_true rfl) (Nat.le_of_ble_eq_true rfl)) tw538 tw539 tw540 (ci := 5) rfl (by decide) hk_3 rfl (Nat.le_of_ble_eq_true rfl) (c2 := 4) (s2 := 24) rfl rfl (Nat.le_of_ble_eq_true rfl) (Nat.le_of_ble_eq_true rfl) rfl (kI (fun r_1 M_2 hw => ?_)) (fun En7 M7x hx => ?_)
  · skip
    refine g_i2l C dL_setQuota_10 ?_
    obtain ⟨hk_4, hw⟩ := hw
    refine g_lastore C hk_4 (i := 0) (vp_lit rfl) dL_setQuota_11 ?_
    refine g_nmM (fun M_5 eM_5 => ?_)
    have hw := hw M_5 eM_5
    refine g_goto C dL_setQuota_12 (tgt := 27) (by decide) ?_
    refine g_iconst C dL_setQuota_27 (v := 0) rfl ?_
    exact g_iret C dL_setQuota_28 (Nat.le_of_ble_eq_true rfl) (Nat.le_of_ble_eq_true rfl) ⟨_, rfl, hw⟩
  · have hx := hx
    rcases hx with ⟨rfl, hw⟩ | ⟨rfl, hw⟩ | ⟨rfl, hw⟩
    · refine g_catch C [] ⟨0, 12, 15, 13⟩ [⟨0, 12, 19, 15⟩, ⟨0, 12, 23, 24⟩] rfl (fun z hz => absurd hz List.not_mem_nil) rfl (by decide) tw230 (List.mem_of_getElem? (i := 0) rfl) (fun q7 => ?_)
      refine g_astore C dL_setQuota_15 (Nat.le_of_ble_eq_true rfl) (loc' := [(5, .ref q7), (0, gR E p1), (1, .int p2), (2, .int p3), (3, .int p4), (4, gR E p5)]) rfl ?_
      refine g_iconst C dL_setQuota_17 (v := 1) rfl ?_
      exact g_iret C dL_setQuota_18 (Nat.le_of_ble_eq_true rfl) (Nat.le_of_ble_eq_true rfl) ⟨_, rfl, hw⟩
    · refine g_catch C [⟨0, 12, 15, 13⟩] ⟨0, 12, 19, 15⟩ [⟨0, 12, 23, 24⟩] rfl (List.forall_mem_cons.mpr ⟨⟨by decide, "java/lang/IndexOutOfBoundsException", tw230, List.mem_of_getElem? (i := 0) rfl⟩, fun z hz => absurd hz List.not_mem_nil⟩) rfl (by decide) tw310 (List.mem_of_getElem? (i := 1) rfl) (fun q7 => ?_)
      refine g_astore C dL_setQuota_19 (Nat.le_of_ble_eq_true rfl) (loc' := [(5, .ref q7), (0, gR E p1), (1, .int p2), (2, .int p3), (3, .int p4), (4, gR E p5)]) rfl ?_
      refine g_iconst C dL_setQuota_21 (v := 2) rfl ?_
      exact g_iret C dL_setQuota_22 (Nat.le_of_ble_eq_true rfl) (Nat.le_of_ble_eq_true rfl) ⟨_, rfl, hw⟩
    · refine g_catch C [⟨0, 12, 15, 13⟩, ⟨0, 12, 19, 15⟩] ⟨0, 12, 23, 24⟩ [] rfl (List.forall_mem_cons.mpr ⟨⟨by decide, "java/lang/IndexOutOfBoundsException", tw230, List.mem_of_getElem? (i := 1) rfl⟩, List.forall_mem_cons.mpr ⟨⟨by decide, "java/lang/IllegalArgumentException", tw310, List.mem_of_getElem? (i := 6) rfl⟩, fun z hz => absurd hz List.not_mem_nil⟩⟩) rfl (by decide) tw394 (List.mem_of_getElem? (i := 2) rfl) (fun q7 => ?_)
      refine g_astore C dL_setQuota_23 (Nat.le_of_ble_eq_true rfl) (loc' := [(5, .ref q7), (0, gR E p1), (1, .int p2), (2, .int p3), (3, .int p4), (4, gR E p5)]) rfl ?_
      refine g_iconst C dL_setQuota_25 (v := 3) rfl ?_
      exact g_iret C dL_setQuota_26 (Nat.le_of_ble_eq_true rfl) (Nat.le_of_ble_eq_true rfl) ⟨_, rfl, hw⟩
theorem gc_L_setQuota : ∀ rm : Room, rmL_setQuota.frames + 1 ≤ rm.frames → 8 + (6 + 11) + rmL_setQuota.locals ≤ rm.locals → gCall yL_setQuota 6 5 rmL_setQuota rm := fun rm a b => ⟨Or.inr ⟨_, _, _, tw537⟩, tw0, ⟨by decide, by decide⟩, by decide, a, b⟩
abbrev rmL_allocate : Room := { frames := 8, cells := 4, slots := 24, locals := 131 }
def wp_L_allocate (p1 : Nat) (p2 : Int32) (p3 : Int32) (p4 : Int32) (p5 : Nat) (M : MEM) (Q : Int32 → MEM → Prop) : Prop := KD p1 = (15, 0) ∧ wp_X5_allocate p1 p2 p3 p4 M (fun r_1 M_2 => (KD p5 = (2, 1) ∧ (∀ M_5 : MEM, M_5 = uL M_2 p5 0 r_1.toInt64 → (Q 0 M_5)))) (fun En M7x => (En = "java/lang/IndexOutOfBoundsException" ∧ (Q 1 M7x)) ∨ (En = "java/lang/IllegalArgumentException" ∧ (Q 2 M7x)) ∨ (En = "java/lang/IllegalStateException" ∧ (Q 3 M7x)) ∨ (En = "java/lang/ArithmeticException" ∧ (Q 4 M7x)))
set_option maxRecDepth 100000 in
set_option maxHeartbeats 4000000 in
theorem met_L_allocate {l : Launch} (hl : l.stackTraces = false) {E : MK} {p1 : Nat} {p2 : Int32} {p3 : Int32} {p4 : Int32} {p5 : Nat} {M : MEM} {Q : Int32 → MEM → Prop} (hw : wp_L_allocate p1 p2 p3 p4 p5 M Q) : gMet l E yL_allocate rmL_allocate [gR E p1, .int p2, .int p3, .int p4, gR E p5] M (qI Q) gNo := by
  refine g_met hl (cc := cL_allocate) (maxL := 6) (ret := (some .int)) (hh := [(0, 12, 15, 13), (0, 12, 19, 15), (0, 12, 23, 24), (0, 12, 27, 41)]) (loc := [(0, gR E p1), (1, .int p2), (2, .int p3), (3, .int p4), (4, gR E p5)]) (by decide +kernel) (Or.inr tw553) (Nat.le_of_ble_eq_true rfl) rfl (fun K hK C => ?_)
  have C : GC K E cL_allocate RL 6 (some .int) [(0, 12, 15, 13), (0, 12, 19, 15), (0, 12, 23, 24), (0, 12, 27, 41)] rmL_allocate := C
  refine g_aload C (j := 0) dL_allocate_0 4 rfl ?_
  refine g_iconst C dL_allocate_2 (v := 0) rfl ?_
  refine g_aload_n C dL_allocate_3 0 rfl rfl ?_
  refine g_iload_n C dL_allocate_4 1 rfl rfl ?_
  refine g_iload_n C dL_allocate_5 2 rfl rfl ?_
  refine g_iload_n C dL_allocate_6 3 rfl rfl ?_
  obtain ⟨hk_3, hw⟩ := hw
  refine g_cV C dL_allocate_7 (met_X5_allocate C.st hw) (gc_X5_allocate _ (Nat.le_of_ble_eq_true rfl) (Nat.le_of_ble_eq_true rfl)) tw568 tw569 tw570 (ci := 5) rfl (by decide) hk_3 rfl (Nat.le_of_ble_eq_true rfl) (c2 := 4) (s2 := 24) rfl rfl (Nat.le_of_ble_eq_true rfl) (Nat.le_of_ble_eq_true rfl) rfl (kI (fun r_1 M_2 hw => ?_)) (fun En7 M7x hx => ?_)
  · skip
    refine g_i2l C dL_allocate_10 ?_
    obtain ⟨hk_4, hw⟩ := hw
    refine g_lastore C hk_4 (i := 0) (vp_lit rfl) dL_allocate_11 ?_
    refine g_nmM (fun M_5 eM_5 => ?_)
    have hw := hw M_5 eM_5
    refine g_goto C dL_allocate_12 (tgt := 31) (by decide) ?_
    refine g_iconst C dL_allocate_31 (v := 0) rfl ?_
    exact g_iret C dL_allocate_32 (Nat.le_of_ble_eq_true rfl) (Nat.le_of_ble_eq_true rfl) ⟨_, rfl, hw⟩
  · have hx := hx
    rcases hx with ⟨rfl, hw⟩ | ⟨rfl, hw⟩ | ⟨rfl, hw⟩ | ⟨rfl, hw⟩
    · refine g_catch C [] ⟨0, 12, 15, 13⟩ [⟨0, 12, 19, 15⟩, ⟨0, 12, 23, 24⟩, ⟨0, 12, 27, 41⟩] rfl (fun z hz => absurd hz List.not_mem_nil) rfl (by decide) tw230 (List.mem_of_getElem? (i := 0) rfl) (fun q7 => ?_)
      refine g_astore C dL_allocate_15 (Nat.le_of_ble_eq_true rfl) (loc' := [(5, .ref q7), (0, gR E p1), (1, .int p2), (2, .int p3), (3, .int p4), (4, gR E p5)]) rfl ?_
      refine g_iconst C dL_allocate_17 (v := 1) rfl ?_
      exact g_iret C dL_allocate_18 (Nat.le_of_ble_eq_true rfl) (Nat.le_of_ble_eq_true rfl) ⟨_, rfl, hw⟩
    · refine g_catch C [⟨0, 12, 15, 13⟩] ⟨0, 12, 19, 15⟩ [⟨0, 12, 23, 24⟩, ⟨0, 12, 27, 41⟩] rfl (List.forall_mem_cons.mpr ⟨⟨by decide, "java/lang/IndexOutOfBoundsException", tw230, List.mem_of_getElem? (i := 0) rfl⟩, fun z hz => absurd hz List.not_mem_nil⟩) rfl (by decide) tw310 (List.mem_of_getElem? (i := 1) rfl) (fun q7 => ?_)
      refine g_astore C dL_allocate_19 (Nat.le_of_ble_eq_true rfl) (loc' := [(5, .ref q7), (0, gR E p1), (1, .int p2), (2, .int p3), (3, .int p4), (4, gR E p5)]) rfl ?_
      refine g_iconst C dL_allocate_21 (v := 2) rfl ?_
      exact g_iret C dL_allocate_22 (Nat.le_of_ble_eq_true rfl) (Nat.le_of_ble_eq_true rfl) ⟨_, rfl, hw⟩
    · refine g_catch C [⟨0, 12, 15, 13⟩, ⟨0, 12, 19, 15⟩] ⟨0, 12, 23, 24⟩ [⟨0, 12, 27, 41⟩] rfl (List.forall_mem_cons.mpr ⟨⟨by decide, "java/lang/IndexOutOfBoundsException", tw230, List.mem_of_getElem? (i := 1) rfl⟩, List.forall_mem_cons.mpr ⟨⟨by decide, "java/lang/IllegalArgumentException", tw310, List.mem_of_getElem? (i := 6) rfl⟩, fun z hz => absurd hz List.not_mem_nil⟩⟩) rfl (by decide) tw394 (List.mem_of_getElem? (i := 2) rfl) (fun q7 => ?_)
      refine g_astore C dL_allocate_23 (Nat.le_of_ble_eq_true rfl) (loc' := [(5, .ref q7), (0, gR E p1), (1, .int p2), (2, .int p3), (3, .int p4), (4, gR E p5)]) rfl ?_
      refine g_iconst C dL_allocate_25 (v := 3) rfl ?_
      exact g_iret C dL_allocate_26 (Nat.le_of_ble_eq_true rfl) (Nat.le_of_ble_eq_true rfl) ⟨_, rfl, hw⟩
    · refine g_catch C [⟨0, 12, 15, 13⟩, ⟨0, 12, 19, 15⟩, ⟨0, 12, 23, 24⟩] ⟨0, 12, 27, 41⟩ [] rfl (List.forall_mem_cons.mpr ⟨⟨by decide, "java/lang/IndexOutOfBoundsException", tw230, List.mem_of_getElem? (i := 2) rfl⟩, List.forall_mem_cons.mpr ⟨⟨by decide, "java/lang/IllegalArgumentException", tw310, List.mem_of_getElem? (i := 7) rfl⟩, List.forall_mem_cons.mpr ⟨⟨by decide, "java/lang/IllegalStateException", tw394, List.mem_of_getElem? (i := 12) rfl⟩, fun z hz => absurd hz List.not_mem_nil⟩⟩⟩) rfl (by decide) tw554 (List.mem_of_getElem? (i := 3) rfl) (fun q7 => ?_)
      refine g_astore C dL_allocate_27 (Nat.le_of_ble_eq_true rfl) (loc' := [(5, .ref q7), (0, gR E p1), (1, .int p2), (2, .int p3), (3, .int p4), (4, gR E p5)]) rfl ?_
      refine g_iconst C dL_allocate_29 (v := 4) rfl ?_
      exact g_iret C dL_allocate_30 (Nat.le_of_ble_eq_true rfl) (Nat.le_of_ble_eq_true rfl) ⟨_, rfl, hw⟩
theorem gc_L_allocate : ∀ rm : Room, rmL_allocate.frames + 1 ≤ rm.frames → 8 + (6 + 11) + rmL_allocate.locals ≤ rm.locals → gCall yL_allocate 6 5 rmL_allocate rm := fun rm a b => ⟨Or.inr ⟨_, _, _, tw553⟩, tw0, ⟨by decide, by decide⟩, by decide, a, b⟩
abbrev rmL_quota : Room := { frames := 8, cells := 3, slots := 18, locals := 126 }
def wp_L_quota (p1 : Nat) (p2 : Int32) (p3 : Int32) (p4 : Nat) (M : MEM) (Q : Int32 → MEM → Prop) : Prop := KD p1 = (15, 0) ∧ wp_X5_quota p1 p2 p3 M (fun r_1 => (KD p4 = (2, 1) ∧ (∀ M_5 : MEM, M_5 = uL M p4 0 r_1.toInt64 → (Q 0 M_5)))) (fun En => (En = "java/lang/IndexOutOfBoundsException" ∧ (Q 1 M)) ∨ (En = "java/lang/IllegalStateException" ∧ (Q 2 M)))
set_option maxRecDepth 100000 in
set_option maxHeartbeats 4000000 in
theorem met_L_quota {l : Launch} (hl : l.stackTraces = false) {E : MK} {p1 : Nat} {p2 : Int32} {p3 : Int32} {p4 : Nat} {M : MEM} {Q : Int32 → MEM → Prop} (hw : wp_L_quota p1 p2 p3 p4 M Q) : gMet l E yL_quota rmL_quota [gR E p1, .int p2, .int p3, gR E p4] M (qI Q) gNo := by
  refine g_met hl (cc := cL_quota) (maxL := 5) (ret := (some .int)) (hh := [(0, 10, 13, 13), (0, 10, 17, 24)]) (loc := [(0, gR E p1), (1, .int p2), (2, .int p3), (3, gR E p4)]) (by decide +kernel) (Or.inr tw586) (Nat.le_of_ble_eq_true rfl) rfl (fun K hK C => ?_)
  have C : GC K E cL_quota RL 5 (some .int) [(0, 10, 13, 13), (0, 10, 17, 24)] rmL_quota := C
  refine g_aload_n C dL_quota_0 3 rfl rfl ?_
  refine g_iconst C dL_quota_1 (v := 0) rfl ?_
  refine g_aload_n C dL_quota_2 0 rfl rfl ?_
  refine g_iload_n C dL_quota_3 1 rfl rfl ?_
  refine g_iload_n C dL_quota_4 2 rfl rfl ?_
  obtain ⟨hk_3, hw⟩ := hw
  refine g_cV C dL_quota_5 (met_X5_quota C.st hw) (gc_X5_quota _ (Nat.le_of_ble_eq_true rfl) (Nat.le_of_ble_eq_true rfl)) tw587 tw588 tw589 (ci := 5) rfl (by decide) hk_3 rfl (Nat.le_of_ble_eq_true rfl) (c2 := 3) (s2 := 18) rfl rfl (Nat.le_of_ble_eq_true rfl) (Nat.le_of_ble_eq_true rfl) rfl (kIp (fun r_1 hw => ?_)) (fun En5 M5x hx => ?_)
  · skip
    refine g_i2l C dL_quota_8 ?_
    obtain ⟨hk_4, hw⟩ := hw
    refine g_lastore C hk_4 (i := 0) (vp_lit rfl) dL_quota_9 ?_
    refine g_nmM (fun M_5 eM_5 => ?_)
    have hw := hw M_5 eM_5
    refine g_goto C dL_quota_10 (tgt := 21) (by decide) ?_
    refine g_iconst C dL_quota_21 (v := 0) rfl ?_
    exact g_iret C dL_quota_22 (Nat.le_of_ble_eq_true rfl) (Nat.le_of_ble_eq_true rfl) ⟨_, rfl, hw⟩
  · have hx := hx
    obtain ⟨rfl, hx⟩ := hx
    rcases hx with ⟨rfl, hw⟩ | ⟨rfl, hw⟩
    · refine g_catch C [] ⟨0, 10, 13, 13⟩ [⟨0, 10, 17, 24⟩] rfl (fun z hz => absurd hz List.not_mem_nil) rfl (by decide) tw230 (List.mem_of_getElem? (i := 0) rfl) (fun q5 => ?_)
      refine g_astore C dL_quota_13 (Nat.le_of_ble_eq_true rfl) (loc' := [(4, .ref q5), (0, gR E p1), (1, .int p2), (2, .int p3), (3, gR E p4)]) rfl ?_
      refine g_iconst C dL_quota_15 (v := 1) rfl ?_
      exact g_iret C dL_quota_16 (Nat.le_of_ble_eq_true rfl) (Nat.le_of_ble_eq_true rfl) ⟨_, rfl, hw⟩
    · refine g_catch C [⟨0, 10, 13, 13⟩] ⟨0, 10, 17, 24⟩ [] rfl (List.forall_mem_cons.mpr ⟨⟨by decide, "java/lang/IndexOutOfBoundsException", tw230, List.mem_of_getElem? (i := 1) rfl⟩, fun z hz => absurd hz List.not_mem_nil⟩) rfl (by decide) tw394 (List.mem_of_getElem? (i := 2) rfl) (fun q5 => ?_)
      refine g_astore C dL_quota_17 (Nat.le_of_ble_eq_true rfl) (loc' := [(4, .ref q5), (0, gR E p1), (1, .int p2), (2, .int p3), (3, gR E p4)]) rfl ?_
      refine g_iconst C dL_quota_19 (v := 2) rfl ?_
      exact g_iret C dL_quota_20 (Nat.le_of_ble_eq_true rfl) (Nat.le_of_ble_eq_true rfl) ⟨_, rfl, hw⟩
theorem gc_L_quota : ∀ rm : Room, rmL_quota.frames + 1 ≤ rm.frames → 8 + (5 + 11) + rmL_quota.locals ≤ rm.locals → gCall yL_quota 5 4 rmL_quota rm := fun rm a b => ⟨Or.inr ⟨_, _, _, tw586⟩, tw0, ⟨by decide, by decide⟩, by decide, a, b⟩
abbrev rmL_merge : Room := { frames := 8, cells := 5, slots := 30, locals := 135 }
def wp_L_merge (p1 : Nat) (p2 : Int32) (p3 : Int32) (p4 : Nat) (M : MEM) (Q : Int32 → MEM → Prop) : Prop := KD p1 = (15, 0) ∧ wp_X5_merge p1 p2 p3 M (fun r_1 M_2 => (KD p4 = (2, 1) ∧ (∀ M_5 : MEM, M_5 = uL M_2 p4 0 r_1.toInt64 → (Q 0 M_5)))) (fun En M5x => (En = "java/lang/IndexOutOfBoundsException" ∧ (Q 1 M5x)) ∨ (En = "java/lang/IllegalStateException" ∧ (Q 2 M5x)) ∨ (En = "java/lang/UnsupportedOperationException" ∧ (Q 3 M5x)))
set_option maxRecDepth 100000 in
set_option maxHeartbeats 4000000 in
theorem met_L_merge {l : Launch} (hl : l.stackTraces = false) {E : MK} {p1 : Nat} {p2 : Int32} {p3 : Int32} {p4 : Nat} {M : MEM} {Q : Int32 → MEM → Prop} (hw : wp_L_merge p1 p2 p3 p4 M Q) : gMet l E yL_merge rmL_merge [gR E p1, .int p2, .int p3, gR E p4] M (qI Q) gNo := by
  refine g_met hl (cc := cL_merge) (maxL := 5) (ret := (some .int)) (hh := [(0, 10, 13, 13), (0, 10, 17, 24), (0, 10, 21, 49)]) (loc := [(0, gR E p1), (1, .int p2), (2, .int p3), (3, gR E p4)]) (by decide +kernel) (Or.inr tw593) (Nat.le_of_ble_eq_true rfl) rfl (fun K hK C => ?_)
  have C : GC K E cL_merge RL 5 (some .int) [(0, 10, 13, 13), (0, 10, 17, 24), (0, 10, 21, 49)] rmL_merge := C
  refine g_aload_n C dL_merge_0 3 rfl rfl ?_
  refine g_iconst C dL_merge_1 (v := 0) rfl ?_
  refine g_aload_n C dL_merge_2 0 rfl rfl ?_
  refine g_iload_n C dL_merge_3 1 rfl rfl ?_
  refine g_iload_n C dL_merge_4 2 rfl rfl ?_
  obtain ⟨hk_3, hw⟩ := hw
  refine g_cV C dL_merge_5 (met_X5_merge C.st hw) (gc_X5_merge _ (Nat.le_of_ble_eq_true rfl) (Nat.le_of_ble_eq_true rfl)) tw595 tw596 tw597 (ci := 5) rfl (by decide) hk_3 rfl (Nat.le_of_ble_eq_true rfl) (c2 := 5) (s2 := 30) rfl rfl (Nat.le_of_ble_eq_true rfl) (Nat.le_of_ble_eq_true rfl) rfl (kI (fun r_1 M_2 hw => ?_)) (fun En5 M5x hx => ?_)
  · skip
    refine g_i2l C dL_merge_8 ?_
    obtain ⟨hk_4, hw⟩ := hw
    refine g_lastore C hk_4 (i := 0) (vp_lit rfl) dL_merge_9 ?_
    refine g_nmM (fun M_5 eM_5 => ?_)
    have hw := hw M_5 eM_5
    refine g_goto C dL_merge_10 (tgt := 25) (by decide) ?_
    refine g_iconst C dL_merge_25 (v := 0) rfl ?_
    exact g_iret C dL_merge_26 (Nat.le_of_ble_eq_true rfl) (Nat.le_of_ble_eq_true rfl) ⟨_, rfl, hw⟩
  · have hx := hx
    rcases hx with ⟨rfl, hw⟩ | ⟨rfl, hw⟩ | ⟨rfl, hw⟩
    · refine g_catch C [] ⟨0, 10, 13, 13⟩ [⟨0, 10, 17, 24⟩, ⟨0, 10, 21, 49⟩] rfl (fun z hz => absurd hz List.not_mem_nil) rfl (by decide) tw230 (List.mem_of_getElem? (i := 0) rfl) (fun q5 => ?_)
      refine g_astore C dL_merge_13 (Nat.le_of_ble_eq_true rfl) (loc' := [(4, .ref q5), (0, gR E p1), (1, .int p2), (2, .int p3), (3, gR E p4)]) rfl ?_
      refine g_iconst C dL_merge_15 (v := 1) rfl ?_
      exact g_iret C dL_merge_16 (Nat.le_of_ble_eq_true rfl) (Nat.le_of_ble_eq_true rfl) ⟨_, rfl, hw⟩
    · refine g_catch C [⟨0, 10, 13, 13⟩] ⟨0, 10, 17, 24⟩ [⟨0, 10, 21, 49⟩] rfl (List.forall_mem_cons.mpr ⟨⟨by decide, "java/lang/IndexOutOfBoundsException", tw230, List.mem_of_getElem? (i := 1) rfl⟩, fun z hz => absurd hz List.not_mem_nil⟩) rfl (by decide) tw394 (List.mem_of_getElem? (i := 2) rfl) (fun q5 => ?_)
      refine g_astore C dL_merge_17 (Nat.le_of_ble_eq_true rfl) (loc' := [(4, .ref q5), (0, gR E p1), (1, .int p2), (2, .int p3), (3, gR E p4)]) rfl ?_
      refine g_iconst C dL_merge_19 (v := 2) rfl ?_
      exact g_iret C dL_merge_20 (Nat.le_of_ble_eq_true rfl) (Nat.le_of_ble_eq_true rfl) ⟨_, rfl, hw⟩
    · refine g_catch C [⟨0, 10, 13, 13⟩, ⟨0, 10, 17, 24⟩] ⟨0, 10, 21, 49⟩ [] rfl (List.forall_mem_cons.mpr ⟨⟨by decide, "java/lang/IndexOutOfBoundsException", tw230, List.mem_of_getElem? (i := 3) rfl⟩, List.forall_mem_cons.mpr ⟨⟨by decide, "java/lang/IllegalStateException", tw394, List.mem_of_getElem? (i := 13) rfl⟩, fun z hz => absurd hz List.not_mem_nil⟩⟩) rfl (by decide) tw594 (List.mem_of_getElem? (i := 4) rfl) (fun q5 => ?_)
      refine g_astore C dL_merge_21 (Nat.le_of_ble_eq_true rfl) (loc' := [(4, .ref q5), (0, gR E p1), (1, .int p2), (2, .int p3), (3, gR E p4)]) rfl ?_
      refine g_iconst C dL_merge_23 (v := 3) rfl ?_
      exact g_iret C dL_merge_24 (Nat.le_of_ble_eq_true rfl) (Nat.le_of_ble_eq_true rfl) ⟨_, rfl, hw⟩
theorem gc_L_merge : ∀ rm : Room, rmL_merge.frames + 1 ≤ rm.frames → 8 + (5 + 11) + rmL_merge.locals ≤ rm.locals → gCall yL_merge 5 4 rmL_merge rm := fun rm a b => ⟨Or.inr ⟨_, _, _, tw593⟩, tw0, ⟨by decide, by decide⟩, by decide, a, b⟩
abbrev rmL_copy : Room := { frames := 8, cells := 3, slots := 18, locals := 127 }
def wp_L_copy (p1 : Nat) (p2 : Int32) (p3 : Int32) (p4 : Nat) (M : MEM) (Q : Int32 → MEM → Prop) : Prop := KD p1 = (15, 0) ∧ wp_X5_copy p1 p2 p3 M (fun r_1 M_2 => (KD p4 = (2, 1) ∧ (∀ M_5 : MEM, M_5 = uL M_2 p4 0 r_1.toInt64 → (Q 0 M_5)))) (fun En M5x => (En = "java/lang/IndexOutOfBoundsException" ∧ (Q 1 M5x)) ∨ (En = "java/lang/IllegalStateException" ∧ (Q 2 M5x)))
set_option maxRecDepth 100000 in
set_option maxHeartbeats 4000000 in
theorem met_L_copy {l : Launch} (hl : l.stackTraces = false) {E : MK} {p1 : Nat} {p2 : Int32} {p3 : Int32} {p4 : Nat} {M : MEM} {Q : Int32 → MEM → Prop} (hw : wp_L_copy p1 p2 p3 p4 M Q) : gMet l E yL_copy rmL_copy [gR E p1, .int p2, .int p3, gR E p4] M (qI Q) gNo := by
  refine g_met hl (cc := cL_copy) (maxL := 5) (ret := (some .int)) (hh := [(0, 10, 13, 13), (0, 10, 17, 24)]) (loc := [(0, gR E p1), (1, .int p2), (2, .int p3), (3, gR E p4)]) (by decide +kernel) (Or.inr tw638) (Nat.le_of_ble_eq_true rfl) rfl (fun K hK C => ?_)
  have C : GC K E cL_copy RL 5 (some .int) [(0, 10, 13, 13), (0, 10, 17, 24)] rmL_copy := C
  refine g_aload_n C dL_copy_0 3 rfl rfl ?_
  refine g_iconst C dL_copy_1 (v := 0) rfl ?_
  refine g_aload_n C dL_copy_2 0 rfl rfl ?_
  refine g_iload_n C dL_copy_3 1 rfl rfl ?_
  refine g_iload_n C dL_copy_4 2 rfl rfl ?_
  obtain ⟨hk_3, hw⟩ := hw
  refine g_cV C dL_copy_5 (met_X5_copy C.st hw) (gc_X5_copy _ (Nat.le_of_ble_eq_true rfl) (Nat.le_of_ble_eq_true rfl)) tw639 tw640 tw641 (ci := 5) rfl (by decide) hk_3 rfl (Nat.le_of_ble_eq_true rfl) (c2 := 3) (s2 := 18) rfl rfl (Nat.le_of_ble_eq_true rfl) (Nat.le_of_ble_eq_true rfl) rfl (kI (fun r_1 M_2 hw => ?_)) (fun En5 M5x hx => ?_)
  · skip
    refine g_i2l C dL_copy_8 ?_
    obtain ⟨hk_4, hw⟩ := hw
    refine g_lastore C hk_4 (i := 0) (vp_lit rfl) dL_copy_9 ?_
    refine g_nmM (fun M_5 eM_5 => ?_)
    have hw := hw M_5 eM_5
    refine g_goto C dL_copy_10 (tgt := 21) (by decide) ?_
    refine g_iconst C dL_copy_21 (v := 0) rfl ?_
    exact g_iret C dL_copy_22 (Nat.le_of_ble_eq_true rfl) (Nat.le_of_ble_eq_true rfl) ⟨_, rfl, hw⟩
  · have hx := hx
    rcases hx with ⟨rfl, hw⟩ | ⟨rfl, hw⟩
    · refine g_catch C [] ⟨0, 10, 13, 13⟩ [⟨0, 10, 17, 24⟩] rfl (fun z hz => absurd hz List.not_mem_nil) rfl (by decide) tw230 (List.mem_of_getElem? (i := 0) rfl) (fun q5 => ?_)
      refine g_astore C dL_copy_13 (Nat.le_of_ble_eq_true rfl) (loc' := [(4, .ref q5), (0, gR E p1), (1, .int p2), (2, .int p3), (3, gR E p4)]) rfl ?_
      refine g_iconst C dL_copy_15 (v := 1) rfl ?_
      exact g_iret C dL_copy_16 (Nat.le_of_ble_eq_true rfl) (Nat.le_of_ble_eq_true rfl) ⟨_, rfl, hw⟩
    · refine g_catch C [⟨0, 10, 13, 13⟩] ⟨0, 10, 17, 24⟩ [] rfl (List.forall_mem_cons.mpr ⟨⟨by decide, "java/lang/IndexOutOfBoundsException", tw230, List.mem_of_getElem? (i := 1) rfl⟩, fun z hz => absurd hz List.not_mem_nil⟩) rfl (by decide) tw394 (List.mem_of_getElem? (i := 2) rfl) (fun q5 => ?_)
      refine g_astore C dL_copy_17 (Nat.le_of_ble_eq_true rfl) (loc' := [(4, .ref q5), (0, gR E p1), (1, .int p2), (2, .int p3), (3, gR E p4)]) rfl ?_
      refine g_iconst C dL_copy_19 (v := 2) rfl ?_
      exact g_iret C dL_copy_20 (Nat.le_of_ble_eq_true rfl) (Nat.le_of_ble_eq_true rfl) ⟨_, rfl, hw⟩
theorem gc_L_copy : ∀ rm : Room, rmL_copy.frames + 1 ≤ rm.frames → 8 + (5 + 11) + rmL_copy.locals ≤ rm.locals → gCall yL_copy 5 4 rmL_copy rm := fun rm a b => ⟨Or.inr ⟨_, _, _, tw638⟩, tw0, ⟨by decide, by decide⟩, by decide, a, b⟩
abbrev rmL_kept : Room := { frames := 8, cells := 4, slots := 24, locals := 157 }
def wp_L_kept (p1 : Nat) (p2 : Int32) (p3 : Int32) (p4 : Int32) (p5 : Nat) (M : MEM) (Q : Int32 → MEM → Prop) : Prop := KD p1 = (15, 0) ∧ wp_X5_kept p1 p2 p3 p4 M (fun r_1 M_2 => (KD p5 = (2, 1) ∧ (∀ M_5 : MEM, M_5 = uL M_2 p5 0 r_1.toInt64 → (Q 0 M_5)))) (fun En M7x => (En = "java/lang/IndexOutOfBoundsException" ∧ (Q 1 M7x)) ∨ (En = "java/lang/IllegalArgumentException" ∧ (Q 2 M7x)) ∨ (En = "java/lang/IllegalStateException" ∧ (Q 3 M7x)))
set_option maxRecDepth 100000 in
set_option maxHeartbeats 4000000 in
theorem met_L_kept {l : Launch} (hl : l.stackTraces = false) {E : MK} {p1 : Nat} {p2 : Int32} {p3 : Int32} {p4 : Int32} {p5 : Nat} {M : MEM} {Q : Int32 → MEM → Prop} (hw : wp_L_kept p1 p2 p3 p4 p5 M Q) : gMet l E yL_kept rmL_kept [gR E p1, .int p2, .int p3, .int p4, gR E p5] M (qI Q) gNo := by
  refine g_met hl (cc := cL_kept) (maxL := 6) (ret := (some .int)) (hh := [(0, 12, 15, 13), (0, 12, 19, 15), (0, 12, 23, 24)]) (loc := [(0, gR E p1), (1, .int p2), (2, .int p3), (3, .int p4), (4, gR E p5)]) (by decide +kernel) (Or.inr tw645) (Nat.le_of_ble_eq_true rfl) rfl (fun K hK C => ?_)
  have C : GC K E cL_kept RL 6 (some .int) [(0, 12, 15, 13), (0, 12, 19, 15), (0, 12, 23, 24)] rmL_kept := C
  refine g_aload C (j := 0) dL_kept_0 4 rfl ?_
  refine g_iconst C dL_kept_2 (v := 0) rfl ?_
  refine g_aload_n C dL_kept_3 0 rfl rfl ?_
  refine g_iload_n C dL_kept_4 1 rfl rfl ?_
  refine g_iload_n C dL_kept_5 2 rfl rfl ?_
  refine g_iload_n C dL_kept_6 3 rfl rfl ?_
  obtain ⟨hk_3, hw⟩ := hw
  refine g_cV C dL_kept_7 (met_X5_kept C.st hw) (gc_X5_kept _ (Nat.le_of_ble_eq_true rfl) (Nat.le_of_ble_eq_true rfl)) tw646 tw647 tw648 (ci := 5) rfl (by decide) hk_3 rfl (Nat.le_of_ble_eq_true rfl) (c2 := 4) (s2 := 24) rfl rfl (Nat.le_of_ble_eq_true rfl) (Nat.le_of_ble_eq_true rfl) rfl (kI (fun r_1 M_2 hw => ?_)) (fun En7 M7x hx => ?_)
  · skip
    refine g_i2l C dL_kept_10 ?_
    obtain ⟨hk_4, hw⟩ := hw
    refine g_lastore C hk_4 (i := 0) (vp_lit rfl) dL_kept_11 ?_
    refine g_nmM (fun M_5 eM_5 => ?_)
    have hw := hw M_5 eM_5
    refine g_goto C dL_kept_12 (tgt := 27) (by decide) ?_
    refine g_iconst C dL_kept_27 (v := 0) rfl ?_
    exact g_iret C dL_kept_28 (Nat.le_of_ble_eq_true rfl) (Nat.le_of_ble_eq_true rfl) ⟨_, rfl, hw⟩
  · have hx := hx
    rcases hx with ⟨rfl, hw⟩ | ⟨rfl, hw⟩ | ⟨rfl, hw⟩
    · refine g_catch C [] ⟨0, 12, 15, 13⟩ [⟨0, 12, 19, 15⟩, ⟨0, 12, 23, 24⟩] rfl (fun z hz => absurd hz List.not_mem_nil) rfl (by decide) tw230 (List.mem_of_getElem? (i := 0) rfl) (fun q7 => ?_)
      refine g_astore C dL_kept_15 (Nat.le_of_ble_eq_true rfl) (loc' := [(5, .ref q7), (0, gR E p1), (1, .int p2), (2, .int p3), (3, .int p4), (4, gR E p5)]) rfl ?_
      refine g_iconst C dL_kept_17 (v := 1) rfl ?_
      exact g_iret C dL_kept_18 (Nat.le_of_ble_eq_true rfl) (Nat.le_of_ble_eq_true rfl) ⟨_, rfl, hw⟩
    · refine g_catch C [⟨0, 12, 15, 13⟩] ⟨0, 12, 19, 15⟩ [⟨0, 12, 23, 24⟩] rfl (List.forall_mem_cons.mpr ⟨⟨by decide, "java/lang/IndexOutOfBoundsException", tw230, List.mem_of_getElem? (i := 0) rfl⟩, fun z hz => absurd hz List.not_mem_nil⟩) rfl (by decide) tw310 (List.mem_of_getElem? (i := 1) rfl) (fun q7 => ?_)
      refine g_astore C dL_kept_19 (Nat.le_of_ble_eq_true rfl) (loc' := [(5, .ref q7), (0, gR E p1), (1, .int p2), (2, .int p3), (3, .int p4), (4, gR E p5)]) rfl ?_
      refine g_iconst C dL_kept_21 (v := 2) rfl ?_
      exact g_iret C dL_kept_22 (Nat.le_of_ble_eq_true rfl) (Nat.le_of_ble_eq_true rfl) ⟨_, rfl, hw⟩
    · refine g_catch C [⟨0, 12, 15, 13⟩, ⟨0, 12, 19, 15⟩] ⟨0, 12, 23, 24⟩ [] rfl (List.forall_mem_cons.mpr ⟨⟨by decide, "java/lang/IndexOutOfBoundsException", tw230, List.mem_of_getElem? (i := 1) rfl⟩, List.forall_mem_cons.mpr ⟨⟨by decide, "java/lang/IllegalArgumentException", tw310, List.mem_of_getElem? (i := 6) rfl⟩, fun z hz => absurd hz List.not_mem_nil⟩⟩) rfl (by decide) tw394 (List.mem_of_getElem? (i := 2) rfl) (fun q7 => ?_)
      refine g_astore C dL_kept_23 (Nat.le_of_ble_eq_true rfl) (loc' := [(5, .ref q7), (0, gR E p1), (1, .int p2), (2, .int p3), (3, .int p4), (4, gR E p5)]) rfl ?_
      refine g_iconst C dL_kept_25 (v := 3) rfl ?_
      exact g_iret C dL_kept_26 (Nat.le_of_ble_eq_true rfl) (Nat.le_of_ble_eq_true rfl) ⟨_, rfl, hw⟩
theorem gc_L_kept : ∀ rm : Room, rmL_kept.frames + 1 ≤ rm.frames → 8 + (6 + 11) + rmL_kept.locals ≤ rm.locals → gCall yL_kept 6 5 rmL_kept rm := fun rm a b => ⟨Or.inr ⟨_, _, _, tw645⟩, tw0, ⟨by decide, by decide⟩, by decide, a, b⟩
abbrev rmL_sampled : Room := { frames := 8, cells := 3, slots := 18, locals := 158 }
def wp_L_sampled (p1 : Nat) (p2 : Int32) (p3 : Int32) (p4 : Int32) (p5 : Nat) (M : MEM) (Q : Int32 → MEM → Prop) : Prop := KD p1 = (15, 0) ∧ wp_X5_sampled p1 p2 p3 p4 M (fun r_1 M_2 => (KD p5 = (2, 1) ∧ (∀ M_5 : MEM, M_5 = uL M_2 p5 0 r_1.toInt64 → (Q 0 M_5)))) (fun En M7x => (En = "java/lang/IndexOutOfBoundsException" ∧ (Q 1 M7x)) ∨ (En = "java/lang/IllegalArgumentException" ∧ (Q 2 M7x)) ∨ (En = "java/lang/IllegalStateException" ∧ (Q 3 M7x)))
set_option maxRecDepth 100000 in
set_option maxHeartbeats 4000000 in
theorem met_L_sampled {l : Launch} (hl : l.stackTraces = false) {E : MK} {p1 : Nat} {p2 : Int32} {p3 : Int32} {p4 : Int32} {p5 : Nat} {M : MEM} {Q : Int32 → MEM → Prop} (hw : wp_L_sampled p1 p2 p3 p4 p5 M Q) : gMet l E yL_sampled rmL_sampled [gR E p1, .int p2, .int p3, .int p4, gR E p5] M (qI Q) gNo := by
  refine g_met hl (cc := cL_sampled) (maxL := 6) (ret := (some .int)) (hh := [(0, 12, 15, 13), (0, 12, 19, 15), (0, 12, 23, 24)]) (loc := [(0, gR E p1), (1, .int p2), (2, .int p3), (3, .int p4), (4, gR E p5)]) (by decide +kernel) (Or.inr tw661) (Nat.le_of_ble_eq_true rfl) rfl (fun K hK C => ?_)
  have C : GC K E cL_sampled RL 6 (some .int) [(0, 12, 15, 13), (0, 12, 19, 15), (0, 12, 23, 24)] rmL_sampled := C
  refine g_aload C (j := 0) dL_sampled_0 4 rfl ?_
  refine g_iconst C dL_sampled_2 (v := 0) rfl ?_
  refine g_aload_n C dL_sampled_3 0 rfl rfl ?_
  refine g_iload_n C dL_sampled_4 1 rfl rfl ?_
  refine g_iload_n C dL_sampled_5 2 rfl rfl ?_
  refine g_iload_n C dL_sampled_6 3 rfl rfl ?_
  obtain ⟨hk_3, hw⟩ := hw
  refine g_cV C dL_sampled_7 (met_X5_sampled C.st hw) (gc_X5_sampled _ (Nat.le_of_ble_eq_true rfl) (Nat.le_of_ble_eq_true rfl)) tw662 tw663 tw664 (ci := 5) rfl (by decide) hk_3 rfl (Nat.le_of_ble_eq_true rfl) (c2 := 3) (s2 := 18) rfl rfl (Nat.le_of_ble_eq_true rfl) (Nat.le_of_ble_eq_true rfl) rfl (kI (fun r_1 M_2 hw => ?_)) (fun En7 M7x hx => ?_)
  · skip
    refine g_i2l C dL_sampled_10 ?_
    obtain ⟨hk_4, hw⟩ := hw
    refine g_lastore C hk_4 (i := 0) (vp_lit rfl) dL_sampled_11 ?_
    refine g_nmM (fun M_5 eM_5 => ?_)
    have hw := hw M_5 eM_5
    refine g_goto C dL_sampled_12 (tgt := 27) (by decide) ?_
    refine g_iconst C dL_sampled_27 (v := 0) rfl ?_
    exact g_iret C dL_sampled_28 (Nat.le_of_ble_eq_true rfl) (Nat.le_of_ble_eq_true rfl) ⟨_, rfl, hw⟩
  · have hx := hx
    rcases hx with ⟨rfl, hw⟩ | ⟨rfl, hw⟩ | ⟨rfl, hw⟩
    · refine g_catch C [] ⟨0, 12, 15, 13⟩ [⟨0, 12, 19, 15⟩, ⟨0, 12, 23, 24⟩] rfl (fun z hz => absurd hz List.not_mem_nil) rfl (by decide) tw230 (List.mem_of_getElem? (i := 0) rfl) (fun q7 => ?_)
      refine g_astore C dL_sampled_15 (Nat.le_of_ble_eq_true rfl) (loc' := [(5, .ref q7), (0, gR E p1), (1, .int p2), (2, .int p3), (3, .int p4), (4, gR E p5)]) rfl ?_
      refine g_iconst C dL_sampled_17 (v := 1) rfl ?_
      exact g_iret C dL_sampled_18 (Nat.le_of_ble_eq_true rfl) (Nat.le_of_ble_eq_true rfl) ⟨_, rfl, hw⟩
    · refine g_catch C [⟨0, 12, 15, 13⟩] ⟨0, 12, 19, 15⟩ [⟨0, 12, 23, 24⟩] rfl (List.forall_mem_cons.mpr ⟨⟨by decide, "java/lang/IndexOutOfBoundsException", tw230, List.mem_of_getElem? (i := 0) rfl⟩, fun z hz => absurd hz List.not_mem_nil⟩) rfl (by decide) tw310 (List.mem_of_getElem? (i := 1) rfl) (fun q7 => ?_)
      refine g_astore C dL_sampled_19 (Nat.le_of_ble_eq_true rfl) (loc' := [(5, .ref q7), (0, gR E p1), (1, .int p2), (2, .int p3), (3, .int p4), (4, gR E p5)]) rfl ?_
      refine g_iconst C dL_sampled_21 (v := 2) rfl ?_
      exact g_iret C dL_sampled_22 (Nat.le_of_ble_eq_true rfl) (Nat.le_of_ble_eq_true rfl) ⟨_, rfl, hw⟩
    · refine g_catch C [⟨0, 12, 15, 13⟩, ⟨0, 12, 19, 15⟩] ⟨0, 12, 23, 24⟩ [] rfl (List.forall_mem_cons.mpr ⟨⟨by decide, "java/lang/IndexOutOfBoundsException", tw230, List.mem_of_getElem? (i := 1) rfl⟩, List.forall_mem_cons.mpr ⟨⟨by decide, "java/lang/IllegalArgumentException", tw310, List.mem_of_getElem? (i := 6) rfl⟩, fun z hz => absurd hz List.not_mem_nil⟩⟩) rfl (by decide) tw394 (List.mem_of_getElem? (i := 2) rfl) (fun q7 => ?_)
      refine g_astore C dL_sampled_23 (Nat.le_of_ble_eq_true rfl) (loc' := [(5, .ref q7), (0, gR E p1), (1, .int p2), (2, .int p3), (3, .int p4), (4, gR E p5)]) rfl ?_
      refine g_iconst C dL_sampled_25 (v := 3) rfl ?_
      exact g_iret C dL_sampled_26 (Nat.le_of_ble_eq_true rfl) (Nat.le_of_ble_eq_true rfl) ⟨_, rfl, hw⟩
theorem gc_L_sampled : ∀ rm : Room, rmL_sampled.frames + 1 ≤ rm.frames → 8 + (6 + 11) + rmL_sampled.locals ≤ rm.locals → gCall yL_sampled 6 5 rmL_sampled rm := fun rm a b => ⟨Or.inr ⟨_, _, _, tw661⟩, tw0, ⟨by decide, by decide⟩, by decide, a, b⟩
abbrev rmL_mix : Room := { frames := 8, cells := 3, slots := 18, locals := 126 }
def wp_L_mix (p1 : Nat) (p2 : Int32) (p3 : Int32) (p4 : Nat) (M : MEM) (Q : Int32 → MEM → Prop) : Prop := KD p1 = (15, 0) ∧ wp_X5_mix p1 p2 p3 M (fun r_1 => (KD p4 = (2, 1) ∧ (∀ M_5 : MEM, M_5 = uL M p4 0 r_1 → (Q 0 M_5)))) (fun En => (En = "java/lang/IndexOutOfBoundsException" ∧ (Q 1 M)) ∨ (En = "java/lang/IllegalStateException" ∧ (Q 2 M)))
set_option maxRecDepth 100000 in
set_option maxHeartbeats 4000000 in
theorem met_L_mix {l : Launch} (hl : l.stackTraces = false) {E : MK} {p1 : Nat} {p2 : Int32} {p3 : Int32} {p4 : Nat} {M : MEM} {Q : Int32 → MEM → Prop} (hw : wp_L_mix p1 p2 p3 p4 M Q) : gMet l E yL_mix rmL_mix [gR E p1, .int p2, .int p3, gR E p4] M (qI Q) gNo := by
  refine g_met hl (cc := cL_mix) (maxL := 5) (ret := (some .int)) (hh := [(0, 9, 12, 13), (0, 9, 16, 24)]) (loc := [(0, gR E p1), (1, .int p2), (2, .int p3), (3, gR E p4)]) (by decide +kernel) (Or.inr tw678) (Nat.le_of_ble_eq_true rfl) rfl (fun K hK C => ?_)
  have C : GC K E cL_mix RL 5 (some .int) [(0, 9, 12, 13), (0, 9, 16, 24)] rmL_mix := C
  refine g_aload_n C dL_mix_0 3 rfl rfl ?_
  refine g_iconst C dL_mix_1 (v := 0) rfl ?_
  refine g_aload_n C dL_mix_2 0 rfl rfl ?_
  refine g_iload_n C dL_mix_3 1 rfl rfl ?_
  refine g_iload_n C dL_mix_4 2 rfl rfl ?_
  obtain ⟨hk_3, hw⟩ := hw
  refine g_cV C dL_mix_5 (met_X5_mix C.st hw) (gc_X5_mix _ (Nat.le_of_ble_eq_true rfl) (Nat.le_of_ble_eq_true rfl)) tw679 tw680 tw681 (ci := 5) rfl (by decide) hk_3 rfl (Nat.le_of_ble_eq_true rfl) (c2 := 3) (s2 := 18) rfl rfl (Nat.le_of_ble_eq_true rfl) (Nat.le_of_ble_eq_true rfl) rfl (kLp (fun r_1 hw => ?_)) (fun En5 M5x hx => ?_)
  · skip
    obtain ⟨hk_4, hw⟩ := hw
    refine g_lastore C hk_4 (i := 0) (vp_lit rfl) dL_mix_8 ?_
    refine g_nmM (fun M_5 eM_5 => ?_)
    have hw := hw M_5 eM_5
    refine g_goto C dL_mix_9 (tgt := 20) (by decide) ?_
    refine g_iconst C dL_mix_20 (v := 0) rfl ?_
    exact g_iret C dL_mix_21 (Nat.le_of_ble_eq_true rfl) (Nat.le_of_ble_eq_true rfl) ⟨_, rfl, hw⟩
  · have hx := hx
    obtain ⟨rfl, hx⟩ := hx
    rcases hx with ⟨rfl, hw⟩ | ⟨rfl, hw⟩
    · refine g_catch C [] ⟨0, 9, 12, 13⟩ [⟨0, 9, 16, 24⟩] rfl (fun z hz => absurd hz List.not_mem_nil) rfl (by decide) tw230 (List.mem_of_getElem? (i := 0) rfl) (fun q5 => ?_)
      refine g_astore C dL_mix_12 (Nat.le_of_ble_eq_true rfl) (loc' := [(4, .ref q5), (0, gR E p1), (1, .int p2), (2, .int p3), (3, gR E p4)]) rfl ?_
      refine g_iconst C dL_mix_14 (v := 1) rfl ?_
      exact g_iret C dL_mix_15 (Nat.le_of_ble_eq_true rfl) (Nat.le_of_ble_eq_true rfl) ⟨_, rfl, hw⟩
    · refine g_catch C [⟨0, 9, 12, 13⟩] ⟨0, 9, 16, 24⟩ [] rfl (List.forall_mem_cons.mpr ⟨⟨by decide, "java/lang/IndexOutOfBoundsException", tw230, List.mem_of_getElem? (i := 1) rfl⟩, fun z hz => absurd hz List.not_mem_nil⟩) rfl (by decide) tw394 (List.mem_of_getElem? (i := 2) rfl) (fun q5 => ?_)
      refine g_astore C dL_mix_16 (Nat.le_of_ble_eq_true rfl) (loc' := [(4, .ref q5), (0, gR E p1), (1, .int p2), (2, .int p3), (3, gR E p4)]) rfl ?_
      refine g_iconst C dL_mix_18 (v := 2) rfl ?_
      exact g_iret C dL_mix_19 (Nat.le_of_ble_eq_true rfl) (Nat.le_of_ble_eq_true rfl) ⟨_, rfl, hw⟩
theorem gc_L_mix : ∀ rm : Room, rmL_mix.frames + 1 ≤ rm.frames → 8 + (5 + 11) + rmL_mix.locals ≤ rm.locals → gCall yL_mix 5 4 rmL_mix rm := fun rm a b => ⟨Or.inr ⟨_, _, _, tw678⟩, tw0, ⟨by decide, by decide⟩, by decide, a, b⟩
abbrev rmL_commonKey : Room := { frames := 9, cells := 3, slots := 18, locals := 182 }
def wp_L_commonKey (p1 : Nat) (p2 : Int32) (p3 : Nat) (M : MEM) (Q : Int32 → MEM → Prop) : Prop := KD p1 = (15, 0) ∧ wp_X5_commonKey p1 p2 M (fun r_1 M_2 => (KD p3 = (2, 1) ∧ (∀ M_5 : MEM, M_5 = uL M_2 p3 0 r_1.toInt64 → (Q 0 M_5)))) (fun En M4x => (En = "java/lang/IndexOutOfBoundsException" ∧ (Q 1 M4x)) ∨ (En = "java/lang/IllegalStateException" ∧ (Q 2 M4x)) ∨ (En = "java/util/NoSuchElementException" ∧ (Q 3 M4x)))
set_option maxRecDepth 100000 in
set_option maxHeartbeats 4000000 in
theorem met_L_commonKey {l : Launch} (hl : l.stackTraces = false) {E : MK} {p1 : Nat} {p2 : Int32} {p3 : Nat} {M : MEM} {Q : Int32 → MEM → Prop} (hw : wp_L_commonKey p1 p2 p3 M Q) : gMet l E yL_commonKey rmL_commonKey [gR E p1, .int p2, gR E p3] M (qI Q) gNo := by
  refine g_met hl (cc := cL_commonKey) (maxL := 4) (ret := (some .int)) (hh := [(0, 9, 12, 13), (0, 9, 15, 24), (0, 9, 18, 67)]) (loc := [(0, gR E p1), (1, .int p2), (2, gR E p3)]) (by decide +kernel) (Or.inr tw686) (Nat.le_of_ble_eq_true rfl) rfl (fun K hK C => ?_)
  have C : GC K E cL_commonKey RL 4 (some .int) [(0, 9, 12, 13), (0, 9, 15, 24), (0, 9, 18, 67)] rmL_commonKey := C
  refine g_aload_n C dL_commonKey_0 2 rfl rfl ?_
  refine g_iconst C dL_commonKey_1 (v := 0) rfl ?_
  refine g_aload_n C dL_commonKey_2 0 rfl rfl ?_
  refine g_iload_n C dL_commonKey_3 1 rfl rfl ?_
  obtain ⟨hk_3, hw⟩ := hw
  refine g_cV C dL_commonKey_4 (met_X5_commonKey C.st hw) (gc_X5_commonKey _ (Nat.le_of_ble_eq_true rfl) (Nat.le_of_ble_eq_true rfl)) tw688 tw689 tw690 (ci := 5) rfl (by decide) hk_3 rfl (Nat.le_of_ble_eq_true rfl) (c2 := 3) (s2 := 18) rfl rfl (Nat.le_of_ble_eq_true rfl) (Nat.le_of_ble_eq_true rfl) rfl (kI (fun r_1 M_2 hw => ?_)) (fun En4 M4x hx => ?_)
  · skip
    refine g_i2l C dL_commonKey_7 ?_
    obtain ⟨hk_4, hw⟩ := hw
    refine g_lastore C hk_4 (i := 0) (vp_lit rfl) dL_commonKey_8 ?_
    refine g_nmM (fun M_5 eM_5 => ?_)
    have hw := hw M_5 eM_5
    refine g_goto C dL_commonKey_9 (tgt := 21) (by decide) ?_
    refine g_iconst C dL_commonKey_21 (v := 0) rfl ?_
    exact g_iret C dL_commonKey_22 (Nat.le_of_ble_eq_true rfl) (Nat.le_of_ble_eq_true rfl) ⟨_, rfl, hw⟩
  · have hx := hx
    rcases hx with ⟨rfl, hw⟩ | ⟨rfl, hw⟩ | ⟨rfl, hw⟩
    · refine g_catch C [] ⟨0, 9, 12, 13⟩ [⟨0, 9, 15, 24⟩, ⟨0, 9, 18, 67⟩] rfl (fun z hz => absurd hz List.not_mem_nil) rfl (by decide) tw230 (List.mem_of_getElem? (i := 0) rfl) (fun q4 => ?_)
      refine g_astore_n C dL_commonKey_12 rfl (Nat.le_of_ble_eq_true rfl) (loc' := [(3, .ref q4), (0, gR E p1), (1, .int p2), (2, gR E p3)]) rfl ?_
      refine g_iconst C dL_commonKey_13 (v := 1) rfl ?_
      exact g_iret C dL_commonKey_14 (Nat.le_of_ble_eq_true rfl) (Nat.le_of_ble_eq_true rfl) ⟨_, rfl, hw⟩
    · refine g_catch C [⟨0, 9, 12, 13⟩] ⟨0, 9, 15, 24⟩ [⟨0, 9, 18, 67⟩] rfl (List.forall_mem_cons.mpr ⟨⟨by decide, "java/lang/IndexOutOfBoundsException", tw230, List.mem_of_getElem? (i := 1) rfl⟩, fun z hz => absurd hz List.not_mem_nil⟩) rfl (by decide) tw394 (List.mem_of_getElem? (i := 2) rfl) (fun q4 => ?_)
      refine g_astore_n C dL_commonKey_15 rfl (Nat.le_of_ble_eq_true rfl) (loc' := [(3, .ref q4), (0, gR E p1), (1, .int p2), (2, gR E p3)]) rfl ?_
      refine g_iconst C dL_commonKey_16 (v := 2) rfl ?_
      exact g_iret C dL_commonKey_17 (Nat.le_of_ble_eq_true rfl) (Nat.le_of_ble_eq_true rfl) ⟨_, rfl, hw⟩
    · refine g_catch C [⟨0, 9, 12, 13⟩, ⟨0, 9, 15, 24⟩] ⟨0, 9, 18, 67⟩ [] rfl (List.forall_mem_cons.mpr ⟨⟨by decide, "java/lang/IndexOutOfBoundsException", tw230, List.mem_of_getElem? (i := 4) rfl⟩, List.forall_mem_cons.mpr ⟨⟨by decide, "java/lang/IllegalStateException", tw394, List.mem_of_getElem? (i := 14) rfl⟩, fun z hz => absurd hz List.not_mem_nil⟩⟩) rfl (by decide) tw687 (List.mem_of_getElem? (i := 5) rfl) (fun q4 => ?_)
      refine g_astore_n C dL_commonKey_18 rfl (Nat.le_of_ble_eq_true rfl) (loc' := [(3, .ref q4), (0, gR E p1), (1, .int p2), (2, gR E p3)]) rfl ?_
      refine g_iconst C dL_commonKey_19 (v := 3) rfl ?_
      exact g_iret C dL_commonKey_20 (Nat.le_of_ble_eq_true rfl) (Nat.le_of_ble_eq_true rfl) ⟨_, rfl, hw⟩
theorem gc_L_commonKey : ∀ rm : Room, rmL_commonKey.frames + 1 ≤ rm.frames → 8 + (4 + 11) + rmL_commonKey.locals ≤ rm.locals → gCall yL_commonKey 4 3 rmL_commonKey rm := fun rm a b => ⟨Or.inr ⟨_, _, _, tw686⟩, tw0, ⟨by decide, by decide⟩, by decide, a, b⟩
abbrev rmL_reason : Room := { frames := 8, cells := 3, slots := 18, locals := 157 }
def wp_L_reason (p1 : Nat) (p2 : Int32) (p3 : Int32) (p4 : Nat) (M : MEM) (Q : Int32 → MEM → Prop) : Prop := KD p1 = (15, 0) ∧ wp_X5_reason p1 p2 p3 M (fun r_1 M_2 => (KD p4 = (2, 1) ∧ (∀ M_5 : MEM, M_5 = uL M_2 p4 0 r_1.toInt64 → (Q 0 M_5)))) (fun En M5x => (En = "java/lang/IndexOutOfBoundsException" ∧ (Q 1 M5x)) ∨ (En = "java/lang/IllegalStateException" ∧ (Q 2 M5x)))
set_option maxRecDepth 100000 in
set_option maxHeartbeats 4000000 in
theorem met_L_reason {l : Launch} (hl : l.stackTraces = false) {E : MK} {p1 : Nat} {p2 : Int32} {p3 : Int32} {p4 : Nat} {M : MEM} {Q : Int32 → MEM → Prop} (hw : wp_L_reason p1 p2 p3 p4 M Q) : gMet l E yL_reason rmL_reason [gR E p1, .int p2, .int p3, gR E p4] M (qI Q) gNo := by
  refine g_met hl (cc := cL_reason) (maxL := 5) (ret := (some .int)) (hh := [(0, 10, 13, 13), (0, 10, 17, 24)]) (loc := [(0, gR E p1), (1, .int p2), (2, .int p3), (3, gR E p4)]) (by decide +kernel) (Or.inr tw722) (Nat.le_of_ble_eq_true rfl) rfl (fun K hK C => ?_)
  have C : GC K E cL_reason RL 5 (some .int) [(0, 10, 13, 13), (0, 10, 17, 24)] rmL_reason := C
  refine g_aload_n C dL_reason_0 3 rfl rfl ?_
  refine g_iconst C dL_reason_1 (v := 0) rfl ?_
  refine g_aload_n C dL_reason_2 0 rfl rfl ?_
  refine g_iload_n C dL_reason_3 1 rfl rfl ?_
  refine g_iload_n C dL_reason_4 2 rfl rfl ?_
  obtain ⟨hk_3, hw⟩ := hw
  refine g_cV C dL_reason_5 (met_X5_reason C.st hw) (gc_X5_reason _ (Nat.le_of_ble_eq_true rfl) (Nat.le_of_ble_eq_true rfl)) tw723 tw724 tw725 (ci := 5) rfl (by decide) hk_3 rfl (Nat.le_of_ble_eq_true rfl) (c2 := 3) (s2 := 18) rfl rfl (Nat.le_of_ble_eq_true rfl) (Nat.le_of_ble_eq_true rfl) rfl (kI (fun r_1 M_2 hw => ?_)) (fun En5 M5x hx => ?_)
  · skip
    refine g_i2l C dL_reason_8 ?_
    obtain ⟨hk_4, hw⟩ := hw
    refine g_lastore C hk_4 (i := 0) (vp_lit rfl) dL_reason_9 ?_
    refine g_nmM (fun M_5 eM_5 => ?_)
    have hw := hw M_5 eM_5
    refine g_goto C dL_reason_10 (tgt := 21) (by decide) ?_
    refine g_iconst C dL_reason_21 (v := 0) rfl ?_
    exact g_iret C dL_reason_22 (Nat.le_of_ble_eq_true rfl) (Nat.le_of_ble_eq_true rfl) ⟨_, rfl, hw⟩
  · have hx := hx
    rcases hx with ⟨rfl, hw⟩ | ⟨rfl, hw⟩
    · refine g_catch C [] ⟨0, 10, 13, 13⟩ [⟨0, 10, 17, 24⟩] rfl (fun z hz => absurd hz List.not_mem_nil) rfl (by decide) tw230 (List.mem_of_getElem? (i := 0) rfl) (fun q5 => ?_)
      refine g_astore C dL_reason_13 (Nat.le_of_ble_eq_true rfl) (loc' := [(4, .ref q5), (0, gR E p1), (1, .int p2), (2, .int p3), (3, gR E p4)]) rfl ?_
      refine g_iconst C dL_reason_15 (v := 1) rfl ?_
      exact g_iret C dL_reason_16 (Nat.le_of_ble_eq_true rfl) (Nat.le_of_ble_eq_true rfl) ⟨_, rfl, hw⟩
    · refine g_catch C [⟨0, 10, 13, 13⟩] ⟨0, 10, 17, 24⟩ [] rfl (List.forall_mem_cons.mpr ⟨⟨by decide, "java/lang/IndexOutOfBoundsException", tw230, List.mem_of_getElem? (i := 1) rfl⟩, fun z hz => absurd hz List.not_mem_nil⟩) rfl (by decide) tw394 (List.mem_of_getElem? (i := 2) rfl) (fun q5 => ?_)
      refine g_astore C dL_reason_17 (Nat.le_of_ble_eq_true rfl) (loc' := [(4, .ref q5), (0, gR E p1), (1, .int p2), (2, .int p3), (3, gR E p4)]) rfl ?_
      refine g_iconst C dL_reason_19 (v := 2) rfl ?_
      exact g_iret C dL_reason_20 (Nat.le_of_ble_eq_true rfl) (Nat.le_of_ble_eq_true rfl) ⟨_, rfl, hw⟩
theorem gc_L_reason : ∀ rm : Room, rmL_reason.frames + 1 ≤ rm.frames → 8 + (5 + 11) + rmL_reason.locals ≤ rm.locals → gCall yL_reason 5 4 rmL_reason rm := fun rm a b => ⟨Or.inr ⟨_, _, _, tw722⟩, tw0, ⟨by decide, by decide⟩, by decide, a, b⟩
abbrev rmL_needed : Room := { frames := 8, cells := 4, slots := 24, locals := 157 }
def wp_L_needed (p1 : Nat) (p2 : Int32) (p3 : Int32) (p4 : Nat) (M : MEM) (Q : Int32 → MEM → Prop) : Prop := KD p1 = (15, 0) ∧ wp_X5_needed p1 p2 p3 M (fun r_1 M_2 => (KD p4 = (2, 1) ∧ (∀ M_5 : MEM, M_5 = uL M_2 p4 0 r_1.toInt64 → (Q 0 M_5)))) (fun En M5x => (En = "java/lang/IndexOutOfBoundsException" ∧ (Q 1 M5x)) ∨ (En = "java/lang/IllegalStateException" ∧ (Q 2 M5x)) ∨ (En = "java/util/NoSuchElementException" ∧ (Q 3 M5x)))
set_option maxRecDepth 100000 in
set_option maxHeartbeats 4000000 in
theorem met_L_needed {l : Launch} (hl : l.stackTraces = false) {E : MK} {p1 : Nat} {p2 : Int32} {p3 : Int32} {p4 : Nat} {M : MEM} {Q : Int32 → MEM → Prop} (hw : wp_L_needed p1 p2 p3 p4 M Q) : gMet l E yL_needed rmL_needed [gR E p1, .int p2, .int p3, gR E p4] M (qI Q) gNo := by
  refine g_met hl (cc := cL_needed) (maxL := 5) (ret := (some .int)) (hh := [(0, 10, 13, 13), (0, 10, 17, 24), (0, 10, 21, 67)]) (loc := [(0, gR E p1), (1, .int p2), (2, .int p3), (3, gR E p4)]) (by decide +kernel) (Or.inr tw734) (Nat.le_of_ble_eq_true rfl) rfl (fun K hK C => ?_)
  have C : GC K E cL_needed RL 5 (some .int) [(0, 10, 13, 13), (0, 10, 17, 24), (0, 10, 21, 67)] rmL_needed := C
  refine g_aload_n C dL_needed_0 3 rfl rfl ?_
  refine g_iconst C dL_needed_1 (v := 0) rfl ?_
  refine g_aload_n C dL_needed_2 0 rfl rfl ?_
  refine g_iload_n C dL_needed_3 1 rfl rfl ?_
  refine g_iload_n C dL_needed_4 2 rfl rfl ?_
  obtain ⟨hk_3, hw⟩ := hw
  refine g_cV C dL_needed_5 (met_X5_needed C.st hw) (gc_X5_needed _ (Nat.le_of_ble_eq_true rfl) (Nat.le_of_ble_eq_true rfl)) tw735 tw736 tw737 (ci := 5) rfl (by decide) hk_3 rfl (Nat.le_of_ble_eq_true rfl) (c2 := 4) (s2 := 24) rfl rfl (Nat.le_of_ble_eq_true rfl) (Nat.le_of_ble_eq_true rfl) rfl (kI (fun r_1 M_2 hw => ?_)) (fun En5 M5x hx => ?_)
  · skip
    refine g_i2l C dL_needed_8 ?_
    obtain ⟨hk_4, hw⟩ := hw
    refine g_lastore C hk_4 (i := 0) (vp_lit rfl) dL_needed_9 ?_
    refine g_nmM (fun M_5 eM_5 => ?_)
    have hw := hw M_5 eM_5
    refine g_goto C dL_needed_10 (tgt := 25) (by decide) ?_
    refine g_iconst C dL_needed_25 (v := 0) rfl ?_
    exact g_iret C dL_needed_26 (Nat.le_of_ble_eq_true rfl) (Nat.le_of_ble_eq_true rfl) ⟨_, rfl, hw⟩
  · have hx := hx
    rcases hx with ⟨rfl, hw⟩ | ⟨rfl, hw⟩ | ⟨rfl, hw⟩
    · refine g_catch C [] ⟨0, 10, 13, 13⟩ [⟨0, 10, 17, 24⟩, ⟨0, 10, 21, 67⟩] rfl (fun z hz => absurd hz List.not_mem_nil) rfl (by decide) tw230 (List.mem_of_getElem? (i := 0) rfl) (fun q5 => ?_)
      refine g_astore C dL_needed_13 (Nat.le_of_ble_eq_true rfl) (loc' := [(4, .ref q5), (0, gR E p1), (1, .int p2), (2, .int p3), (3, gR E p4)]) rfl ?_
      refine g_iconst C dL_needed_15 (v := 1) rfl ?_
      exact g_iret C dL_needed_16 (Nat.le_of_ble_eq_true rfl) (Nat.le_of_ble_eq_true rfl) ⟨_, rfl, hw⟩
    · refine g_catch C [⟨0, 10, 13, 13⟩] ⟨0, 10, 17, 24⟩ [⟨0, 10, 21, 67⟩] rfl (List.forall_mem_cons.mpr ⟨⟨by decide, "java/lang/IndexOutOfBoundsException", tw230, List.mem_of_getElem? (i := 1) rfl⟩, fun z hz => absurd hz List.not_mem_nil⟩) rfl (by decide) tw394 (List.mem_of_getElem? (i := 2) rfl) (fun q5 => ?_)
      refine g_astore C dL_needed_17 (Nat.le_of_ble_eq_true rfl) (loc' := [(4, .ref q5), (0, gR E p1), (1, .int p2), (2, .int p3), (3, gR E p4)]) rfl ?_
      refine g_iconst C dL_needed_19 (v := 2) rfl ?_
      exact g_iret C dL_needed_20 (Nat.le_of_ble_eq_true rfl) (Nat.le_of_ble_eq_true rfl) ⟨_, rfl, hw⟩
    · refine g_catch C [⟨0, 10, 13, 13⟩, ⟨0, 10, 17, 24⟩] ⟨0, 10, 21, 67⟩ [] rfl (List.forall_mem_cons.mpr ⟨⟨by decide, "java/lang/IndexOutOfBoundsException", tw230, List.mem_of_getElem? (i := 4) rfl⟩, List.forall_mem_cons.mpr ⟨⟨by decide, "java/lang/IllegalStateException", tw394, List.mem_of_getElem? (i := 14) rfl⟩, fun z hz => absurd hz List.not_mem_nil⟩⟩) rfl (by decide) tw687 (List.mem_of_getElem? (i := 5) rfl) (fun q5 => ?_)
      refine g_astore C dL_needed_21 (Nat.le_of_ble_eq_true rfl) (loc' := [(4, .ref q5), (0, gR E p1), (1, .int p2), (2, .int p3), (3, gR E p4)]) rfl ?_
      refine g_iconst C dL_needed_23 (v := 3) rfl ?_
      exact g_iret C dL_needed_24 (Nat.le_of_ble_eq_true rfl) (Nat.le_of_ble_eq_true rfl) ⟨_, rfl, hw⟩
theorem gc_L_needed : ∀ rm : Room, rmL_needed.frames + 1 ≤ rm.frames → 8 + (5 + 11) + rmL_needed.locals ≤ rm.locals → gCall yL_needed 5 4 rmL_needed rm := fun rm a b => ⟨Or.inr ⟨_, _, _, tw734⟩, tw0, ⟨by decide, by decide⟩, by decide, a, b⟩
abbrev rmL_margin : Room := { frames := 8, cells := 4, slots := 24, locals := 157 }
def wp_L_margin (p1 : Nat) (p2 : Int32) (p3 : Int32) (p4 : Nat) (M : MEM) (Q : Int32 → MEM → Prop) : Prop := KD p1 = (15, 0) ∧ wp_X5_margin p1 p2 p3 M (fun r_1 M_2 => (KD p4 = (2, 1) ∧ (∀ M_5 : MEM, M_5 = uL M_2 p4 0 r_1.toInt64 → (Q 0 M_5)))) (fun En M5x => (En = "java/lang/IndexOutOfBoundsException" ∧ (Q 1 M5x)) ∨ (En = "java/lang/IllegalStateException" ∧ (Q 2 M5x)) ∨ (En = "java/util/NoSuchElementException" ∧ (Q 3 M5x)))
set_option maxRecDepth 100000 in
set_option maxHeartbeats 4000000 in
theorem met_L_margin {l : Launch} (hl : l.stackTraces = false) {E : MK} {p1 : Nat} {p2 : Int32} {p3 : Int32} {p4 : Nat} {M : MEM} {Q : Int32 → MEM → Prop} (hw : wp_L_margin p1 p2 p3 p4 M Q) : gMet l E yL_margin rmL_margin [gR E p1, .int p2, .int p3, gR E p4] M (qI Q) gNo := by
  refine g_met hl (cc := cL_margin) (maxL := 5) (ret := (some .int)) (hh := [(0, 10, 13, 13), (0, 10, 17, 24), (0, 10, 21, 67)]) (loc := [(0, gR E p1), (1, .int p2), (2, .int p3), (3, gR E p4)]) (by decide +kernel) (Or.inr tw742) (Nat.le_of_ble_eq_true rfl) rfl (fun K hK C => ?_)
  have C : GC K E cL_margin RL 5 (some .int) [(0, 10, 13, 13), (0, 10, 17, 24), (0, 10, 21, 67)] rmL_margin := C
  refine g_aload_n C dL_margin_0 3 rfl rfl ?_
  refine g_iconst C dL_margin_1 (v := 0) rfl ?_
  refine g_aload_n C dL_margin_2 0 rfl rfl ?_
  refine g_iload_n C dL_margin_3 1 rfl rfl ?_
  refine g_iload_n C dL_margin_4 2 rfl rfl ?_
  obtain ⟨hk_3, hw⟩ := hw
  refine g_cV C dL_margin_5 (met_X5_margin C.st hw) (gc_X5_margin _ (Nat.le_of_ble_eq_true rfl) (Nat.le_of_ble_eq_true rfl)) tw743 tw744 tw745 (ci := 5) rfl (by decide) hk_3 rfl (Nat.le_of_ble_eq_true rfl) (c2 := 4) (s2 := 24) rfl rfl (Nat.le_of_ble_eq_true rfl) (Nat.le_of_ble_eq_true rfl) rfl (kI (fun r_1 M_2 hw => ?_)) (fun En5 M5x hx => ?_)
  · skip
    refine g_i2l C dL_margin_8 ?_
    obtain ⟨hk_4, hw⟩ := hw
    refine g_lastore C hk_4 (i := 0) (vp_lit rfl) dL_margin_9 ?_
    refine g_nmM (fun M_5 eM_5 => ?_)
    have hw := hw M_5 eM_5
    refine g_goto C dL_margin_10 (tgt := 25) (by decide) ?_
    refine g_iconst C dL_margin_25 (v := 0) rfl ?_
    exact g_iret C dL_margin_26 (Nat.le_of_ble_eq_true rfl) (Nat.le_of_ble_eq_true rfl) ⟨_, rfl, hw⟩
  · have hx := hx
    rcases hx with ⟨rfl, hw⟩ | ⟨rfl, hw⟩ | ⟨rfl, hw⟩
    · refine g_catch C [] ⟨0, 10, 13, 13⟩ [⟨0, 10, 17, 24⟩, ⟨0, 10, 21, 67⟩] rfl (fun z hz => absurd hz List.not_mem_nil) rfl (by decide) tw230 (List.mem_of_getElem? (i := 0) rfl) (fun q5 => ?_)
      refine g_astore C dL_margin_13 (Nat.le_of_ble_eq_true rfl) (loc' := [(4, .ref q5), (0, gR E p1), (1, .int p2), (2, .int p3), (3, gR E p4)]) rfl ?_
      refine g_iconst C dL_margin_15 (v := 1) rfl ?_
      exact g_iret C dL_margin_16 (Nat.le_of_ble_eq_true rfl) (Nat.le_of_ble_eq_true rfl) ⟨_, rfl, hw⟩
    · refine g_catch C [⟨0, 10, 13, 13⟩] ⟨0, 10, 17, 24⟩ [⟨0, 10, 21, 67⟩] rfl (List.forall_mem_cons.mpr ⟨⟨by decide, "java/lang/IndexOutOfBoundsException", tw230, List.mem_of_getElem? (i := 1) rfl⟩, fun z hz => absurd hz List.not_mem_nil⟩) rfl (by decide) tw394 (List.mem_of_getElem? (i := 2) rfl) (fun q5 => ?_)
      refine g_astore C dL_margin_17 (Nat.le_of_ble_eq_true rfl) (loc' := [(4, .ref q5), (0, gR E p1), (1, .int p2), (2, .int p3), (3, gR E p4)]) rfl ?_
      refine g_iconst C dL_margin_19 (v := 2) rfl ?_
      exact g_iret C dL_margin_20 (Nat.le_of_ble_eq_true rfl) (Nat.le_of_ble_eq_true rfl) ⟨_, rfl, hw⟩
    · refine g_catch C [⟨0, 10, 13, 13⟩, ⟨0, 10, 17, 24⟩] ⟨0, 10, 21, 67⟩ [] rfl (List.forall_mem_cons.mpr ⟨⟨by decide, "java/lang/IndexOutOfBoundsException", tw230, List.mem_of_getElem? (i := 4) rfl⟩, List.forall_mem_cons.mpr ⟨⟨by decide, "java/lang/IllegalStateException", tw394, List.mem_of_getElem? (i := 14) rfl⟩, fun z hz => absurd hz List.not_mem_nil⟩⟩) rfl (by decide) tw687 (List.mem_of_getElem? (i := 5) rfl) (fun q5 => ?_)
      refine g_astore C dL_margin_21 (Nat.le_of_ble_eq_true rfl) (loc' := [(4, .ref q5), (0, gR E p1), (1, .int p2), (2, .int p3), (3, gR E p4)]) rfl ?_
      refine g_iconst C dL_margin_23 (v := 3) rfl ?_
      exact g_iret C dL_margin_24 (Nat.le_of_ble_eq_true rfl) (Nat.le_of_ble_eq_true rfl) ⟨_, rfl, hw⟩
theorem gc_L_margin : ∀ rm : Room, rmL_margin.frames + 1 ≤ rm.frames → 8 + (5 + 11) + rmL_margin.locals ≤ rm.locals → gCall yL_margin 5 4 rmL_margin rm := fun rm a b => ⟨Or.inr ⟨_, _, _, tw742⟩, tw0, ⟨by decide, by decide⟩, by decide, a, b⟩
abbrev rmL_stratum : Room := { frames := 8, cells := 4, slots := 24, locals := 161 }
def wp_L_stratum (p1 : Nat) (p2 : Int32) (p3 : Int32) (p4 : Int32) (p5 : Nat) (M : MEM) (Q : Int32 → MEM → Prop) : Prop := KD p1 = (15, 0) ∧ wp_X5_stratum p1 p2 p3 p4 M (fun r_1 M_2 => (KD p5 = (2, 1) ∧ (∀ M_5 : MEM, M_5 = uL M_2 p5 0 r_1.toInt64 → (Q 0 M_5)))) (fun En M7x => (En = "java/lang/IndexOutOfBoundsException" ∧ (Q 1 M7x)) ∨ (En = "java/lang/IllegalArgumentException" ∧ (Q 2 M7x)) ∨ (En = "java/lang/IllegalStateException" ∧ (Q 3 M7x)))
set_option maxRecDepth 100000 in
set_option maxHeartbeats 4000000 in
theorem met_L_stratum {l : Launch} (hl : l.stackTraces = false) {E : MK} {p1 : Nat} {p2 : Int32} {p3 : Int32} {p4 : Int32} {p5 : Nat} {M : MEM} {Q : Int32 → MEM → Prop} (hw : wp_L_stratum p1 p2 p3 p4 p5 M Q) : gMet l E yL_stratum rmL_stratum [gR E p1, .int p2, .int p3, .int p4, gR E p5] M (qI Q) gNo := by
  refine g_met hl (cc := cL_stratum) (maxL := 6) (ret := (some .int)) (hh := [(0, 12, 15, 13), (0, 12, 19, 15), (0, 12, 23, 24)]) (loc := [(0, gR E p1), (1, .int p2), (2, .int p3), (3, .int p4), (4, gR E p5)]) (by decide +kernel) (Or.inr tw750) (Nat.le_of_ble_eq_true rfl) rfl (fun K hK C => ?_)
  have C : GC K E cL_stratum RL 6 (some .int) [(0, 12, 15, 13), (0, 12, 19, 15), (0, 12, 23, 24)] rmL_stratum := C
  refine g_aload C (j := 0) dL_stratum_0 4 rfl ?_
  refine g_iconst C dL_stratum_2 (v := 0) rfl ?_
  refine g_aload_n C dL_stratum_3 0 rfl rfl ?_
  refine g_iload_n C dL_stratum_4 1 rfl rfl ?_
  refine g_iload_n C dL_stratum_5 2 rfl rfl ?_
  refine g_iload_n C dL_stratum_6 3 rfl rfl ?_
  obtain ⟨hk_3, hw⟩ := hw
  refine g_cV C dL_stratum_7 (met_X5_stratum C.st hw) (gc_X5_stratum _ (Nat.le_of_ble_eq_true rfl) (Nat.le_of_ble_eq_true rfl)) tw751 tw752 tw753 (ci := 5) rfl (by decide) hk_3 rfl (Nat.le_of_ble_eq_true rfl) (c2 := 4) (s2 := 24) rfl rfl (Nat.le_of_ble_eq_true rfl) (Nat.le_of_ble_eq_true rfl) rfl (kI (fun r_1 M_2 hw => ?_)) (fun En7 M7x hx => ?_)
  · skip
    refine g_i2l C dL_stratum_10 ?_
    obtain ⟨hk_4, hw⟩ := hw
    refine g_lastore C hk_4 (i := 0) (vp_lit rfl) dL_stratum_11 ?_
    refine g_nmM (fun M_5 eM_5 => ?_)
    have hw := hw M_5 eM_5
    refine g_goto C dL_stratum_12 (tgt := 27) (by decide) ?_
    refine g_iconst C dL_stratum_27 (v := 0) rfl ?_
    exact g_iret C dL_stratum_28 (Nat.le_of_ble_eq_true rfl) (Nat.le_of_ble_eq_true rfl) ⟨_, rfl, hw⟩
  · have hx := hx
    rcases hx with ⟨rfl, hw⟩ | ⟨rfl, hw⟩ | ⟨rfl, hw⟩
    · refine g_catch C [] ⟨0, 12, 15, 13⟩ [⟨0, 12, 19, 15⟩, ⟨0, 12, 23, 24⟩] rfl (fun z hz => absurd hz List.not_mem_nil) rfl (by decide) tw230 (List.mem_of_getElem? (i := 0) rfl) (fun q7 => ?_)
      refine g_astore C dL_stratum_15 (Nat.le_of_ble_eq_true rfl) (loc' := [(5, .ref q7), (0, gR E p1), (1, .int p2), (2, .int p3), (3, .int p4), (4, gR E p5)]) rfl ?_
      refine g_iconst C dL_stratum_17 (v := 1) rfl ?_
      exact g_iret C dL_stratum_18 (Nat.le_of_ble_eq_true rfl) (Nat.le_of_ble_eq_true rfl) ⟨_, rfl, hw⟩
    · refine g_catch C [⟨0, 12, 15, 13⟩] ⟨0, 12, 19, 15⟩ [⟨0, 12, 23, 24⟩] rfl (List.forall_mem_cons.mpr ⟨⟨by decide, "java/lang/IndexOutOfBoundsException", tw230, List.mem_of_getElem? (i := 0) rfl⟩, fun z hz => absurd hz List.not_mem_nil⟩) rfl (by decide) tw310 (List.mem_of_getElem? (i := 1) rfl) (fun q7 => ?_)
      refine g_astore C dL_stratum_19 (Nat.le_of_ble_eq_true rfl) (loc' := [(5, .ref q7), (0, gR E p1), (1, .int p2), (2, .int p3), (3, .int p4), (4, gR E p5)]) rfl ?_
      refine g_iconst C dL_stratum_21 (v := 2) rfl ?_
      exact g_iret C dL_stratum_22 (Nat.le_of_ble_eq_true rfl) (Nat.le_of_ble_eq_true rfl) ⟨_, rfl, hw⟩
    · refine g_catch C [⟨0, 12, 15, 13⟩, ⟨0, 12, 19, 15⟩] ⟨0, 12, 23, 24⟩ [] rfl (List.forall_mem_cons.mpr ⟨⟨by decide, "java/lang/IndexOutOfBoundsException", tw230, List.mem_of_getElem? (i := 1) rfl⟩, List.forall_mem_cons.mpr ⟨⟨by decide, "java/lang/IllegalArgumentException", tw310, List.mem_of_getElem? (i := 6) rfl⟩, fun z hz => absurd hz List.not_mem_nil⟩⟩) rfl (by decide) tw394 (List.mem_of_getElem? (i := 2) rfl) (fun q7 => ?_)
      refine g_astore C dL_stratum_23 (Nat.le_of_ble_eq_true rfl) (loc' := [(5, .ref q7), (0, gR E p1), (1, .int p2), (2, .int p3), (3, .int p4), (4, gR E p5)]) rfl ?_
      refine g_iconst C dL_stratum_25 (v := 3) rfl ?_
      exact g_iret C dL_stratum_26 (Nat.le_of_ble_eq_true rfl) (Nat.le_of_ble_eq_true rfl) ⟨_, rfl, hw⟩
theorem gc_L_stratum : ∀ rm : Room, rmL_stratum.frames + 1 ≤ rm.frames → 8 + (6 + 11) + rmL_stratum.locals ≤ rm.locals → gCall yL_stratum 6 5 rmL_stratum rm := fun rm a b => ⟨Or.inr ⟨_, _, _, tw750⟩, tw0, ⟨by decide, by decide⟩, by decide, a, b⟩
abbrev rmL_estimateKeys : Room := { frames := 8, cells := 2, slots := 12, locals := 158 }
def wp_L_estimateKeys (p1 : Nat) (p2 : Int32) (p3 : Int32) (p4 : Int32) (p5 : Int32) (p6 : Nat) (M : MEM) (Q : Int32 → MEM → Prop) : Prop := KD p1 = (15, 0) ∧ wp_X5_estimateKeys p1 p2 p3 p4 p5 M (fun r_1 M_2 => (KD p6 = (2, 1) ∧ (∀ M_5 : MEM, M_5 = uL M_2 p6 0 r_1 → (Q 0 M_5)))) (fun En M9x => (En = "java/lang/IndexOutOfBoundsException" ∧ (Q 1 M9x)) ∨ (En = "java/lang/IllegalStateException" ∧ (Q 2 M9x)))
set_option maxRecDepth 100000 in
set_option maxHeartbeats 4000000 in
theorem met_L_estimateKeys {l : Launch} (hl : l.stackTraces = false) {E : MK} {p1 : Nat} {p2 : Int32} {p3 : Int32} {p4 : Int32} {p5 : Int32} {p6 : Nat} {M : MEM} {Q : Int32 → MEM → Prop} (hw : wp_L_estimateKeys p1 p2 p3 p4 p5 p6 M Q) : gMet l E yL_estimateKeys rmL_estimateKeys [gR E p1, .int p2, .int p3, .int p4, .int p5, gR E p6] M (qI Q) gNo := by
  refine g_met hl (cc := cL_estimateKeys) (maxL := 7) (ret := (some .int)) (hh := [(0, 13, 16, 13), (0, 13, 20, 24)]) (loc := [(0, gR E p1), (1, .int p2), (2, .int p3), (3, .int p4), (4, .int p5), (5, gR E p6)]) (by decide +kernel) (Or.inr tw757) (Nat.le_of_ble_eq_true rfl) rfl (fun K hK C => ?_)
  have C : GC K E cL_estimateKeys RL 7 (some .int) [(0, 13, 16, 13), (0, 13, 20, 24)] rmL_estimateKeys := C
  refine g_aload C (j := 0) dL_estimateKeys_0 5 rfl ?_
  refine g_iconst C dL_estimateKeys_2 (v := 0) rfl ?_
  refine g_aload_n C dL_estimateKeys_3 0 rfl rfl ?_
  refine g_iload_n C dL_estimateKeys_4 1 rfl rfl ?_
  refine g_iload_n C dL_estimateKeys_5 2 rfl rfl ?_
  refine g_iload_n C dL_estimateKeys_6 3 rfl rfl ?_
  refine g_iload C (j := 0) dL_estimateKeys_7 4 rfl ?_
  obtain ⟨hk_3, hw⟩ := hw
  refine g_cV C dL_estimateKeys_9 (met_X5_estimateKeys C.st hw) (gc_X5_estimateKeys _ (Nat.le_of_ble_eq_true rfl) (Nat.le_of_ble_eq_true rfl)) tw758 tw759 tw760 (ci := 5) rfl (by decide) hk_3 rfl (Nat.le_of_ble_eq_true rfl) (c2 := 2) (s2 := 12) rfl rfl (Nat.le_of_ble_eq_true rfl) (Nat.le_of_ble_eq_true rfl) rfl (kL (fun r_1 M_2 hw => ?_)) (fun En9 M9x hx => ?_)
  · skip
    obtain ⟨hk_4, hw⟩ := hw
    refine g_lastore C hk_4 (i := 0) (vp_lit rfl) dL_estimateKeys_12 ?_
    refine g_nmM (fun M_5 eM_5 => ?_)
    have hw := hw M_5 eM_5
    refine g_goto C dL_estimateKeys_13 (tgt := 24) (by decide) ?_
    refine g_iconst C dL_estimateKeys_24 (v := 0) rfl ?_
    exact g_iret C dL_estimateKeys_25 (Nat.le_of_ble_eq_true rfl) (Nat.le_of_ble_eq_true rfl) ⟨_, rfl, hw⟩
  · have hx := hx
    rcases hx with ⟨rfl, hw⟩ | ⟨rfl, hw⟩
    · refine g_catch C [] ⟨0, 13, 16, 13⟩ [⟨0, 13, 20, 24⟩] rfl (fun z hz => absurd hz List.not_mem_nil) rfl (by decide) tw230 (List.mem_of_getElem? (i := 0) rfl) (fun q9 => ?_)
      refine g_astore C dL_estimateKeys_16 (Nat.le_of_ble_eq_true rfl) (loc' := [(6, .ref q9), (0, gR E p1), (1, .int p2), (2, .int p3), (3, .int p4), (4, .int p5), (5, gR E p6)]) rfl ?_
      refine g_iconst C dL_estimateKeys_18 (v := 1) rfl ?_
      exact g_iret C dL_estimateKeys_19 (Nat.le_of_ble_eq_true rfl) (Nat.le_of_ble_eq_true rfl) ⟨_, rfl, hw⟩
    · refine g_catch C [⟨0, 13, 16, 13⟩] ⟨0, 13, 20, 24⟩ [] rfl (List.forall_mem_cons.mpr ⟨⟨by decide, "java/lang/IndexOutOfBoundsException", tw230, List.mem_of_getElem? (i := 1) rfl⟩, fun z hz => absurd hz List.not_mem_nil⟩) rfl (by decide) tw394 (List.mem_of_getElem? (i := 2) rfl) (fun q9 => ?_)
      refine g_astore C dL_estimateKeys_20 (Nat.le_of_ble_eq_true rfl) (loc' := [(6, .ref q9), (0, gR E p1), (1, .int p2), (2, .int p3), (3, .int p4), (4, .int p5), (5, gR E p6)]) rfl ?_
      refine g_iconst C dL_estimateKeys_22 (v := 2) rfl ?_
      exact g_iret C dL_estimateKeys_23 (Nat.le_of_ble_eq_true rfl) (Nat.le_of_ble_eq_true rfl) ⟨_, rfl, hw⟩
theorem gc_L_estimateKeys : ∀ rm : Room, rmL_estimateKeys.frames + 1 ≤ rm.frames → 8 + (7 + 11) + rmL_estimateKeys.locals ≤ rm.locals → gCall yL_estimateKeys 7 6 rmL_estimateKeys rm := fun rm a b => ⟨Or.inr ⟨_, _, _, tw757⟩, tw0, ⟨by decide, by decide⟩, by decide, a, b⟩
abbrev rmL_estimate : Room := { frames := 8, cells := 3, slots := 18, locals := 157 }
def wp_L_estimate (p1 : Nat) (p2 : Int32) (p3 : Int32) (p4 : Nat) (M : MEM) (Q : Int32 → MEM → Prop) : Prop := KD p1 = (15, 0) ∧ wp_X5_estimate p1 p2 p3 M (fun r_1 M_2 => (KD p4 = (2, 1) ∧ (∀ M_5 : MEM, M_5 = uL M_2 p4 0 r_1 → (Q 0 M_5)))) (fun En M5x => (En = "java/lang/IndexOutOfBoundsException" ∧ (Q 1 M5x)) ∨ (En = "java/lang/IllegalArgumentException" ∧ (Q 2 M5x)) ∨ (En = "java/lang/IllegalStateException" ∧ (Q 3 M5x)))
set_option maxRecDepth 100000 in
set_option maxHeartbeats 4000000 in
theorem met_L_estimate {l : Launch} (hl : l.stackTraces = false) {E : MK} {p1 : Nat} {p2 : Int32} {p3 : Int32} {p4 : Nat} {M : MEM} {Q : Int32 → MEM → Prop} (hw : wp_L_estimate p1 p2 p3 p4 M Q) : gMet l E yL_estimate rmL_estimate [gR E p1, .int p2, .int p3, gR E p4] M (qI Q) gNo := by
  refine g_met hl (cc := cL_estimate) (maxL := 5) (ret := (some .int)) (hh := [(0, 9, 12, 13), (0, 9, 16, 15), (0, 9, 20, 24)]) (loc := [(0, gR E p1), (1, .int p2), (2, .int p3), (3, gR E p4)]) (by decide +kernel) (Or.inr tw798) (Nat.le_of_ble_eq_true rfl) rfl (fun K hK C => ?_)
  have C : GC K E cL_estimate RL 5 (some .int) [(0, 9, 12, 13), (0, 9, 16, 15), (0, 9, 20, 24)] rmL_estimate := C
  refine g_aload_n C dL_estimate_0 3 rfl rfl ?_
  refine g_iconst C dL_estimate_1 (v := 0) rfl ?_
  refine g_aload_n C dL_estimate_2 0 rfl rfl ?_
  refine g_iload_n C dL_estimate_3 1 rfl rfl ?_
  refine g_iload_n C dL_estimate_4 2 rfl rfl ?_
  obtain ⟨hk_3, hw⟩ := hw
  refine g_cV C dL_estimate_5 (met_X5_estimate C.st hw) (gc_X5_estimate _ (Nat.le_of_ble_eq_true rfl) (Nat.le_of_ble_eq_true rfl)) tw799 tw800 tw801 (ci := 5) rfl (by decide) hk_3 rfl (Nat.le_of_ble_eq_true rfl) (c2 := 3) (s2 := 18) rfl rfl (Nat.le_of_ble_eq_true rfl) (Nat.le_of_ble_eq_true rfl) rfl (kL (fun r_1 M_2 hw => ?_)) (fun En5 M5x hx => ?_)
  · skip
    obtain ⟨hk_4, hw⟩ := hw
    refine g_lastore C hk_4 (i := 0) (vp_lit rfl) dL_estimate_8 ?_
    refine g_nmM (fun M_5 eM_5 => ?_)
    have hw := hw M_5 eM_5
    refine g_goto C dL_estimate_9 (tgt := 24) (by decide) ?_
    refine g_iconst C dL_estimate_24 (v := 0) rfl ?_
    exact g_iret C dL_estimate_25 (Nat.le_of_ble_eq_true rfl) (Nat.le_of_ble_eq_true rfl) ⟨_, rfl, hw⟩
  · have hx := hx
    rcases hx with ⟨rfl, hw⟩ | ⟨rfl, hw⟩ | ⟨rfl, hw⟩
    · refine g_catch C [] ⟨0, 9, 12, 13⟩ [⟨0, 9, 16, 15⟩, ⟨0, 9, 20, 24⟩] rfl (fun z hz => absurd hz List.not_mem_nil) rfl (by decide) tw230 (List.mem_of_getElem? (i := 0) rfl) (fun q5 => ?_)
      refine g_astore C dL_estimate_12 (Nat.le_of_ble_eq_true rfl) (loc' := [(4, .ref q5), (0, gR E p1), (1, .int p2), (2, .int p3), (3, gR E p4)]) rfl ?_
      refine g_iconst C dL_estimate_14 (v := 1) rfl ?_
      exact g_iret C dL_estimate_15 (Nat.le_of_ble_eq_true rfl) (Nat.le_of_ble_eq_true rfl) ⟨_, rfl, hw⟩
    · refine g_catch C [⟨0, 9, 12, 13⟩] ⟨0, 9, 16, 15⟩ [⟨0, 9, 20, 24⟩] rfl (List.forall_mem_cons.mpr ⟨⟨by decide, "java/lang/IndexOutOfBoundsException", tw230, List.mem_of_getElem? (i := 0) rfl⟩, fun z hz => absurd hz List.not_mem_nil⟩) rfl (by decide) tw310 (List.mem_of_getElem? (i := 1) rfl) (fun q5 => ?_)
      refine g_astore C dL_estimate_16 (Nat.le_of_ble_eq_true rfl) (loc' := [(4, .ref q5), (0, gR E p1), (1, .int p2), (2, .int p3), (3, gR E p4)]) rfl ?_
      refine g_iconst C dL_estimate_18 (v := 2) rfl ?_
      exact g_iret C dL_estimate_19 (Nat.le_of_ble_eq_true rfl) (Nat.le_of_ble_eq_true rfl) ⟨_, rfl, hw⟩
    · refine g_catch C [⟨0, 9, 12, 13⟩, ⟨0, 9, 16, 15⟩] ⟨0, 9, 20, 24⟩ [] rfl (List.forall_mem_cons.mpr ⟨⟨by decide, "java/lang/IndexOutOfBoundsException", tw230, List.mem_of_getElem? (i := 1) rfl⟩, List.forall_mem_cons.mpr ⟨⟨by decide, "java/lang/IllegalArgumentException", tw310, List.mem_of_getElem? (i := 6) rfl⟩, fun z hz => absurd hz List.not_mem_nil⟩⟩) rfl (by decide) tw394 (List.mem_of_getElem? (i := 2) rfl) (fun q5 => ?_)
      refine g_astore C dL_estimate_20 (Nat.le_of_ble_eq_true rfl) (loc' := [(4, .ref q5), (0, gR E p1), (1, .int p2), (2, .int p3), (3, gR E p4)]) rfl ?_
      refine g_iconst C dL_estimate_22 (v := 3) rfl ?_
      exact g_iret C dL_estimate_23 (Nat.le_of_ble_eq_true rfl) (Nat.le_of_ble_eq_true rfl) ⟨_, rfl, hw⟩
theorem gc_L_estimate : ∀ rm : Room, rmL_estimate.frames + 1 ≤ rm.frames → 8 + (5 + 11) + rmL_estimate.locals ≤ rm.locals → gCall yL_estimate 5 4 rmL_estimate rm := fun rm a b => ⟨Or.inr ⟨_, _, _, tw798⟩, tw0, ⟨by decide, by decide⟩, by decide, a, b⟩
abbrev rmL_truth : Room := { frames := 8, cells := 3, slots := 18, locals := 160 }
def wp_L_truth (p1 : Nat) (p2 : Int32) (p3 : Int32) (p4 : Nat) (M : MEM) (Q : Int32 → MEM → Prop) : Prop := KD p1 = (15, 0) ∧ wp_X5_truth p1 p2 p3 M (fun r_1 M_2 => (KD p4 = (2, 1) ∧ (∀ M_5 : MEM, M_5 = uL M_2 p4 0 r_1 → (Q 0 M_5)))) (fun En M5x => (En = "java/lang/IndexOutOfBoundsException" ∧ (Q 1 M5x)) ∨ (En = "java/lang/IllegalArgumentException" ∧ (Q 2 M5x)) ∨ (En = "java/lang/IllegalStateException" ∧ (Q 3 M5x)))
set_option maxRecDepth 100000 in
set_option maxHeartbeats 4000000 in
theorem met_L_truth {l : Launch} (hl : l.stackTraces = false) {E : MK} {p1 : Nat} {p2 : Int32} {p3 : Int32} {p4 : Nat} {M : MEM} {Q : Int32 → MEM → Prop} (hw : wp_L_truth p1 p2 p3 p4 M Q) : gMet l E yL_truth rmL_truth [gR E p1, .int p2, .int p3, gR E p4] M (qI Q) gNo := by
  refine g_met hl (cc := cL_truth) (maxL := 5) (ret := (some .int)) (hh := [(0, 9, 12, 13), (0, 9, 16, 15), (0, 9, 20, 24)]) (loc := [(0, gR E p1), (1, .int p2), (2, .int p3), (3, gR E p4)]) (by decide +kernel) (Or.inr tw806) (Nat.le_of_ble_eq_true rfl) rfl (fun K hK C => ?_)
  have C : GC K E cL_truth RL 5 (some .int) [(0, 9, 12, 13), (0, 9, 16, 15), (0, 9, 20, 24)] rmL_truth := C
  refine g_aload_n C dL_truth_0 3 rfl rfl ?_
  refine g_iconst C dL_truth_1 (v := 0) rfl ?_
  refine g_aload_n C dL_truth_2 0 rfl rfl ?_
  refine g_iload_n C dL_truth_3 1 rfl rfl ?_
  refine g_iload_n C dL_truth_4 2 rfl rfl ?_
  obtain ⟨hk_3, hw⟩ := hw
  refine g_cV C dL_truth_5 (met_X5_truth C.st hw) (gc_X5_truth _ (Nat.le_of_ble_eq_true rfl) (Nat.le_of_ble_eq_true rfl)) tw807 tw808 tw809 (ci := 5) rfl (by decide) hk_3 rfl (Nat.le_of_ble_eq_true rfl) (c2 := 3) (s2 := 18) rfl rfl (Nat.le_of_ble_eq_true rfl) (Nat.le_of_ble_eq_true rfl) rfl (kL (fun r_1 M_2 hw => ?_)) (fun En5 M5x hx => ?_)
  · skip
    obtain ⟨hk_4, hw⟩ := hw
    refine g_lastore C hk_4 (i := 0) (vp_lit rfl) dL_truth_8 ?_
    refine g_nmM (fun M_5 eM_5 => ?_)
    have hw := hw M_5 eM_5
    refine g_goto C dL_truth_9 (tgt := 24) (by decide) ?_
    refine g_iconst C dL_truth_24 (v := 0) rfl ?_
    exact g_iret C dL_truth_25 (Nat.le_of_ble_eq_true rfl) (Nat.le_of_ble_eq_true rfl) ⟨_, rfl, hw⟩
  · have hx := hx
    rcases hx with ⟨rfl, hw⟩ | ⟨rfl, hw⟩ | ⟨rfl, hw⟩
    · refine g_catch C [] ⟨0, 9, 12, 13⟩ [⟨0, 9, 16, 15⟩, ⟨0, 9, 20, 24⟩] rfl (fun z hz => absurd hz List.not_mem_nil) rfl (by decide) tw230 (List.mem_of_getElem? (i := 0) rfl) (fun q5 => ?_)
      refine g_astore C dL_truth_12 (Nat.le_of_ble_eq_true rfl) (loc' := [(4, .ref q5), (0, gR E p1), (1, .int p2), (2, .int p3), (3, gR E p4)]) rfl ?_
      refine g_iconst C dL_truth_14 (v := 1) rfl ?_
      exact g_iret C dL_truth_15 (Nat.le_of_ble_eq_true rfl) (Nat.le_of_ble_eq_true rfl) ⟨_, rfl, hw⟩
    · refine g_catch C [⟨0, 9, 12, 13⟩] ⟨0, 9, 16, 15⟩ [⟨0, 9, 20, 24⟩] rfl (List.forall_mem_cons.mpr ⟨⟨by decide, "java/lang/IndexOutOfBoundsException", tw230, List.mem_of_getElem? (i := 0) rfl⟩, fun z hz => absurd hz List.not_mem_nil⟩) rfl (by decide) tw310 (List.mem_of_getElem? (i := 1) rfl) (fun q5 => ?_)
      refine g_astore C dL_truth_16 (Nat.le_of_ble_eq_true rfl) (loc' := [(4, .ref q5), (0, gR E p1), (1, .int p2), (2, .int p3), (3, gR E p4)]) rfl ?_
      refine g_iconst C dL_truth_18 (v := 2) rfl ?_
      exact g_iret C dL_truth_19 (Nat.le_of_ble_eq_true rfl) (Nat.le_of_ble_eq_true rfl) ⟨_, rfl, hw⟩
    · refine g_catch C [⟨0, 9, 12, 13⟩, ⟨0, 9, 16, 15⟩] ⟨0, 9, 20, 24⟩ [] rfl (List.forall_mem_cons.mpr ⟨⟨by decide, "java/lang/IndexOutOfBoundsException", tw230, List.mem_of_getElem? (i := 1) rfl⟩, List.forall_mem_cons.mpr ⟨⟨by decide, "java/lang/IllegalArgumentException", tw310, List.mem_of_getElem? (i := 6) rfl⟩, fun z hz => absurd hz List.not_mem_nil⟩⟩) rfl (by decide) tw394 (List.mem_of_getElem? (i := 2) rfl) (fun q5 => ?_)
      refine g_astore C dL_truth_20 (Nat.le_of_ble_eq_true rfl) (loc' := [(4, .ref q5), (0, gR E p1), (1, .int p2), (2, .int p3), (3, gR E p4)]) rfl ?_
      refine g_iconst C dL_truth_22 (v := 3) rfl ?_
      exact g_iret C dL_truth_23 (Nat.le_of_ble_eq_true rfl) (Nat.le_of_ble_eq_true rfl) ⟨_, rfl, hw⟩
theorem gc_L_truth : ∀ rm : Room, rmL_truth.frames + 1 ≤ rm.frames → 8 + (5 + 11) + rmL_truth.locals ≤ rm.locals → gCall yL_truth 5 4 rmL_truth rm := fun rm a b => ⟨Or.inr ⟨_, _, _, tw806⟩, tw0, ⟨by decide, by decide⟩, by decide, a, b⟩
abbrev rmL_quantile : Room := { frames := 9, cells := 4, slots := 24, locals := 180 }
def wp_L_quantile (p1 : Nat) (p2 : Int32) (p3 : Int32) (p4 : Nat) (M : MEM) (Q : Int32 → MEM → Prop) : Prop := KD p1 = (15, 0) ∧ wp_X5_quantile p1 p2 p3 M (fun r_1 M_2 => (KD p4 = (2, 1) ∧ (∀ M_5 : MEM, M_5 = uL M_2 p4 0 r_1.toInt64 → (Q 0 M_5)))) (fun En M5x => (En = "java/lang/IndexOutOfBoundsException" ∧ (Q 1 M5x)) ∨ (En = "java/lang/IllegalArgumentException" ∧ (Q 2 M5x)) ∨ (En = "java/lang/IllegalStateException" ∧ (Q 3 M5x)) ∨ (En = "java/util/NoSuchElementException" ∧ (Q 4 M5x)))
set_option maxRecDepth 100000 in
set_option maxHeartbeats 4000000 in
theorem met_L_quantile {l : Launch} (hl : l.stackTraces = false) {E : MK} {p1 : Nat} {p2 : Int32} {p3 : Int32} {p4 : Nat} {M : MEM} {Q : Int32 → MEM → Prop} (hw : wp_L_quantile p1 p2 p3 p4 M Q) : gMet l E yL_quantile rmL_quantile [gR E p1, .int p2, .int p3, gR E p4] M (qI Q) gNo := by
  refine g_met hl (cc := cL_quantile) (maxL := 5) (ret := (some .int)) (hh := [(0, 10, 13, 13), (0, 10, 17, 15), (0, 10, 21, 24), (0, 10, 25, 67)]) (loc := [(0, gR E p1), (1, .int p2), (2, .int p3), (3, gR E p4)]) (by decide +kernel) (Or.inr tw813) (Nat.le_of_ble_eq_true rfl) rfl (fun K hK C => ?_)
  have C : GC K E cL_quantile RL 5 (some .int) [(0, 10, 13, 13), (0, 10, 17, 15), (0, 10, 21, 24), (0, 10, 25, 67)] rmL_quantile := C
  refine g_aload_n C dL_quantile_0 3 rfl rfl ?_
  refine g_iconst C dL_quantile_1 (v := 0) rfl ?_
  refine g_aload_n C dL_quantile_2 0 rfl rfl ?_
  refine g_iload_n C dL_quantile_3 1 rfl rfl ?_
  refine g_iload_n C dL_quantile_4 2 rfl rfl ?_
  obtain ⟨hk_3, hw⟩ := hw
  refine g_cV C dL_quantile_5 (met_X5_quantile C.st hw) (gc_X5_quantile _ (Nat.le_of_ble_eq_true rfl) (Nat.le_of_ble_eq_true rfl)) tw814 tw815 tw816 (ci := 5) rfl (by decide) hk_3 rfl (Nat.le_of_ble_eq_true rfl) (c2 := 4) (s2 := 24) rfl rfl (Nat.le_of_ble_eq_true rfl) (Nat.le_of_ble_eq_true rfl) rfl (kI (fun r_1 M_2 hw => ?_)) (fun En5 M5x hx => ?_)
  · skip
    refine g_i2l C dL_quantile_8 ?_
    obtain ⟨hk_4, hw⟩ := hw
    refine g_lastore C hk_4 (i := 0) (vp_lit rfl) dL_quantile_9 ?_
    refine g_nmM (fun M_5 eM_5 => ?_)
    have hw := hw M_5 eM_5
    refine g_goto C dL_quantile_10 (tgt := 29) (by decide) ?_
    refine g_iconst C dL_quantile_29 (v := 0) rfl ?_
    exact g_iret C dL_quantile_30 (Nat.le_of_ble_eq_true rfl) (Nat.le_of_ble_eq_true rfl) ⟨_, rfl, hw⟩
  · have hx := hx
    rcases hx with ⟨rfl, hw⟩ | ⟨rfl, hw⟩ | ⟨rfl, hw⟩ | ⟨rfl, hw⟩
    · refine g_catch C [] ⟨0, 10, 13, 13⟩ [⟨0, 10, 17, 15⟩, ⟨0, 10, 21, 24⟩, ⟨0, 10, 25, 67⟩] rfl (fun z hz => absurd hz List.not_mem_nil) rfl (by decide) tw230 (List.mem_of_getElem? (i := 0) rfl) (fun q5 => ?_)
      refine g_astore C dL_quantile_13 (Nat.le_of_ble_eq_true rfl) (loc' := [(4, .ref q5), (0, gR E p1), (1, .int p2), (2, .int p3), (3, gR E p4)]) rfl ?_
      refine g_iconst C dL_quantile_15 (v := 1) rfl ?_
      exact g_iret C dL_quantile_16 (Nat.le_of_ble_eq_true rfl) (Nat.le_of_ble_eq_true rfl) ⟨_, rfl, hw⟩
    · refine g_catch C [⟨0, 10, 13, 13⟩] ⟨0, 10, 17, 15⟩ [⟨0, 10, 21, 24⟩, ⟨0, 10, 25, 67⟩] rfl (List.forall_mem_cons.mpr ⟨⟨by decide, "java/lang/IndexOutOfBoundsException", tw230, List.mem_of_getElem? (i := 0) rfl⟩, fun z hz => absurd hz List.not_mem_nil⟩) rfl (by decide) tw310 (List.mem_of_getElem? (i := 1) rfl) (fun q5 => ?_)
      refine g_astore C dL_quantile_17 (Nat.le_of_ble_eq_true rfl) (loc' := [(4, .ref q5), (0, gR E p1), (1, .int p2), (2, .int p3), (3, gR E p4)]) rfl ?_
      refine g_iconst C dL_quantile_19 (v := 2) rfl ?_
      exact g_iret C dL_quantile_20 (Nat.le_of_ble_eq_true rfl) (Nat.le_of_ble_eq_true rfl) ⟨_, rfl, hw⟩
    · refine g_catch C [⟨0, 10, 13, 13⟩, ⟨0, 10, 17, 15⟩] ⟨0, 10, 21, 24⟩ [⟨0, 10, 25, 67⟩] rfl (List.forall_mem_cons.mpr ⟨⟨by decide, "java/lang/IndexOutOfBoundsException", tw230, List.mem_of_getElem? (i := 1) rfl⟩, List.forall_mem_cons.mpr ⟨⟨by decide, "java/lang/IllegalArgumentException", tw310, List.mem_of_getElem? (i := 6) rfl⟩, fun z hz => absurd hz List.not_mem_nil⟩⟩) rfl (by decide) tw394 (List.mem_of_getElem? (i := 2) rfl) (fun q5 => ?_)
      refine g_astore C dL_quantile_21 (Nat.le_of_ble_eq_true rfl) (loc' := [(4, .ref q5), (0, gR E p1), (1, .int p2), (2, .int p3), (3, gR E p4)]) rfl ?_
      refine g_iconst C dL_quantile_23 (v := 3) rfl ?_
      exact g_iret C dL_quantile_24 (Nat.le_of_ble_eq_true rfl) (Nat.le_of_ble_eq_true rfl) ⟨_, rfl, hw⟩
    · refine g_catch C [⟨0, 10, 13, 13⟩, ⟨0, 10, 17, 15⟩, ⟨0, 10, 21, 24⟩] ⟨0, 10, 25, 67⟩ [] rfl (List.forall_mem_cons.mpr ⟨⟨by decide, "java/lang/IndexOutOfBoundsException", tw230, List.mem_of_getElem? (i := 4) rfl⟩, List.forall_mem_cons.mpr ⟨⟨by decide, "java/lang/IllegalArgumentException", tw310, List.mem_of_getElem? (i := 9) rfl⟩, List.forall_mem_cons.mpr ⟨⟨by decide, "java/lang/IllegalStateException", tw394, List.mem_of_getElem? (i := 14) rfl⟩, fun z hz => absurd hz List.not_mem_nil⟩⟩⟩) rfl (by decide) tw687 (List.mem_of_getElem? (i := 5) rfl) (fun q5 => ?_)
      refine g_astore C dL_quantile_25 (Nat.le_of_ble_eq_true rfl) (loc' := [(4, .ref q5), (0, gR E p1), (1, .int p2), (2, .int p3), (3, gR E p4)]) rfl ?_
      refine g_iconst C dL_quantile_27 (v := 4) rfl ?_
      exact g_iret C dL_quantile_28 (Nat.le_of_ble_eq_true rfl) (Nat.le_of_ble_eq_true rfl) ⟨_, rfl, hw⟩
theorem gc_L_quantile : ∀ rm : Room, rmL_quantile.frames + 1 ≤ rm.frames → 8 + (5 + 11) + rmL_quantile.locals ≤ rm.locals → gCall yL_quantile 5 4 rmL_quantile rm := fun rm a b => ⟨Or.inr ⟨_, _, _, tw813⟩, tw0, ⟨by decide, by decide⟩, by decide, a, b⟩
abbrev rmL_resampled : Room := { frames := 9, cells := 4, slots := 24, locals := 185 }
def wp_L_resampled (p1 : Nat) (p2 : Int32) (p3 : Int32) (p4 : Int32) (p5 : Nat) (M : MEM) (Q : Int32 → MEM → Prop) : Prop := KD p1 = (15, 0) ∧ wp_X5_resampled p1 p2 p3 p4 M (fun r_1 M_2 => (KD p5 = (3, 1) ∧ (∀ M_5 : MEM, M_5 = uD M_2 p5 0 r_1 → (Q 0 M_5)))) (fun En M7x => (En = "java/lang/IndexOutOfBoundsException" ∧ (Q 1 M7x)) ∨ (En = "java/lang/IllegalArgumentException" ∧ (Q 2 M7x)) ∨ (En = "java/lang/IllegalStateException" ∧ (Q 3 M7x)) ∨ (En = "java/util/NoSuchElementException" ∧ (Q 4 M7x)))
set_option maxRecDepth 100000 in
set_option maxHeartbeats 4000000 in
theorem met_L_resampled {l : Launch} (hl : l.stackTraces = false) {E : MK} {p1 : Nat} {p2 : Int32} {p3 : Int32} {p4 : Int32} {p5 : Nat} {M : MEM} {Q : Int32 → MEM → Prop} (hw : wp_L_resampled p1 p2 p3 p4 p5 M Q) : gMet l E yL_resampled rmL_resampled [gR E p1, .int p2, .int p3, .int p4, gR E p5] M (qI Q) gNo := by
  refine g_met hl (cc := cL_resampled) (maxL := 6) (ret := (some .int)) (hh := [(0, 11, 14, 13), (0, 11, 18, 15), (0, 11, 22, 24), (0, 11, 26, 67)]) (loc := [(0, gR E p1), (1, .int p2), (2, .int p3), (3, .int p4), (4, gR E p5)]) (by decide +kernel) (Or.inr tw826) (Nat.le_of_ble_eq_true rfl) rfl (fun K hK C => ?_)
  have C : GC K E cL_resampled RL 6 (some .int) [(0, 11, 14, 13), (0, 11, 18, 15), (0, 11, 22, 24), (0, 11, 26, 67)] rmL_resampled := C
  refine g_aload C (j := 0) dL_resampled_0 4 rfl ?_
  refine g_iconst C dL_resampled_2 (v := 0) rfl ?_
  refine g_aload_n C dL_resampled_3 0 rfl rfl ?_
  refine g_iload_n C dL_resampled_4 1 rfl rfl ?_
  refine g_iload_n C dL_resampled_5 2 rfl rfl ?_
  refine g_iload_n C dL_resampled_6 3 rfl rfl ?_
  obtain ⟨hk_3, hw⟩ := hw
  refine g_cV C dL_resampled_7 (met_X5_resampled C.st hw) (gc_X5_resampled _ (Nat.le_of_ble_eq_true rfl) (Nat.le_of_ble_eq_true rfl)) tw827 tw828 tw829 (ci := 5) rfl (by decide) hk_3 rfl (Nat.le_of_ble_eq_true rfl) (c2 := 4) (s2 := 24) rfl rfl (Nat.le_of_ble_eq_true rfl) (Nat.le_of_ble_eq_true rfl) rfl (kD (fun r_1 M_2 hw => ?_)) (fun En7 M7x hx => ?_)
  · skip
    obtain ⟨hk_4, hw⟩ := hw
    refine g_dastore C hk_4 (i := 0) (vp_lit rfl) dL_resampled_10 ?_
    refine g_nmM (fun M_5 eM_5 => ?_)
    have hw := hw M_5 eM_5
    refine g_goto C dL_resampled_11 (tgt := 30) (by decide) ?_
    refine g_iconst C dL_resampled_30 (v := 0) rfl ?_
    exact g_iret C dL_resampled_31 (Nat.le_of_ble_eq_true rfl) (Nat.le_of_ble_eq_true rfl) ⟨_, rfl, hw⟩
  · have hx := hx
    rcases hx with ⟨rfl, hw⟩ | ⟨rfl, hw⟩ | ⟨rfl, hw⟩ | ⟨rfl, hw⟩
    · refine g_catch C [] ⟨0, 11, 14, 13⟩ [⟨0, 11, 18, 15⟩, ⟨0, 11, 22, 24⟩, ⟨0, 11, 26, 67⟩] rfl (fun z hz => absurd hz List.not_mem_nil) rfl (by decide) tw230 (List.mem_of_getElem? (i := 0) rfl) (fun q7 => ?_)
      refine g_astore C dL_resampled_14 (Nat.le_of_ble_eq_true rfl) (loc' := [(5, .ref q7), (0, gR E p1), (1, .int p2), (2, .int p3), (3, .int p4), (4, gR E p5)]) rfl ?_
      refine g_iconst C dL_resampled_16 (v := 1) rfl ?_
      exact g_iret C dL_resampled_17 (Nat.le_of_ble_eq_true rfl) (Nat.le_of_ble_eq_true rfl) ⟨_, rfl, hw⟩
    · refine g_catch C [⟨0, 11, 14, 13⟩] ⟨0, 11, 18, 15⟩ [⟨0, 11, 22, 24⟩, ⟨0, 11, 26, 67⟩] rfl (List.forall_mem_cons.mpr ⟨⟨by decide, "java/lang/IndexOutOfBoundsException", tw230, List.mem_of_getElem? (i := 0) rfl⟩, fun z hz => absurd hz List.not_mem_nil⟩) rfl (by decide) tw310 (List.mem_of_getElem? (i := 1) rfl) (fun q7 => ?_)
      refine g_astore C dL_resampled_18 (Nat.le_of_ble_eq_true rfl) (loc' := [(5, .ref q7), (0, gR E p1), (1, .int p2), (2, .int p3), (3, .int p4), (4, gR E p5)]) rfl ?_
      refine g_iconst C dL_resampled_20 (v := 2) rfl ?_
      exact g_iret C dL_resampled_21 (Nat.le_of_ble_eq_true rfl) (Nat.le_of_ble_eq_true rfl) ⟨_, rfl, hw⟩
    · refine g_catch C [⟨0, 11, 14, 13⟩, ⟨0, 11, 18, 15⟩] ⟨0, 11, 22, 24⟩ [⟨0, 11, 26, 67⟩] rfl (List.forall_mem_cons.mpr ⟨⟨by decide, "java/lang/IndexOutOfBoundsException", tw230, List.mem_of_getElem? (i := 1) rfl⟩, List.forall_mem_cons.mpr ⟨⟨by decide, "java/lang/IllegalArgumentException", tw310, List.mem_of_getElem? (i := 6) rfl⟩, fun z hz => absurd hz List.not_mem_nil⟩⟩) rfl (by decide) tw394 (List.mem_of_getElem? (i := 2) rfl) (fun q7 => ?_)
      refine g_astore C dL_resampled_22 (Nat.le_of_ble_eq_true rfl) (loc' := [(5, .ref q7), (0, gR E p1), (1, .int p2), (2, .int p3), (3, .int p4), (4, gR E p5)]) rfl ?_
      refine g_iconst C dL_resampled_24 (v := 3) rfl ?_
      exact g_iret C dL_resampled_25 (Nat.le_of_ble_eq_true rfl) (Nat.le_of_ble_eq_true rfl) ⟨_, rfl, hw⟩
    · refine g_catch C [⟨0, 11, 14, 13⟩, ⟨0, 11, 18, 15⟩, ⟨0, 11, 22, 24⟩] ⟨0, 11, 26, 67⟩ [] rfl (List.forall_mem_cons.mpr ⟨⟨by decide, "java/lang/IndexOutOfBoundsException", tw230, List.mem_of_getElem? (i := 4) rfl⟩, List.forall_mem_cons.mpr ⟨⟨by decide, "java/lang/IllegalArgumentException", tw310, List.mem_of_getElem? (i := 9) rfl⟩, List.forall_mem_cons.mpr ⟨⟨by decide, "java/lang/IllegalStateException", tw394, List.mem_of_getElem? (i := 14) rfl⟩, fun z hz => absurd hz List.not_mem_nil⟩⟩⟩) rfl (by decide) tw687 (List.mem_of_getElem? (i := 5) rfl) (fun q7 => ?_)
      refine g_astore C dL_resampled_26 (Nat.le_of_ble_eq_true rfl) (loc' := [(5, .ref q7), (0, gR E p1), (1, .int p2), (2, .int p3), (3, .int p4), (4, gR E p5)]) rfl ?_
      refine g_iconst C dL_resampled_28 (v := 4) rfl ?_
      exact g_iret C dL_resampled_29 (Nat.le_of_ble_eq_true rfl) (Nat.le_of_ble_eq_true rfl) ⟨_, rfl, hw⟩
theorem gc_L_resampled : ∀ rm : Room, rmL_resampled.frames + 1 ≤ rm.frames → 8 + (6 + 11) + rmL_resampled.locals ≤ rm.locals → gCall yL_resampled 6 5 rmL_resampled rm := fun rm a b => ⟨Or.inr ⟨_, _, _, tw826⟩, tw0, ⟨by decide, by decide⟩, by decide, a, b⟩
abbrev rmL_distance : Room := { frames := 9, cells := 6, slots := 36, locals := 160 }
def wp_L_distance (p1 : Nat) (p2 : Int32) (p3 : Int32) (p4 : Nat) (M : MEM) (Q : Int32 → MEM → Prop) : Prop := KD p1 = (15, 0) ∧ wp_X5_distance p1 p2 p3 M (fun r_1 M_2 => ∀ f_4 : UInt64, alike64 f_4 (FP.f2d r_1) = true → ((KD p4 = (3, 1) ∧ (∀ M_6 : MEM, M_6 = uD M_2 p4 0 f_4 → (Q 0 M_6))))) (fun En M5x => (En = "java/lang/IndexOutOfBoundsException" ∧ (Q 1 M5x)) ∨ (En = "java/lang/IllegalStateException" ∧ (Q 2 M5x)) ∨ (En = "java/util/NoSuchElementException" ∧ (Q 3 M5x)))
set_option maxRecDepth 100000 in
set_option maxHeartbeats 4000000 in
theorem met_L_distance {l : Launch} (hl : l.stackTraces = false) {E : MK} {p1 : Nat} {p2 : Int32} {p3 : Int32} {p4 : Nat} {M : MEM} {Q : Int32 → MEM → Prop} (hw : wp_L_distance p1 p2 p3 p4 M Q) : gMet l E yL_distance rmL_distance [gR E p1, .int p2, .int p3, gR E p4] M (qI Q) gNo := by
  refine g_met hl (cc := cL_distance) (maxL := 5) (ret := (some .int)) (hh := [(0, 10, 13, 13), (0, 10, 17, 24), (0, 10, 21, 67)]) (loc := [(0, gR E p1), (1, .int p2), (2, .int p3), (3, gR E p4)]) (by decide +kernel) (Or.inr tw834) (Nat.le_of_ble_eq_true rfl) rfl (fun K hK C => ?_)
  have C : GC K E cL_distance RL 5 (some .int) [(0, 10, 13, 13), (0, 10, 17, 24), (0, 10, 21, 67)] rmL_distance := C
  refine g_aload_n C dL_distance_0 3 rfl rfl ?_
  refine g_iconst C dL_distance_1 (v := 0) rfl ?_
  refine g_aload_n C dL_distance_2 0 rfl rfl ?_
  refine g_iload_n C dL_distance_3 1 rfl rfl ?_
  refine g_iload_n C dL_distance_4 2 rfl rfl ?_
  obtain ⟨hk_3, hw⟩ := hw
  refine g_cV C dL_distance_5 (met_X5_distance C.st hw) (gc_X5_distance _ (Nat.le_of_ble_eq_true rfl) (Nat.le_of_ble_eq_true rfl)) tw835 tw836 tw837 (ci := 5) rfl (by decide) hk_3 rfl (Nat.le_of_ble_eq_true rfl) (c2 := 6) (s2 := 36) rfl rfl (Nat.le_of_ble_eq_true rfl) (Nat.le_of_ble_eq_true rfl) rfl (kF (fun r_1 M_2 hw => ?_)) (fun En5 M5x hx => ?_)
  · skip
    refine g_f2d C dL_distance_8 (fun f_4 ef_4 => ?_)
    have hw := hw f_4 ef_4
    obtain ⟨hk_5, hw⟩ := hw
    refine g_dastore C hk_5 (i := 0) (vp_lit rfl) dL_distance_9 ?_
    refine g_nmM (fun M_6 eM_6 => ?_)
    have hw := hw M_6 eM_6
    refine g_goto C dL_distance_10 (tgt := 25) (by decide) ?_
    refine g_iconst C dL_distance_25 (v := 0) rfl ?_
    exact g_iret C dL_distance_26 (Nat.le_of_ble_eq_true rfl) (Nat.le_of_ble_eq_true rfl) ⟨_, rfl, hw⟩
  · have hx := hx
    rcases hx with ⟨rfl, hw⟩ | ⟨rfl, hw⟩ | ⟨rfl, hw⟩
    · refine g_catch C [] ⟨0, 10, 13, 13⟩ [⟨0, 10, 17, 24⟩, ⟨0, 10, 21, 67⟩] rfl (fun z hz => absurd hz List.not_mem_nil) rfl (by decide) tw230 (List.mem_of_getElem? (i := 0) rfl) (fun q5 => ?_)
      refine g_astore C dL_distance_13 (Nat.le_of_ble_eq_true rfl) (loc' := [(4, .ref q5), (0, gR E p1), (1, .int p2), (2, .int p3), (3, gR E p4)]) rfl ?_
      refine g_iconst C dL_distance_15 (v := 1) rfl ?_
      exact g_iret C dL_distance_16 (Nat.le_of_ble_eq_true rfl) (Nat.le_of_ble_eq_true rfl) ⟨_, rfl, hw⟩
    · refine g_catch C [⟨0, 10, 13, 13⟩] ⟨0, 10, 17, 24⟩ [⟨0, 10, 21, 67⟩] rfl (List.forall_mem_cons.mpr ⟨⟨by decide, "java/lang/IndexOutOfBoundsException", tw230, List.mem_of_getElem? (i := 1) rfl⟩, fun z hz => absurd hz List.not_mem_nil⟩) rfl (by decide) tw394 (List.mem_of_getElem? (i := 2) rfl) (fun q5 => ?_)
      refine g_astore C dL_distance_17 (Nat.le_of_ble_eq_true rfl) (loc' := [(4, .ref q5), (0, gR E p1), (1, .int p2), (2, .int p3), (3, gR E p4)]) rfl ?_
      refine g_iconst C dL_distance_19 (v := 2) rfl ?_
      exact g_iret C dL_distance_20 (Nat.le_of_ble_eq_true rfl) (Nat.le_of_ble_eq_true rfl) ⟨_, rfl, hw⟩
    · refine g_catch C [⟨0, 10, 13, 13⟩, ⟨0, 10, 17, 24⟩] ⟨0, 10, 21, 67⟩ [] rfl (List.forall_mem_cons.mpr ⟨⟨by decide, "java/lang/IndexOutOfBoundsException", tw230, List.mem_of_getElem? (i := 4) rfl⟩, List.forall_mem_cons.mpr ⟨⟨by decide, "java/lang/IllegalStateException", tw394, List.mem_of_getElem? (i := 14) rfl⟩, fun z hz => absurd hz List.not_mem_nil⟩⟩) rfl (by decide) tw687 (List.mem_of_getElem? (i := 5) rfl) (fun q5 => ?_)
      refine g_astore C dL_distance_21 (Nat.le_of_ble_eq_true rfl) (loc' := [(4, .ref q5), (0, gR E p1), (1, .int p2), (2, .int p3), (3, gR E p4)]) rfl ?_
      refine g_iconst C dL_distance_23 (v := 3) rfl ?_
      exact g_iret C dL_distance_24 (Nat.le_of_ble_eq_true rfl) (Nat.le_of_ble_eq_true rfl) ⟨_, rfl, hw⟩
theorem gc_L_distance : ∀ rm : Room, rmL_distance.frames + 1 ≤ rm.frames → 8 + (5 + 11) + rmL_distance.locals ≤ rm.locals → gCall yL_distance 5 4 rmL_distance rm := fun rm a b => ⟨Or.inr ⟨_, _, _, tw834⟩, tw0, ⟨by decide, by decide⟩, by decide, a, b⟩
abbrev rmL_common : Room := { frames := 9, cells := 4, slots := 24, locals := 160 }
def wp_L_common (p1 : Nat) (p2 : Int32) (p3 : Int32) (p4 : Nat) (M : MEM) (Q : Int32 → MEM → Prop) : Prop := KD p1 = (15, 0) ∧ wp_X5_common p1 p2 p3 M (fun r_1 M_2 => (KD p4 = (2, 1) ∧ (∀ M_5 : MEM, M_5 = uL M_2 p4 0 r_1.toInt64 → (Q 0 M_5)))) (fun En M5x => (En = "java/lang/IndexOutOfBoundsException" ∧ (Q 1 M5x)) ∨ (En = "java/lang/IllegalStateException" ∧ (Q 2 M5x)))
set_option maxRecDepth 100000 in
set_option maxHeartbeats 4000000 in
theorem met_L_common {l : Launch} (hl : l.stackTraces = false) {E : MK} {p1 : Nat} {p2 : Int32} {p3 : Int32} {p4 : Nat} {M : MEM} {Q : Int32 → MEM → Prop} (hw : wp_L_common p1 p2 p3 p4 M Q) : gMet l E yL_common rmL_common [gR E p1, .int p2, .int p3, gR E p4] M (qI Q) gNo := by
  refine g_met hl (cc := cL_common) (maxL := 5) (ret := (some .int)) (hh := [(0, 10, 13, 13), (0, 10, 17, 24)]) (loc := [(0, gR E p1), (1, .int p2), (2, .int p3), (3, gR E p4)]) (by decide +kernel) (Or.inr tw853) (Nat.le_of_ble_eq_true rfl) rfl (fun K hK C => ?_)
  have C : GC K E cL_common RL 5 (some .int) [(0, 10, 13, 13), (0, 10, 17, 24)] rmL_common := C
  refine g_aload_n C dL_common_0 3 rfl rfl ?_
  refine g_iconst C dL_common_1 (v := 0) rfl ?_
  refine g_aload_n C dL_common_2 0 rfl rfl ?_
  refine g_iload_n C dL_common_3 1 rfl rfl ?_
  refine g_iload_n C dL_common_4 2 rfl rfl ?_
  obtain ⟨hk_3, hw⟩ := hw
  refine g_cV C dL_common_5 (met_X5_common C.st hw) (gc_X5_common _ (Nat.le_of_ble_eq_true rfl) (Nat.le_of_ble_eq_true rfl)) tw854 tw855 tw856 (ci := 5) rfl (by decide) hk_3 rfl (Nat.le_of_ble_eq_true rfl) (c2 := 4) (s2 := 24) rfl rfl (Nat.le_of_ble_eq_true rfl) (Nat.le_of_ble_eq_true rfl) rfl (kI (fun r_1 M_2 hw => ?_)) (fun En5 M5x hx => ?_)
  · skip
    refine g_i2l C dL_common_8 ?_
    obtain ⟨hk_4, hw⟩ := hw
    refine g_lastore C hk_4 (i := 0) (vp_lit rfl) dL_common_9 ?_
    refine g_nmM (fun M_5 eM_5 => ?_)
    have hw := hw M_5 eM_5
    refine g_goto C dL_common_10 (tgt := 21) (by decide) ?_
    refine g_iconst C dL_common_21 (v := 0) rfl ?_
    exact g_iret C dL_common_22 (Nat.le_of_ble_eq_true rfl) (Nat.le_of_ble_eq_true rfl) ⟨_, rfl, hw⟩
  · have hx := hx
    rcases hx with ⟨rfl, hw⟩ | ⟨rfl, hw⟩
    · refine g_catch C [] ⟨0, 10, 13, 13⟩ [⟨0, 10, 17, 24⟩] rfl (fun z hz => absurd hz List.not_mem_nil) rfl (by decide) tw230 (List.mem_of_getElem? (i := 0) rfl) (fun q5 => ?_)
      refine g_astore C dL_common_13 (Nat.le_of_ble_eq_true rfl) (loc' := [(4, .ref q5), (0, gR E p1), (1, .int p2), (2, .int p3), (3, gR E p4)]) rfl ?_
      refine g_iconst C dL_common_15 (v := 1) rfl ?_
      exact g_iret C dL_common_16 (Nat.le_of_ble_eq_true rfl) (Nat.le_of_ble_eq_true rfl) ⟨_, rfl, hw⟩
    · refine g_catch C [⟨0, 10, 13, 13⟩] ⟨0, 10, 17, 24⟩ [] rfl (List.forall_mem_cons.mpr ⟨⟨by decide, "java/lang/IndexOutOfBoundsException", tw230, List.mem_of_getElem? (i := 1) rfl⟩, fun z hz => absurd hz List.not_mem_nil⟩) rfl (by decide) tw394 (List.mem_of_getElem? (i := 2) rfl) (fun q5 => ?_)
      refine g_astore C dL_common_17 (Nat.le_of_ble_eq_true rfl) (loc' := [(4, .ref q5), (0, gR E p1), (1, .int p2), (2, .int p3), (3, gR E p4)]) rfl ?_
      refine g_iconst C dL_common_19 (v := 2) rfl ?_
      exact g_iret C dL_common_20 (Nat.le_of_ble_eq_true rfl) (Nat.le_of_ble_eq_true rfl) ⟨_, rfl, hw⟩
theorem gc_L_common : ∀ rm : Room, rmL_common.frames + 1 ≤ rm.frames → 8 + (5 + 11) + rmL_common.locals ≤ rm.locals → gCall yL_common 5 4 rmL_common rm := fun rm a b => ⟨Or.inr ⟨_, _, _, tw853⟩, tw0, ⟨by decide, by decide⟩, by decide, a, b⟩
abbrev rmL_feed : Room := { frames := 7, cells := 1, slots := 6, locals := 103 }
def wp_L_feed (p1 : Nat) (p2 : Int32) (p3 : Nat) (M : MEM) (Q : Int32 → MEM → Prop) : Prop := KD p1 = (15, 0) ∧ wp_X5_feed p1 p2 M (fun r_1 M_2 => (KD p3 = (2, 1) ∧ (∀ M_5 : MEM, M_5 = uL M_2 p3 0 r_1.toInt64 → (Q 0 M_5)))) (fun En M4x => (En = "java/lang/IllegalStateException" ∧ (Q 1 M4x)))
set_option maxRecDepth 100000 in
set_option maxHeartbeats 4000000 in
theorem met_L_feed {l : Launch} (hl : l.stackTraces = false) {E : MK} {p1 : Nat} {p2 : Int32} {p3 : Nat} {M : MEM} {Q : Int32 → MEM → Prop} (hw : wp_L_feed p1 p2 p3 M Q) : gMet l E yL_feed rmL_feed [gR E p1, .int p2, gR E p3] M (qI Q) gNo := by
  refine g_met hl (cc := cL_feed) (maxL := 4) (ret := (some .int)) (hh := [(0, 9, 12, 24)]) (loc := [(0, gR E p1), (1, .int p2), (2, gR E p3)]) (by decide +kernel) (Or.inr tw864) (Nat.le_of_ble_eq_true rfl) rfl (fun K hK C => ?_)
  have C : GC K E cL_feed RL 4 (some .int) [(0, 9, 12, 24)] rmL_feed := C
  refine g_aload_n C dL_feed_0 2 rfl rfl ?_
  refine g_iconst C dL_feed_1 (v := 0) rfl ?_
  refine g_aload_n C dL_feed_2 0 rfl rfl ?_
  refine g_iload_n C dL_feed_3 1 rfl rfl ?_
  obtain ⟨hk_3, hw⟩ := hw
  refine g_cV C dL_feed_4 (met_X5_feed C.st hw) (gc_X5_feed _ (Nat.le_of_ble_eq_true rfl) (Nat.le_of_ble_eq_true rfl)) tw865 tw866 tw867 (ci := 5) rfl (by decide) hk_3 rfl (Nat.le_of_ble_eq_true rfl) (c2 := 1) (s2 := 6) rfl rfl (Nat.le_of_ble_eq_true rfl) (Nat.le_of_ble_eq_true rfl) rfl (kI (fun r_1 M_2 hw => ?_)) (fun En4 M4x hx => ?_)
  · skip
    refine g_i2l C dL_feed_7 ?_
    obtain ⟨hk_4, hw⟩ := hw
    refine g_lastore C hk_4 (i := 0) (vp_lit rfl) dL_feed_8 ?_
    refine g_nmM (fun M_5 eM_5 => ?_)
    have hw := hw M_5 eM_5
    refine g_goto C dL_feed_9 (tgt := 15) (by decide) ?_
    refine g_iconst C dL_feed_15 (v := 0) rfl ?_
    exact g_iret C dL_feed_16 (Nat.le_of_ble_eq_true rfl) (Nat.le_of_ble_eq_true rfl) ⟨_, rfl, hw⟩
  · have hx := hx
    rcases hx with ⟨rfl, hw⟩
    · refine g_catch C [] ⟨0, 9, 12, 24⟩ [] rfl (fun z hz => absurd hz List.not_mem_nil) rfl (by decide) tw394 (List.mem_of_getElem? (i := 2) rfl) (fun q4 => ?_)
      refine g_astore_n C dL_feed_12 rfl (Nat.le_of_ble_eq_true rfl) (loc' := [(3, .ref q4), (0, gR E p1), (1, .int p2), (2, gR E p3)]) rfl ?_
      refine g_iconst C dL_feed_13 (v := 1) rfl ?_
      exact g_iret C dL_feed_14 (Nat.le_of_ble_eq_true rfl) (Nat.le_of_ble_eq_true rfl) ⟨_, rfl, hw⟩
theorem gc_L_feed : ∀ rm : Room, rmL_feed.frames + 1 ≤ rm.frames → 8 + (4 + 11) + rmL_feed.locals ≤ rm.locals → gCall yL_feed 4 3 rmL_feed rm := fun rm a b => ⟨Or.inr ⟨_, _, _, tw864⟩, tw0, ⟨by decide, by decide⟩, by decide, a, b⟩
abbrev rmL_read : Room := { frames := 8, cells := 3, slots := 18, locals := 126 }
def wp_L_read (p1 : Nat) (p2 : Int32) (p3 : Nat) (M : MEM) (Q : Int32 → MEM → Prop) : Prop := KD p1 = (15, 0) ∧ wp_X5_read p1 p2 M (fun r_1 M_2 => (KD p3 = (2, 1) ∧ (∀ M_5 : MEM, M_5 = uL M_2 p3 0 r_1.toInt64 → (Q 0 M_5)))) (fun En M4x => (En = "java/lang/IndexOutOfBoundsException" ∧ (Q 1 M4x)) ∨ (En = "java/lang/IllegalArgumentException" ∧ (Q 2 M4x)) ∨ (En = "java/lang/IllegalStateException" ∧ (Q 3 M4x)))
set_option maxRecDepth 100000 in
set_option maxHeartbeats 4000000 in
theorem met_L_read {l : Launch} (hl : l.stackTraces = false) {E : MK} {p1 : Nat} {p2 : Int32} {p3 : Nat} {M : MEM} {Q : Int32 → MEM → Prop} (hw : wp_L_read p1 p2 p3 M Q) : gMet l E yL_read rmL_read [gR E p1, .int p2, gR E p3] M (qI Q) gNo := by
  refine g_met hl (cc := cL_read) (maxL := 4) (ret := (some .int)) (hh := [(0, 9, 12, 13), (0, 9, 15, 15), (0, 9, 18, 24)]) (loc := [(0, gR E p1), (1, .int p2), (2, gR E p3)]) (by decide +kernel) (Or.inr tw884) (Nat.le_of_ble_eq_true rfl) rfl (fun K hK C => ?_)
  have C : GC K E cL_read RL 4 (some .int) [(0, 9, 12, 13), (0, 9, 15, 15), (0, 9, 18, 24)] rmL_read := C
  refine g_aload_n C dL_read_0 2 rfl rfl ?_
  refine g_iconst C dL_read_1 (v := 0) rfl ?_
  refine g_aload_n C dL_read_2 0 rfl rfl ?_
  refine g_iload_n C dL_read_3 1 rfl rfl ?_
  obtain ⟨hk_3, hw⟩ := hw
  refine g_cV C dL_read_4 (met_X5_read C.st hw) (gc_X5_read _ (Nat.le_of_ble_eq_true rfl) (Nat.le_of_ble_eq_true rfl)) tw885 tw886 tw887 (ci := 5) rfl (by decide) hk_3 rfl (Nat.le_of_ble_eq_true rfl) (c2 := 3) (s2 := 18) rfl rfl (Nat.le_of_ble_eq_true rfl) (Nat.le_of_ble_eq_true rfl) rfl (kI (fun r_1 M_2 hw => ?_)) (fun En4 M4x hx => ?_)
  · skip
    refine g_i2l C dL_read_7 ?_
    obtain ⟨hk_4, hw⟩ := hw
    refine g_lastore C hk_4 (i := 0) (vp_lit rfl) dL_read_8 ?_
    refine g_nmM (fun M_5 eM_5 => ?_)
    have hw := hw M_5 eM_5
    refine g_goto C dL_read_9 (tgt := 21) (by decide) ?_
    refine g_iconst C dL_read_21 (v := 0) rfl ?_
    exact g_iret C dL_read_22 (Nat.le_of_ble_eq_true rfl) (Nat.le_of_ble_eq_true rfl) ⟨_, rfl, hw⟩
  · have hx := hx
    rcases hx with ⟨rfl, hw⟩ | ⟨rfl, hw⟩ | ⟨rfl, hw⟩
    · refine g_catch C [] ⟨0, 9, 12, 13⟩ [⟨0, 9, 15, 15⟩, ⟨0, 9, 18, 24⟩] rfl (fun z hz => absurd hz List.not_mem_nil) rfl (by decide) tw230 (List.mem_of_getElem? (i := 0) rfl) (fun q4 => ?_)
      refine g_astore_n C dL_read_12 rfl (Nat.le_of_ble_eq_true rfl) (loc' := [(3, .ref q4), (0, gR E p1), (1, .int p2), (2, gR E p3)]) rfl ?_
      refine g_iconst C dL_read_13 (v := 1) rfl ?_
      exact g_iret C dL_read_14 (Nat.le_of_ble_eq_true rfl) (Nat.le_of_ble_eq_true rfl) ⟨_, rfl, hw⟩
    · refine g_catch C [⟨0, 9, 12, 13⟩] ⟨0, 9, 15, 15⟩ [⟨0, 9, 18, 24⟩] rfl (List.forall_mem_cons.mpr ⟨⟨by decide, "java/lang/IndexOutOfBoundsException", tw230, List.mem_of_getElem? (i := 0) rfl⟩, fun z hz => absurd hz List.not_mem_nil⟩) rfl (by decide) tw310 (List.mem_of_getElem? (i := 1) rfl) (fun q4 => ?_)
      refine g_astore_n C dL_read_15 rfl (Nat.le_of_ble_eq_true rfl) (loc' := [(3, .ref q4), (0, gR E p1), (1, .int p2), (2, gR E p3)]) rfl ?_
      refine g_iconst C dL_read_16 (v := 2) rfl ?_
      exact g_iret C dL_read_17 (Nat.le_of_ble_eq_true rfl) (Nat.le_of_ble_eq_true rfl) ⟨_, rfl, hw⟩
    · refine g_catch C [⟨0, 9, 12, 13⟩, ⟨0, 9, 15, 15⟩] ⟨0, 9, 18, 24⟩ [] rfl (List.forall_mem_cons.mpr ⟨⟨by decide, "java/lang/IndexOutOfBoundsException", tw230, List.mem_of_getElem? (i := 1) rfl⟩, List.forall_mem_cons.mpr ⟨⟨by decide, "java/lang/IllegalArgumentException", tw310, List.mem_of_getElem? (i := 6) rfl⟩, fun z hz => absurd hz List.not_mem_nil⟩⟩) rfl (by decide) tw394 (List.mem_of_getElem? (i := 2) rfl) (fun q4 => ?_)
      refine g_astore_n C dL_read_18 rfl (Nat.le_of_ble_eq_true rfl) (loc' := [(3, .ref q4), (0, gR E p1), (1, .int p2), (2, gR E p3)]) rfl ?_
      refine g_iconst C dL_read_19 (v := 3) rfl ?_
      exact g_iret C dL_read_20 (Nat.le_of_ble_eq_true rfl) (Nat.le_of_ble_eq_true rfl) ⟨_, rfl, hw⟩
theorem gc_L_read : ∀ rm : Room, rmL_read.frames + 1 ≤ rm.frames → 8 + (4 + 11) + rmL_read.locals ≤ rm.locals → gCall yL_read 4 3 rmL_read rm := fun rm a b => ⟨Or.inr ⟨_, _, _, tw884⟩, tw0, ⟨by decide, by decide⟩, by decide, a, b⟩
abbrev rmL_write : Room := { frames := 8, cells := 2, slots := 12, locals := 125 }
def wp_L_write (p1 : Nat) (p2 : Int32) (p3 : Nat) (M : MEM) (Q : Int32 → MEM → Prop) : Prop := KD p1 = (15, 0) ∧ wp_X5_write p1 p2 M (fun r_1 M_2 => (KD p3 = (2, 1) ∧ (∀ M_5 : MEM, M_5 = uL M_2 p3 0 r_1.toInt64 → (Q 0 M_5)))) (fun En M4x => (En = "java/lang/IndexOutOfBoundsException" ∧ (Q 1 M4x)) ∨ (En = "java/lang/IllegalStateException" ∧ (Q 2 M4x)))
set_option maxRecDepth 100000 in
set_option maxHeartbeats 4000000 in
theorem met_L_write {l : Launch} (hl : l.stackTraces = false) {E : MK} {p1 : Nat} {p2 : Int32} {p3 : Nat} {M : MEM} {Q : Int32 → MEM → Prop} (hw : wp_L_write p1 p2 p3 M Q) : gMet l E yL_write rmL_write [gR E p1, .int p2, gR E p3] M (qI Q) gNo := by
  refine g_met hl (cc := cL_write) (maxL := 4) (ret := (some .int)) (hh := [(0, 9, 12, 13), (0, 9, 15, 24)]) (loc := [(0, gR E p1), (1, .int p2), (2, gR E p3)]) (by decide +kernel) (Or.inr tw959) (Nat.le_of_ble_eq_true rfl) rfl (fun K hK C => ?_)
  have C : GC K E cL_write RL 4 (some .int) [(0, 9, 12, 13), (0, 9, 15, 24)] rmL_write := C
  refine g_aload_n C dL_write_0 2 rfl rfl ?_
  refine g_iconst C dL_write_1 (v := 0) rfl ?_
  refine g_aload_n C dL_write_2 0 rfl rfl ?_
  refine g_iload_n C dL_write_3 1 rfl rfl ?_
  obtain ⟨hk_3, hw⟩ := hw
  refine g_cV C dL_write_4 (met_X5_write C.st hw) (gc_X5_write _ (Nat.le_of_ble_eq_true rfl) (Nat.le_of_ble_eq_true rfl)) tw960 tw961 tw962 (ci := 5) rfl (by decide) hk_3 rfl (Nat.le_of_ble_eq_true rfl) (c2 := 2) (s2 := 12) rfl rfl (Nat.le_of_ble_eq_true rfl) (Nat.le_of_ble_eq_true rfl) rfl (kI (fun r_1 M_2 hw => ?_)) (fun En4 M4x hx => ?_)
  · skip
    refine g_i2l C dL_write_7 ?_
    obtain ⟨hk_4, hw⟩ := hw
    refine g_lastore C hk_4 (i := 0) (vp_lit rfl) dL_write_8 ?_
    refine g_nmM (fun M_5 eM_5 => ?_)
    have hw := hw M_5 eM_5
    refine g_goto C dL_write_9 (tgt := 18) (by decide) ?_
    refine g_iconst C dL_write_18 (v := 0) rfl ?_
    exact g_iret C dL_write_19 (Nat.le_of_ble_eq_true rfl) (Nat.le_of_ble_eq_true rfl) ⟨_, rfl, hw⟩
  · have hx := hx
    rcases hx with ⟨rfl, hw⟩ | ⟨rfl, hw⟩
    · refine g_catch C [] ⟨0, 9, 12, 13⟩ [⟨0, 9, 15, 24⟩] rfl (fun z hz => absurd hz List.not_mem_nil) rfl (by decide) tw230 (List.mem_of_getElem? (i := 0) rfl) (fun q4 => ?_)
      refine g_astore_n C dL_write_12 rfl (Nat.le_of_ble_eq_true rfl) (loc' := [(3, .ref q4), (0, gR E p1), (1, .int p2), (2, gR E p3)]) rfl ?_
      refine g_iconst C dL_write_13 (v := 1) rfl ?_
      exact g_iret C dL_write_14 (Nat.le_of_ble_eq_true rfl) (Nat.le_of_ble_eq_true rfl) ⟨_, rfl, hw⟩
    · refine g_catch C [⟨0, 9, 12, 13⟩] ⟨0, 9, 15, 24⟩ [] rfl (List.forall_mem_cons.mpr ⟨⟨by decide, "java/lang/IndexOutOfBoundsException", tw230, List.mem_of_getElem? (i := 1) rfl⟩, fun z hz => absurd hz List.not_mem_nil⟩) rfl (by decide) tw394 (List.mem_of_getElem? (i := 2) rfl) (fun q4 => ?_)
      refine g_astore_n C dL_write_15 rfl (Nat.le_of_ble_eq_true rfl) (loc' := [(3, .ref q4), (0, gR E p1), (1, .int p2), (2, gR E p3)]) rfl ?_
      refine g_iconst C dL_write_16 (v := 2) rfl ?_
      exact g_iret C dL_write_17 (Nat.le_of_ble_eq_true rfl) (Nat.le_of_ble_eq_true rfl) ⟨_, rfl, hw⟩
theorem gc_L_write : ∀ rm : Room, rmL_write.frames + 1 ≤ rm.frames → 8 + (4 + 11) + rmL_write.locals ≤ rm.locals → gCall yL_write 4 3 rmL_write rm := fun rm a b => ⟨Or.inr ⟨_, _, _, tw959⟩, tw0, ⟨by decide, by decide⟩, by decide, a, b⟩
abbrev rmL_text : Room := { frames := 7, cells := 1, slots := 6, locals := 103 }
def wp_L_text (p1 : Nat) (p2 : Int32) (p3 : Nat) (M : MEM) (Q : Int32 → MEM → Prop) : Prop := KD p1 = (15, 0) ∧ wp_X5_text p1 p2 M (fun r_1 => (KD p3 = (2, 1) ∧ (∀ M_5 : MEM, M_5 = uL M p3 0 r_1.toInt64 → (Q 0 M_5)))) (fun En => (En = "java/lang/IndexOutOfBoundsException" ∧ (Q 1 M)))
set_option maxRecDepth 100000 in
set_option maxHeartbeats 4000000 in
theorem met_L_text {l : Launch} (hl : l.stackTraces = false) {E : MK} {p1 : Nat} {p2 : Int32} {p3 : Nat} {M : MEM} {Q : Int32 → MEM → Prop} (hw : wp_L_text p1 p2 p3 M Q) : gMet l E yL_text rmL_text [gR E p1, .int p2, gR E p3] M (qI Q) gNo := by
  refine g_met hl (cc := cL_text) (maxL := 4) (ret := (some .int)) (hh := [(0, 9, 12, 13)]) (loc := [(0, gR E p1), (1, .int p2), (2, gR E p3)]) (by decide +kernel) (Or.inr tw978) (Nat.le_of_ble_eq_true rfl) rfl (fun K hK C => ?_)
  have C : GC K E cL_text RL 4 (some .int) [(0, 9, 12, 13)] rmL_text := C
  refine g_aload_n C dL_text_0 2 rfl rfl ?_
  refine g_iconst C dL_text_1 (v := 0) rfl ?_
  refine g_aload_n C dL_text_2 0 rfl rfl ?_
  refine g_iload_n C dL_text_3 1 rfl rfl ?_
  obtain ⟨hk_3, hw⟩ := hw
  refine g_cV C dL_text_4 (met_X5_text C.st hw) (gc_X5_text _ (Nat.le_of_ble_eq_true rfl) (Nat.le_of_ble_eq_true rfl)) tw979 tw980 tw981 (ci := 5) rfl (by decide) hk_3 rfl (Nat.le_of_ble_eq_true rfl) (c2 := 1) (s2 := 6) rfl rfl (Nat.le_of_ble_eq_true rfl) (Nat.le_of_ble_eq_true rfl) rfl (kIp (fun r_1 hw => ?_)) (fun En4 M4x hx => ?_)
  · skip
    refine g_i2l C dL_text_7 ?_
    obtain ⟨hk_4, hw⟩ := hw
    refine g_lastore C hk_4 (i := 0) (vp_lit rfl) dL_text_8 ?_
    refine g_nmM (fun M_5 eM_5 => ?_)
    have hw := hw M_5 eM_5
    refine g_goto C dL_text_9 (tgt := 15) (by decide) ?_
    refine g_iconst C dL_text_15 (v := 0) rfl ?_
    exact g_iret C dL_text_16 (Nat.le_of_ble_eq_true rfl) (Nat.le_of_ble_eq_true rfl) ⟨_, rfl, hw⟩
  · have hx := hx
    obtain ⟨rfl, hx⟩ := hx
    rcases hx with ⟨rfl, hw⟩
    · refine g_catch C [] ⟨0, 9, 12, 13⟩ [] rfl (fun z hz => absurd hz List.not_mem_nil) rfl (by decide) tw230 (List.mem_of_getElem? (i := 0) rfl) (fun q4 => ?_)
      refine g_astore_n C dL_text_12 rfl (Nat.le_of_ble_eq_true rfl) (loc' := [(3, .ref q4), (0, gR E p1), (1, .int p2), (2, gR E p3)]) rfl ?_
      refine g_iconst C dL_text_13 (v := 1) rfl ?_
      exact g_iret C dL_text_14 (Nat.le_of_ble_eq_true rfl) (Nat.le_of_ble_eq_true rfl) ⟨_, rfl, hw⟩
theorem gc_L_text : ∀ rm : Room, rmL_text.frames + 1 ≤ rm.frames → 8 + (4 + 11) + rmL_text.locals ≤ rm.locals → gCall yL_text 4 3 rmL_text rm := fun rm a b => ⟨Or.inr ⟨_, _, _, tw978⟩, tw0, ⟨by decide, by decide⟩, by decide, a, b⟩
abbrev rmL_undo : Room := { frames := 8, cells := 1, slots := 6, locals := 123 }
def wp_L_undo (p1 : Nat) (p2 : Nat) (M : MEM) (Q : Int32 → MEM → Prop) : Prop := KD p1 = (15, 0) ∧ wp_X5_undo p1 M (fun r_1 M_2 => (KD p2 = (2, 1) ∧ (∀ M_5 : MEM, M_5 = uL M_2 p2 0 r_1.toInt64 → (Q 0 M_5)))) (fun En M3x => (En = "java/lang/IllegalStateException" ∧ (Q 1 M3x)))
set_option maxRecDepth 100000 in
set_option maxHeartbeats 4000000 in
theorem met_L_undo {l : Launch} (hl : l.stackTraces = false) {E : MK} {p1 : Nat} {p2 : Nat} {M : MEM} {Q : Int32 → MEM → Prop} (hw : wp_L_undo p1 p2 M Q) : gMet l E yL_undo rmL_undo [gR E p1, gR E p2] M (qI Q) gNo := by
  refine g_met hl (cc := cL_undo) (maxL := 3) (ret := (some .int)) (hh := [(0, 8, 11, 24)]) (loc := [(0, gR E p1), (1, gR E p2)]) (by decide +kernel) (Or.inr tw987) (Nat.le_of_ble_eq_true rfl) rfl (fun K hK C => ?_)
  have C : GC K E cL_undo RL 3 (some .int) [(0, 8, 11, 24)] rmL_undo := C
  refine g_aload_n C dL_undo_0 1 rfl rfl ?_
  refine g_iconst C dL_undo_1 (v := 0) rfl ?_
  refine g_aload_n C dL_undo_2 0 rfl rfl ?_
  obtain ⟨hk_3, hw⟩ := hw
  refine g_cV C dL_undo_3 (met_X5_undo C.st hw) (gc_X5_undo _ (Nat.le_of_ble_eq_true rfl) (Nat.le_of_ble_eq_true rfl)) tw988 tw989 tw990 (ci := 5) rfl (by decide) hk_3 rfl (Nat.le_of_ble_eq_true rfl) (c2 := 1) (s2 := 6) rfl rfl (Nat.le_of_ble_eq_true rfl) (Nat.le_of_ble_eq_true rfl) rfl (kI (fun r_1 M_2 hw => ?_)) (fun En3 M3x hx => ?_)
  · skip
    refine g_i2l C dL_undo_6 ?_
    obtain ⟨hk_4, hw⟩ := hw
    refine g_lastore C hk_4 (i := 0) (vp_lit rfl) dL_undo_7 ?_
    refine g_nmM (fun M_5 eM_5 => ?_)
    have hw := hw M_5 eM_5
    refine g_goto C dL_undo_8 (tgt := 14) (by decide) ?_
    refine g_iconst C dL_undo_14 (v := 0) rfl ?_
    exact g_iret C dL_undo_15 (Nat.le_of_ble_eq_true rfl) (Nat.le_of_ble_eq_true rfl) ⟨_, rfl, hw⟩
  · have hx := hx
    rcases hx with ⟨rfl, hw⟩
    · refine g_catch C [] ⟨0, 8, 11, 24⟩ [] rfl (fun z hz => absurd hz List.not_mem_nil) rfl (by decide) tw394 (List.mem_of_getElem? (i := 2) rfl) (fun q3 => ?_)
      refine g_astore_n C dL_undo_11 rfl (Nat.le_of_ble_eq_true rfl) (loc' := [(2, .ref q3), (0, gR E p1), (1, gR E p2)]) rfl ?_
      refine g_iconst C dL_undo_12 (v := 1) rfl ?_
      exact g_iret C dL_undo_13 (Nat.le_of_ble_eq_true rfl) (Nat.le_of_ble_eq_true rfl) ⟨_, rfl, hw⟩
theorem gc_L_undo : ∀ rm : Room, rmL_undo.frames + 1 ≤ rm.frames → 8 + (3 + 11) + rmL_undo.locals ≤ rm.locals → gCall yL_undo 3 2 rmL_undo rm := fun rm a b => ⟨Or.inr ⟨_, _, _, tw987⟩, tw0, ⟨by decide, by decide⟩, by decide, a, b⟩
abbrev rmL_restore : Room := { frames := 7, cells := 1, slots := 6, locals := 103 }
def wp_L_restore (p1 : Nat) (p2 : Nat) (M : MEM) (Q : Int32 → MEM → Prop) : Prop := KD p1 = (15, 0) ∧ wp_X5_restore p1 M (fun r_1 M_2 => (KD p2 = (2, 1) ∧ (∀ M_5 : MEM, M_5 = uL M_2 p2 0 r_1.toInt64 → (Q 0 M_5)))) (fun En M3x => (En = "java/lang/IllegalStateException" ∧ (Q 1 M3x)))
set_option maxRecDepth 100000 in
set_option maxHeartbeats 4000000 in
theorem met_L_restore {l : Launch} (hl : l.stackTraces = false) {E : MK} {p1 : Nat} {p2 : Nat} {M : MEM} {Q : Int32 → MEM → Prop} (hw : wp_L_restore p1 p2 M Q) : gMet l E yL_restore rmL_restore [gR E p1, gR E p2] M (qI Q) gNo := by
  refine g_met hl (cc := cL_restore) (maxL := 3) (ret := (some .int)) (hh := [(0, 8, 11, 24)]) (loc := [(0, gR E p1), (1, gR E p2)]) (by decide +kernel) (Or.inr tw1016) (Nat.le_of_ble_eq_true rfl) rfl (fun K hK C => ?_)
  have C : GC K E cL_restore RL 3 (some .int) [(0, 8, 11, 24)] rmL_restore := C
  refine g_aload_n C dL_restore_0 1 rfl rfl ?_
  refine g_iconst C dL_restore_1 (v := 0) rfl ?_
  refine g_aload_n C dL_restore_2 0 rfl rfl ?_
  obtain ⟨hk_3, hw⟩ := hw
  refine g_cV C dL_restore_3 (met_X5_restore C.st hw) (gc_X5_restore _ (Nat.le_of_ble_eq_true rfl) (Nat.le_of_ble_eq_true rfl)) tw1017 tw1018 tw1019 (ci := 5) rfl (by decide) hk_3 rfl (Nat.le_of_ble_eq_true rfl) (c2 := 1) (s2 := 6) rfl rfl (Nat.le_of_ble_eq_true rfl) (Nat.le_of_ble_eq_true rfl) rfl (kI (fun r_1 M_2 hw => ?_)) (fun En3 M3x hx => ?_)
  · skip
    refine g_i2l C dL_restore_6 ?_
    obtain ⟨hk_4, hw⟩ := hw
    refine g_lastore C hk_4 (i := 0) (vp_lit rfl) dL_restore_7 ?_
    refine g_nmM (fun M_5 eM_5 => ?_)
    have hw := hw M_5 eM_5
    refine g_goto C dL_restore_8 (tgt := 14) (by decide) ?_
    refine g_iconst C dL_restore_14 (v := 0) rfl ?_
    exact g_iret C dL_restore_15 (Nat.le_of_ble_eq_true rfl) (Nat.le_of_ble_eq_true rfl) ⟨_, rfl, hw⟩
  · have hx := hx
    rcases hx with ⟨rfl, hw⟩
    · refine g_catch C [] ⟨0, 8, 11, 24⟩ [] rfl (fun z hz => absurd hz List.not_mem_nil) rfl (by decide) tw394 (List.mem_of_getElem? (i := 2) rfl) (fun q3 => ?_)
      refine g_astore_n C dL_restore_11 rfl (Nat.le_of_ble_eq_true rfl) (loc' := [(2, .ref q3), (0, gR E p1), (1, gR E p2)]) rfl ?_
      refine g_iconst C dL_restore_12 (v := 1) rfl ?_
      exact g_iret C dL_restore_13 (Nat.le_of_ble_eq_true rfl) (Nat.le_of_ble_eq_true rfl) ⟨_, rfl, hw⟩
theorem gc_L_restore : ∀ rm : Room, rmL_restore.frames + 1 ≤ rm.frames → 8 + (3 + 11) + rmL_restore.locals ≤ rm.locals → gCall yL_restore 3 2 rmL_restore rm := fun rm a b => ⟨Or.inr ⟨_, _, _, tw1016⟩, tw0, ⟨by decide, by decide⟩, by decide, a, b⟩
