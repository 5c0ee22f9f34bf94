abbrev rmX5_write : Room := { frames := 7, cells := 2, slots := 12, locals := 103 }
def wp_X5_write (o : Nat) (p1 : Int32) (M : MEM) (Q : Int32 → MEM → Prop) (X : String → MEM → Prop) : Prop := KD o = (15, 0) ∧ (wp_X5_slotAt o p1 M (fun r_1 => wp_X5_needFilled r_1 M (KD (RF o 10) = (11, 0) ∧ wp_X1_clear (RF o 10) M (fun M_6 => KD r_1 = (14, 0) ∧ wp_X4_appendTo r_1 (RF o 10) M_6 (fun M_9 => wp_X1_length (RF o 10) M_9 (fun r_11 => Q r_11 M_9)))) (fun En => X En M)) (fun En => X En M))
set_option maxRecDepth 100000 in
set_option maxHeartbeats 4000000 in
theorem met_X5_write {l : Launch} (hl : l.stackTraces = false) {E : MK} {o : Nat} {p1 : Int32} {M : MEM} {Q : Int32 → MEM → Prop} {X : String → MEM → Prop} (hw : wp_X5_write o p1 M Q X) : gMet l E yX5_write rmX5_write [gR E o, .int p1] M (qI Q) (qE X) := by
  obtain ⟨hk0, hw⟩ := hw
  refine g_met hl (cc := cX5_write) (maxL := 3) (ret := (some .int)) (hh := []) (loc := [(0, gR E o), (1, .int p1)]) (by decide +kernel) (Or.inl ⟨tw963, rfl⟩) (Nat.le_of_ble_eq_true rfl) rfl (fun K hK C => ?_)
  have C : GC K E cX5_write RX5 3 (some .int) [] rmX5_write := C
  refine g_aload_n C dX5_write_0 0 rfl rfl ?_
  refine g_iload_n C dX5_write_1 1 rfl rfl ?_
  refine g_cV C dX5_write_2 (met_X5_slotAt C.st hw) (gc_X5_slotAt _ (Nat.le_of_ble_eq_true rfl) (Nat.le_of_ble_eq_true rfl)) tw315 tw317 twp3 (ci := 5) rfl (by decide) hk0 rfl (Nat.le_of_ble_eq_true rfl) (c2 := 1) (s2 := 6) rfl rfl (Nat.le_of_ble_eq_true rfl) (Nat.le_of_ble_eq_true rfl) rfl (kRp (fun r_1 hw => ?_)) (fun En M9 hx => g_out C (noTab _) (Nat.le_of_ble_eq_true rfl) (Nat.le_of_ble_eq_true rfl) (by obtain ⟨rfl, hx⟩ := hx; exact hx))
  refine g_astore_n C dX5_write_5 rfl (Nat.le_of_ble_eq_true rfl) (loc' := [(2, gR E r_1), (0, gR E o), (1, .int p1)]) rfl ?_
  refine g_aload_n C dX5_write_6 0 rfl rfl ?_
  refine g_cS C dX5_write_7 (met_X5_needFilled C.st hw) (gc_X5_needFilled _ (Nat.le_of_ble_eq_true rfl) (Nat.le_of_ble_eq_true rfl)) (Or.inl tw405) tw406 rfl (Nat.le_of_ble_eq_true rfl) (c2 := 2) (s2 := 12) rfl rfl (Nat.le_of_ble_eq_true rfl) (Nat.le_of_ble_eq_true rfl) rfl (kVp (fun hw => ?_)) (fun En M9 hx => g_out C (noTab _) (Nat.le_of_ble_eq_true rfl) (Nat.le_of_ble_eq_true rfl) (by obtain ⟨rfl, hx⟩ := hx; exact hx))
  refine g_aload_n C dX5_write_10 1 rfl rfl ?_
  refine gf_RX5_49 C hk0 dX5_write_11 ?_
  obtain ⟨hk_7, hw⟩ := hw
  refine g_cV C dX5_write_14 (met_X1_clear C.st hw) (gc_X1_clear _ (Nat.le_of_ble_eq_true rfl) (Nat.le_of_ble_eq_true rfl)) tw915 tw916 tw917 (ci := 1) rfl (by decide) hk_7 rfl (Nat.le_of_ble_eq_true rfl) (c2 := 2) (s2 := 12) rfl rfl (Nat.le_of_ble_eq_true rfl) (Nat.le_of_ble_eq_true rfl) rfl (kV (fun M_6 hw => ?_)) tNo
  refine g_aload_n C dX5_write_17 0 rfl rfl ?_
  refine g_aload_n C dX5_write_18 1 rfl rfl ?_
  refine gf_RX5_49 C hk0 dX5_write_19 ?_
  obtain ⟨hk_10, hw⟩ := hw
  refine g_cV C dX5_write_22 (met_X4_appendTo C.st hw) (gc_X4_appendTo _ (Nat.le_of_ble_eq_true rfl) (Nat.le_of_ble_eq_true rfl)) tw964 tw965 tw966 (ci := 4) rfl (by decide) hk_10 rfl (Nat.le_of_ble_eq_true rfl) (c2 := 2) (s2 := 12) rfl rfl (Nat.le_of_ble_eq_true rfl) (Nat.le_of_ble_eq_true rfl) rfl (kV (fun M_9 hw => ?_)) tNo
  refine g_aload_n C dX5_write_25 1 rfl rfl ?_
  refine gf_RX5_49 C hk0 dX5_write_26 ?_
  refine g_cV C dX5_write_29 (met_X1_length C.st hw) (gc_X1_length _ (Nat.le_of_ble_eq_true rfl) (Nat.le_of_ble_eq_true rfl)) tw878 tw879 tw880 (ci := 1) rfl (by decide) hk_7 rfl (Nat.le_of_ble_eq_true rfl) (c2 := 2) (s2 := 12) rfl rfl (Nat.le_of_ble_eq_true rfl) (Nat.le_of_ble_eq_true rfl) rfl (kIp (fun r_11 hw => ?_)) tNo
  exact g_iret C dX5_write_32 (Nat.le_of_ble_eq_true rfl) (Nat.le_of_ble_eq_true rfl) ⟨_, rfl, hw⟩
theorem gc_X5_write : ∀ rm : Room, rmX5_write.frames + 1 ≤ rm.frames → 8 + (3 + 11) + rmX5_write.locals ≤ rm.locals → gCall yX5_write 3 1 rmX5_write rm := fun rm a b => ⟨Or.inl ⟨_, _, tw963⟩, tw1, ⟨by decide, by decide⟩, by decide, a, b⟩
abbrev rmX5_text : Room := { frames := 6, cells := 1, slots := 6, locals := 82 }
def wp_X5_text (o : Nat) (p1 : Int32) (M : MEM) (Q : Int32 → Prop) (X : String → Prop) : Prop := KD o = (15, 0) ∧ ((p1 < 0 → (X "java/lang/IndexOutOfBoundsException")) ∧ (¬ p1 < 0 → (KD (RF o 10) = (11, 0) ∧ wp_X1_length (RF o 10) M (fun r_1 => (p1 < r_1 → (wp_X1_letterAt (RF o 10) p1 M (fun r_4 => gC r_4 ∧ Q r_4))) ∧ (¬ p1 < r_1 → (X "java/lang/IndexOutOfBoundsException"))))))
set_option maxRecDepth 100000 in
set_option maxHeartbeats 4000000 in
theorem met_X5_text {l : Launch} (hl : l.stackTraces = false) {E : MK} {o : Nat} {p1 : Int32} {M : MEM} {Q : Int32 → Prop} {X : String → Prop} (hw : wp_X5_text o p1 M Q X) : gMet l E yX5_text rmX5_text [gR E o, .int p1] M (qIp M Q) (gXp M X) := by
  obtain ⟨hk0, hw⟩ := hw
  refine g_met hl (cc := cX5_text) (maxL := 2) (ret := (some .char)) (hh := []) (loc := [(0, gR E o), (1, .int p1)]) (by decide +kernel) (Or.inl ⟨tw982, rfl⟩) (Nat.le_of_ble_eq_true rfl) rfl (fun K hK C => ?_)
  have C : GC K E cX5_text RX5 2 (some .char) [] rmX5_text := C
  refine g_iload_n C dX5_text_0 1 rfl rfl ?_
  refine g_if_lt C dX5_text_1 (tgt := 15) (by decide) (fun c1 => ?_) (fun c1 => ?_)
  · have hw := hw.1 c1
    exact g_throwSW C fit_IndexOutOfBoundsException fit_N tw319 tw12 (List.mem_of_getElem? (i := 14) rfl) (List.mem_of_getElem? (i := 0) rfl) at_RX5_220 dX5_text_15 dX5_text_18 dX5_text_19 dX5_text_22 dX5_text_25 (noTab _) (Nat.le_of_ble_eq_true rfl) (Nat.le_of_ble_eq_true rfl) (Nat.le_of_ble_eq_true rfl) (Nat.le_of_ble_eq_true rfl) (Nat.le_of_ble_eq_true rfl) (Nat.le_of_ble_eq_true rfl) ⟨rfl, hw⟩
  · have hw := hw.2 c1
    refine g_iload_n C dX5_text_4 1 rfl rfl ?_
    refine g_aload_n C dX5_text_5 0 rfl rfl ?_
    refine gf_RX5_49 C hk0 dX5_text_6 ?_
    obtain ⟨hk_3, hw⟩ := hw
    refine g_cV C dX5_text_9 (met_X1_length C.st hw) (gc_X1_length _ (Nat.le_of_ble_eq_true rfl) (Nat.le_of_ble_eq_true rfl)) tw878 tw879 tw880 (ci := 1) rfl (by decide) hk_3 rfl (Nat.le_of_ble_eq_true rfl) (c2 := 0) (s2 := 0) rfl rfl (Nat.le_of_ble_eq_true rfl) (Nat.le_of_ble_eq_true rfl) rfl (kIp (fun r_1 hw => ?_)) tNo
    refine g_icmp_lt C dX5_text_12 (tgt := 26) (by decide) (fun c12 => ?_) (fun c12 => ?_)
    · have hw := hw.1 c12
      refine g_aload_n C dX5_text_26 0 rfl rfl ?_
      refine gf_RX5_49 C hk0 dX5_text_27 ?_
      refine g_iload_n C dX5_text_30 1 rfl rfl ?_
      refine g_cV C dX5_text_31 (met_X1_letterAt C.st hw) (gc_X1_letterAt _ (Nat.le_of_ble_eq_true rfl) (Nat.le_of_ble_eq_true rfl)) tw984 tw899 tw900 (ci := 1) rfl (by decide) hk_3 rfl (Nat.le_of_ble_eq_true rfl) (c2 := 0) (s2 := 0) rfl rfl (Nat.le_of_ble_eq_true rfl) (Nat.le_of_ble_eq_true rfl) rfl (kIp (fun r_4 hw => ?_)) tNo
      obtain ⟨hc_6, hw⟩ := hw
      exact g_zret C dX5_text_34 hc_6 (Nat.le_of_ble_eq_true rfl) (Nat.le_of_ble_eq_true rfl) ⟨_, rfl, rfl, hw⟩
    · have hw := hw.2 c12
      exact g_throwSW C fit_IndexOutOfBoundsException fit_N tw319 tw12 (List.mem_of_getElem? (i := 14) rfl) (List.mem_of_getElem? (i := 0) rfl) at_RX5_220 dX5_text_15 dX5_text_18 dX5_text_19 dX5_text_22 dX5_text_25 (noTab _) (Nat.le_of_ble_eq_true rfl) (Nat.le_of_ble_eq_true rfl) (Nat.le_of_ble_eq_true rfl) (Nat.le_of_ble_eq_true rfl) (Nat.le_of_ble_eq_true rfl) (Nat.le_of_ble_eq_true rfl) ⟨rfl, hw⟩
theorem gc_X5_text : ∀ rm : Room, rmX5_text.frames + 1 ≤ rm.frames → 8 + (2 + 11) + rmX5_text.locals ≤ rm.locals → gCall yX5_text 2 1 rmX5_text rm := fun rm a b => ⟨Or.inl ⟨_, _, tw982⟩, tw1, ⟨by decide, by decide⟩, by decide, a, b⟩
abbrev rmX5_undo : Room := { frames := 7, cells := 1, slots := 6, locals := 103 }
def wp_X5_undo (o : Nat) (M : MEM) (Q : Int32 → MEM → Prop) (X : String → MEM → Prop) : Prop := KD o = (15, 0) ∧ (KD (RF o 5) = (10, 0) ∧ wp_X0_count (RF o 5) M (fun r_1 => (¬ r_1 = 0 → (wp_X0_stepBack (RF o 5) M (fun M_5 => wp_X0_slot (RF o 5) M_5 (fun r_6 => wp_X5_slotAt o r_6 M_5 (fun r_8 => wp_X0_held (RF o 5) M_5 (fun r_10 => KD r_8 = (14, 0) ∧ wp_X4_become r_8 r_10 M_5 (fun M_13 => wp_X0_next (RF o 5) M_13 (fun r_15 => (∀ M_17 : MEM, M_17 = uI M_13 o 4 r_15 → (wp_X0_count (RF o 5) M_17 (fun r_18 => Q r_18 M_17))))))) (fun En => X En M_5))))) ∧ (r_1 = 0 → (X "java/lang/IllegalStateException" M))))
set_option maxRecDepth 100000 in
set_option maxHeartbeats 4000000 in
theorem met_X5_undo {l : Launch} (hl : l.stackTraces = false) {E : MK} {o : Nat} {M : MEM} {Q : Int32 → MEM → Prop} {X : String → MEM → Prop} (hw : wp_X5_undo o M Q X) : gMet l E yX5_undo rmX5_undo [gR E o] M (qI Q) (qE X) := by
  obtain ⟨hk0, hw⟩ := hw
  refine g_met hl (cc := cX5_undo) (maxL := 1) (ret := (some .int)) (hh := []) (loc := [(0, gR E o)]) (by decide +kernel) (Or.inl ⟨tw991, rfl⟩) (Nat.le_of_ble_eq_true rfl) rfl (fun K hK C => ?_)
  have C : GC K E cX5_undo RX5 1 (some .int) [] rmX5_undo := C
  refine g_aload_n C dX5_undo_0 0 rfl rfl ?_
  refine gf_RX5_22 C hk0 dX5_undo_1 ?_
  obtain ⟨hk_3, hw⟩ := hw
  refine g_cV C dX5_undo_4 (met_X0_count C.st hw) (gc_X0_count _ (Nat.le_of_ble_eq_true rfl) (Nat.le_of_ble_eq_true rfl)) tw992 tw993 tw994 (ci := 0) rfl (by decide) hk_3 rfl (Nat.le_of_ble_eq_true rfl) (c2 := 0) (s2 := 0) rfl rfl (Nat.le_of_ble_eq_true rfl) (Nat.le_of_ble_eq_true rfl) rfl (kIp (fun r_1 hw => ?_)) tNo
  refine g_if_ne C dX5_undo_7 (tgt := 21) (by decide) (fun c7 => ?_) (fun c7 => ?_)
  · have hw := hw.1 c7
    refine g_aload_n C dX5_undo_21 0 rfl rfl ?_
    refine gf_RX5_22 C hk0 dX5_undo_22 ?_
    refine g_cV C dX5_undo_25 (met_X0_stepBack C.st hw) (gc_X0_stepBack _ (Nat.le_of_ble_eq_true rfl) (Nat.le_of_ble_eq_true rfl)) tw997 tw998 tw999 (ci := 0) rfl (by decide) hk_3 rfl (Nat.le_of_ble_eq_true rfl) (c2 := 0) (s2 := 0) rfl rfl (Nat.le_of_ble_eq_true rfl) (Nat.le_of_ble_eq_true rfl) rfl (kV (fun M_5 hw => ?_)) tNo
    refine g_aload_n C dX5_undo_28 0 rfl rfl ?_
    refine g_aload_n C dX5_undo_29 0 rfl rfl ?_
    refine gf_RX5_22 C hk0 dX5_undo_30 ?_
    refine g_cV C dX5_undo_33 (met_X0_slot C.st hw) (gc_X0_slot _ (Nat.le_of_ble_eq_true rfl) (Nat.le_of_ble_eq_true rfl)) tw1002 tw1003 tw1004 (ci := 0) rfl (by decide) hk_3 rfl (Nat.le_of_ble_eq_true rfl) (c2 := 0) (s2 := 0) rfl rfl (Nat.le_of_ble_eq_true rfl) (Nat.le_of_ble_eq_true rfl) rfl (kIp (fun r_6 hw => ?_)) tNo
    refine g_cV C dX5_undo_36 (met_X5_slotAt C.st hw) (gc_X5_slotAt _ (Nat.le_of_ble_eq_true rfl) (Nat.le_of_ble_eq_true rfl)) tw315 tw317 twp3 (ci := 5) rfl (by decide) hk0 rfl (Nat.le_of_ble_eq_true rfl) (c2 := 1) (s2 := 6) rfl rfl (Nat.le_of_ble_eq_true rfl) (Nat.le_of_ble_eq_true rfl) rfl (kRp (fun r_8 hw => ?_)) (fun En M9 hx => g_out C (noTab _) (Nat.le_of_ble_eq_true rfl) (Nat.le_of_ble_eq_true rfl) (by obtain ⟨rfl, hx⟩ := hx; exact hx))
    refine g_aload_n C dX5_undo_39 0 rfl rfl ?_
    refine gf_RX5_22 C hk0 dX5_undo_40 ?_
    refine g_cV C dX5_undo_43 (met_X0_held C.st hw) (gc_X0_held _ (Nat.le_of_ble_eq_true rfl) (Nat.le_of_ble_eq_true rfl)) tw1006 tw1007 tw1008 (ci := 0) rfl (by decide) hk_3 rfl (Nat.le_of_ble_eq_true rfl) (c2 := 1) (s2 := 6) rfl rfl (Nat.le_of_ble_eq_true rfl) (Nat.le_of_ble_eq_true rfl) rfl (kRp (fun r_10 hw => ?_)) tNo
    obtain ⟨hk_14, hw⟩ := hw
    refine g_cV C dX5_undo_46 (met_X4_become C.st hw) (gc_X4_become _ (Nat.le_of_ble_eq_true rfl) (Nat.le_of_ble_eq_true rfl)) tw208 tw209 tw210 (ci := 4) rfl (by decide) hk_14 rfl (Nat.le_of_ble_eq_true rfl) (c2 := 1) (s2 := 6) rfl rfl (Nat.le_of_ble_eq_true rfl) (Nat.le_of_ble_eq_true rfl) rfl (kV (fun M_13 hw => ?_)) tNo
    refine g_aload_n C dX5_undo_49 0 rfl rfl ?_
    refine g_aload_n C dX5_undo_50 0 rfl rfl ?_
    refine gf_RX5_22 C hk0 dX5_undo_51 ?_
    refine g_cV C dX5_undo_54 (met_X0_next C.st hw) (gc_X0_next _ (Nat.le_of_ble_eq_true rfl) (Nat.le_of_ble_eq_true rfl)) tw1010 tw1011 tw1012 (ci := 0) rfl (by decide) hk_3 rfl (Nat.le_of_ble_eq_true rfl) (c2 := 1) (s2 := 6) rfl rfl (Nat.le_of_ble_eq_true rfl) (Nat.le_of_ble_eq_true rfl) rfl (kIp (fun r_15 hw => ?_)) tNo
    refine pf_RX5_82 C hk0 dX5_undo_57 ?_
    refine g_nmM (fun M_17 eM_17 => ?_)
    have hw := hw M_17 eM_17
    refine g_aload_n C dX5_undo_60 0 rfl rfl ?_
    refine gf_RX5_22 C hk0 dX5_undo_61 ?_
    refine g_cV C dX5_undo_64 (met_X0_count C.st hw) (gc_X0_count _ (Nat.le_of_ble_eq_true rfl) (Nat.le_of_ble_eq_true rfl)) tw992 tw993 tw994 (ci := 0) rfl (by decide) hk_3 rfl (Nat.le_of_ble_eq_true rfl) (c2 := 1) (s2 := 6) rfl rfl (Nat.le_of_ble_eq_true rfl) (Nat.le_of_ble_eq_true rfl) rfl (kIp (fun r_18 hw => ?_)) tNo
    exact g_iret C dX5_undo_67 (Nat.le_of_ble_eq_true rfl) (Nat.le_of_ble_eq_true rfl) ⟨_, rfl, hw⟩
  · have hw := hw.2 c7
    exact g_throwSW C fit_IllegalStateException fit_N tw408 tw17 (List.mem_of_getElem? (i := 15) rfl) (List.mem_of_getElem? (i := 2) rfl) at_RX5_291 dX5_undo_10 dX5_undo_13 dX5_undo_14 dX5_undo_17 dX5_undo_20 (noTab _) (Nat.le_of_ble_eq_true rfl) (Nat.le_of_ble_eq_true rfl) (Nat.le_of_ble_eq_true rfl) (Nat.le_of_ble_eq_true rfl) (Nat.le_of_ble_eq_true rfl) (Nat.le_of_ble_eq_true rfl) hw
theorem gc_X5_undo : ∀ rm : Room, rmX5_undo.frames + 1 ≤ rm.frames → 8 + (1 + 11) + rmX5_undo.locals ≤ rm.locals → gCall yX5_undo 1 0 rmX5_undo rm := fun rm a b => ⟨Or.inl ⟨_, _, tw991⟩, tw1, ⟨by decide, by decide⟩, by decide, a, b⟩
abbrev rmX5_filledSlots : Room := { frames := 1, cells := 0, slots := 0, locals := 20 }
def wp_X5_filledSlots_L4 (o : Nat) (M : MEM) (Q : Int32 → Prop) : Nat → Int32 → Int32 → Prop
  | 0, _, _ => False
  | n4 + 1, x1_1, x2_2 => (4 ≤ x2_2 → (Q x1_1)) ∧ (¬ 4 ≤ x2_2 → (KD (RF o 0) = (4, 4) ∧ vp_in x2_2 4 ∧ (KD (RF (RF o 0) x2_2.toNatClampNeg) = (14, 0) ∧ wp_X4_isFilled (RF (RF o 0) x2_2.toNatClampNeg) M (fun r_5 => (r_5 = 0 → (∀ x2_8 : Int32, x2_8 = x2_2 + 1 → ((wp_X5_filledSlots_L4 o M Q n4) x1_1 x2_8))) ∧ (¬ r_5 = 0 → (∀ x1_9 : Int32, x1_9 = x1_1 + 1 → (∀ x2_10 : Int32, x2_10 = x2_2 + 1 → ((wp_X5_filledSlots_L4 o M Q n4) x1_9 x2_10))))))))
def wp_X5_filledSlots (o : Nat) (M : MEM) (Q : Int32 → Prop) : Prop := KD o = (15, 0) ∧ (∃ m4 : Nat, wp_X5_filledSlots_L4 o M Q m4 0 0)
set_option maxRecDepth 100000 in
set_option maxHeartbeats 4000000 in
theorem met_X5_filledSlots {l : Launch} (hl : l.stackTraces = false) {E : MK} {o : Nat} {M : MEM} {Q : Int32 → Prop} (hw : wp_X5_filledSlots o M Q) : gMet l E yX5_filledSlots rmX5_filledSlots [gR E o] M (qIp M Q) gNo := by
  obtain ⟨hk0, hw⟩ := hw
  refine g_met hl (cc := cX5_filledSlots) (maxL := 3) (ret := (some .int)) (hh := []) (loc := [(0, gR E o)]) (by decide +kernel) (Or.inl ⟨tw222, rfl⟩) (Nat.le_of_ble_eq_true rfl) rfl (fun K hK C => ?_)
  have C : GC K E cX5_filledSlots RX5 3 (some .int) [] rmX5_filledSlots := C
  refine g_iconst C dX5_filledSlots_0 (v := 0) rfl ?_
  refine g_istore_n C dX5_filledSlots_1 rfl (Nat.le_of_ble_eq_true rfl) (loc' := [(1, .int 0), (0, gR E o)]) rfl ?_
  refine g_iconst C dX5_filledSlots_2 (v := 0) rfl ?_
  refine g_istore_n C dX5_filledSlots_3 rfl (Nat.le_of_ble_eq_true rfl) (loc' := [(2, .int 0), (1, .int 0), (0, gR E o)]) rfl ?_
  obtain ⟨m4, hw⟩ := hw
  have hL4 : ∀ (n4 : Nat) (x1_1 : Int32) (x2_2 : Int32), wp_X5_filledSlots_L4 o M Q n4 x1_1 x2_2 → GX K E 3 M [(0, gR E o), (1, .int x1_1), (2, .int x2_2)] [] 4 0 0 (gEnd K E (qIp M Q) gNo rmX5_filledSlots.cells rmX5_filledSlots.slots) := by
    intro n4
    induction n4 with
    | zero => intro _ _ hw; exact False.elim hw
    | succ n4 ih4 =>
      intro x1_1 x2_2 hw
      refine g_iload_n C dX5_filledSlots_4 2 rfl rfl ?_
      refine g_iconst C dX5_filledSlots_5 (v := 4) rfl ?_
      refine g_icmp_ge C dX5_filledSlots_6 (tgt := 30) (by decide) (fun c6 => ?_) (fun c6 => ?_)
      · have hw := hw.1 c6
        refine g_iload_n C dX5_filledSlots_30 1 rfl rfl ?_
        exact g_iret C dX5_filledSlots_31 (Nat.le_of_ble_eq_true rfl) (Nat.le_of_ble_eq_true rfl) ⟨_, rfl, rfl, hw⟩
      · have hw := hw.2 c6
        refine g_aload_n C dX5_filledSlots_9 0 rfl rfl ?_
        refine gf_RX5_11 C hk0 dX5_filledSlots_10 ?_
        refine g_iload_n C dX5_filledSlots_13 2 rfl rfl ?_
        obtain ⟨hk_3, hw⟩ := hw
        obtain ⟨hi_4, hw⟩ := hw
        refine g_aaload C hk_3 hi_4 dX5_filledSlots_14 ?_
        obtain ⟨hk_7, hw⟩ := hw
        refine g_cV C dX5_filledSlots_15 (met_X4_isFilled C.st hw) (gc_X4_isFilled _ (Nat.le_of_ble_eq_true rfl) (Nat.le_of_ble_eq_true rfl)) tw223 tw224 tw225 (ci := 4) rfl (by decide) hk_7 rfl (Nat.le_of_ble_eq_true rfl) (c2 := 0) (s2 := 0) rfl rfl (Nat.le_of_ble_eq_true rfl) (Nat.le_of_ble_eq_true rfl) rfl (kIp (fun r_5 hw => ?_)) tNo
        refine g_if_eq C dX5_filledSlots_18 (tgt := 24) (by decide) (fun c18 => ?_) (fun c18 => ?_)
        · have hw := hw.1 c18
          obtain ⟨x2_8, ex2_8⟩ : ∃ y : Int32, y = x2_2 + 1 := ⟨_, rfl⟩
          have hw := hw x2_8 ex2_8
          refine g_iinc C (j := 0) dX5_filledSlots_24 2 rfl (v := x2_8) (by rw [ex2_8]; rfl) (Nat.le_of_ble_eq_true rfl) (loc' := [(2, .int x2_8), (0, gR E o), (1, .int x1_1)]) rfl ?_
          refine g_goto C dX5_filledSlots_27 (tgt := 4) (by decide) ?_
          refine g_sub [1, 2, 0] rfl ?_
          exact ih4 _ _ hw
        · have hw := hw.2 c18
          obtain ⟨x1_9, ex1_9⟩ : ∃ y : Int32, y = x1_1 + 1 := ⟨_, rfl⟩
          have hw := hw x1_9 ex1_9
          refine g_iinc C (j := 0) dX5_filledSlots_21 1 rfl (v := x1_9) (by rw [ex1_9]; rfl) (Nat.le_of_ble_eq_true rfl) (loc' := [(1, .int x1_9), (0, gR E o), (2, .int x2_2)]) rfl ?_
          obtain ⟨x2_10, ex2_10⟩ : ∃ y : Int32, y = x2_2 + 1 := ⟨_, rfl⟩
          have hw := hw x2_10 ex2_10
          refine g_iinc C (j := 0) dX5_filledSlots_24 2 rfl (v := x2_10) (by rw [ex2_10]; rfl) (Nat.le_of_ble_eq_true rfl) (loc' := [(2, .int x2_10), (1, .int x1_9), (0, gR E o)]) rfl ?_
          refine g_goto C dX5_filledSlots_27 (tgt := 4) (by decide) ?_
          refine g_sub [2, 1, 0] rfl ?_
          exact ih4 _ _ hw
  refine g_sub [2, 1, 0] rfl ?_
  exact hL4 m4 _ _ hw
theorem gc_X5_filledSlots : ∀ rm : Room, rmX5_filledSlots.frames + 1 ≤ rm.frames → 8 + (3 + 11) + rmX5_filledSlots.locals ≤ rm.locals → gCall yX5_filledSlots 3 0 rmX5_filledSlots rm := fun rm a b => ⟨Or.inl ⟨_, _, tw222⟩, tw1, ⟨by decide, by decide⟩, by decide, a, b⟩
abbrev rmX5_save : Room := { frames := 3, cells := 0, slots := 0, locals := 60 }
def wp_X5_save_L2 (o : Nat) (Q : Int32 → MEM → Prop) : Nat → Int32 → MEM → Prop
  | 0, _, _ => False
  | n2 + 1, x1_1, M_2 => (4 ≤ x1_1 → ((∀ M_3 : MEM, M_3 = uI M_2 o 3 (mI M_2 o 4) → ((∀ M_4 : MEM, M_4 = uI M_3 o 2 1 → (wp_X5_filledSlots o M_4 (fun r_5 => Q r_5 M_4))))))) ∧ (¬ 4 ≤ x1_1 → (KD (RF o 1) = (4, 4) ∧ vp_in x1_1 4 ∧ (KD (RF o 0) = (4, 4) ∧ vp_in x1_1 4 ∧ (KD (RF (RF o 1) x1_1.toNatClampNeg) = (14, 0) ∧ wp_X4_become (RF (RF o 1) x1_1.toNatClampNeg) (RF (RF o 0) x1_1.toNatClampNeg) M_2 (fun M_12 => ∀ x1_14 : Int32, x1_14 = x1_1 + 1 → ((wp_X5_save_L2 o Q n2) x1_14 M_12))))))
def wp_X5_save (o : Nat) (M : MEM) (Q : Int32 → MEM → Prop) : Prop := KD o = (15, 0) ∧ (∃ m2 : Nat, wp_X5_save_L2 o Q m2 0 M)
set_option maxRecDepth 100000 in
set_option maxHeartbeats 4000000 in
theorem met_X5_save {l : Launch} (hl : l.stackTraces = false) {E : MK} {o : Nat} {M : MEM} {Q : Int32 → MEM → Prop} (hw : wp_X5_save o M Q) : gMet l E yX5_save rmX5_save [gR E o] M (qI Q) gNo := by
  obtain ⟨hk0, hw⟩ := hw
  refine g_met hl (cc := cX5_save) (maxL := 2) (ret := (some .int)) (hh := []) (loc := [(0, gR E o)]) (by decide +kernel) (Or.inl ⟨tw207, rfl⟩) (Nat.le_of_ble_eq_true rfl) rfl (fun K hK C => ?_)
  have C : GC K E cX5_save RX5 2 (some .int) [] rmX5_save := C
  refine g_iconst C dX5_save_0 (v := 0) rfl ?_
  refine g_istore_n C dX5_save_1 rfl (Nat.le_of_ble_eq_true rfl) (loc' := [(1, .int 0), (0, gR E o)]) rfl ?_
  obtain ⟨m2, hw⟩ := hw
  have hL2 : ∀ (n2 : Nat) (x1_1 : Int32) (M_2 : MEM), wp_X5_save_L2 o Q n2 x1_1 M_2 → GX K E 2 M_2 [(0, gR E o), (1, .int x1_1)] [] 2 0 0 (gEnd K E (qI Q) gNo rmX5_save.cells rmX5_save.slots) := by
    intro n2
    induction n2 with
    | zero => intro _ _ hw; exact False.elim hw
    | succ n2 ih2 =>
      intro x1_1 M_2 hw
      refine g_iload_n C dX5_save_2 1 rfl rfl ?_
      refine g_iconst C dX5_save_3 (v := 4) rfl ?_
      refine g_icmp_ge C dX5_save_4 (tgt := 28) (by decide) (fun c4 => ?_) (fun c4 => ?_)
      · have hw := hw.1 c4
        refine g_aload_n C dX5_save_28 0 rfl rfl ?_
        refine g_aload_n C dX5_save_29 0 rfl rfl ?_
        refine gf_RX5_82 C hk0 dX5_save_30 ?_
        refine pf_RX5_345 C hk0 dX5_save_33 ?_
        refine g_nmM (fun M_3 eM_3 => ?_)
        have hw := hw M_3 eM_3
        refine g_aload_n C dX5_save_36 0 rfl rfl ?_
        refine g_iconst C dX5_save_37 (v := 1) rfl ?_
        refine pf_RX5_348 C hk0 gB1 dX5_save_38 ?_
        refine g_nmM (fun M_4 eM_4 => ?_)
        have hw := hw M_4 eM_4
        refine g_aload_n C dX5_save_41 0 rfl rfl ?_
        refine g_cV C dX5_save_42 (met_X5_filledSlots C.st hw) (gc_X5_filledSlots _ (Nat.le_of_ble_eq_true rfl) (Nat.le_of_ble_eq_true rfl)) tw219 tw221 twp1 (ci := 5) rfl (by decide) hk0 rfl (Nat.le_of_ble_eq_true rfl) (c2 := 0) (s2 := 0) rfl rfl (Nat.le_of_ble_eq_true rfl) (Nat.le_of_ble_eq_true rfl) rfl (kIp (fun r_5 hw => ?_)) tNo
        exact g_iret C dX5_save_45 (Nat.le_of_ble_eq_true rfl) (Nat.le_of_ble_eq_true rfl) ⟨_, rfl, hw⟩
      · have hw := hw.2 c4
        refine g_aload_n C dX5_save_7 0 rfl rfl ?_
        refine gf_RX5_15 C hk0 dX5_save_8 ?_
        refine g_iload_n C dX5_save_11 1 rfl rfl ?_
        obtain ⟨hk_7, hw⟩ := hw
        obtain ⟨hi_8, hw⟩ := hw
        refine g_aaload C hk_7 hi_8 dX5_save_12 ?_
        refine g_aload_n C dX5_save_13 0 rfl rfl ?_
        refine gf_RX5_11 C hk0 dX5_save_14 ?_
        refine g_iload_n C dX5_save_17 1 rfl rfl ?_
        obtain ⟨hk_9, hw⟩ := hw
        obtain ⟨hi_10, hw⟩ := hw
        refine g_aaload C hk_9 hi_10 dX5_save_18 ?_
        obtain ⟨hk_13, hw⟩ := hw
        refine g_cV C dX5_save_19 (met_X4_become C.st hw) (gc_X4_become _ (Nat.le_of_ble_eq_true rfl) (Nat.le_of_ble_eq_true rfl)) tw208 tw209 tw210 (ci := 4) rfl (by decide) hk_13 rfl (Nat.le_of_ble_eq_true rfl) (c2 := 0) (s2 := 0) rfl rfl (Nat.le_of_ble_eq_true rfl) (Nat.le_of_ble_eq_true rfl) rfl (kV (fun M_12 hw => ?_)) tNo
        obtain ⟨x1_14, ex1_14⟩ : ∃ y : Int32, y = x1_1 + 1 := ⟨_, rfl⟩
        have hw := hw x1_14 ex1_14
        refine g_iinc C (j := 0) dX5_save_22 1 rfl (v := x1_14) (by rw [ex1_14]; rfl) (Nat.le_of_ble_eq_true rfl) (loc' := [(1, .int x1_14), (0, gR E o)]) rfl ?_
        refine g_goto C dX5_save_25 (tgt := 2) (by decide) ?_
        refine g_sub [1, 0] rfl ?_
        exact ih2 _ _ hw
  refine g_sub [1, 0] rfl ?_
  exact hL2 m2 _ _ hw
theorem gc_X5_save : ∀ rm : Room, rmX5_save.frames + 1 ≤ rm.frames → 8 + (2 + 11) + rmX5_save.locals ≤ rm.locals → gCall yX5_save 2 0 rmX5_save rm := fun rm a b => ⟨Or.inl ⟨_, _, tw207⟩, tw1, ⟨by decide, by decide⟩, by decide, a, b⟩
abbrev rmX5_restore : Room := { frames := 6, cells := 1, slots := 6, locals := 82 }
def wp_X5_restore_L20 (o : Nat) (Q : Int32 → MEM → Prop) : Nat → Int32 → MEM → Prop
  | 0, _, _ => False
  | n20 + 1, x1_1, M_2 => (4 ≤ x1_1 → ((∀ M_3 : MEM, M_3 = uI M_2 o 4 (mI M_2 o 3) → (KD (RF o 5) = (10, 0) ∧ wp_X0_forget (RF o 5) M_3 (fun M_5 => wp_X5_filledSlots o M_5 (fun r_7 => Q r_7 M_5)))))) ∧ (¬ 4 ≤ x1_1 → (KD (RF o 0) = (4, 4) ∧ vp_in x1_1 4 ∧ (KD (RF o 1) = (4, 4) ∧ vp_in x1_1 4 ∧ (KD (RF (RF o 0) x1_1.toNatClampNeg) = (14, 0) ∧ wp_X4_become (RF (RF o 0) x1_1.toNatClampNeg) (RF (RF o 1) x1_1.toNatClampNeg) M_2 (fun M_14 => ∀ x1_16 : Int32, x1_16 = x1_1 + 1 → ((wp_X5_restore_L20 o Q n20) x1_16 M_14))))))
def wp_X5_restore (o : Nat) (M : MEM) (Q : Int32 → MEM → Prop) (X : String → MEM → Prop) : Prop := KD o = (15, 0) ∧ ((¬ (mI M o 2) = 0 → (∃ m20 : Nat, wp_X5_restore_L20 o Q m20 0 M)) ∧ ((mI M o 2) = 0 → (X "java/lang/IllegalStateException" M)))
set_option maxRecDepth 100000 in
set_option maxHeartbeats 4000000 in
theorem met_X5_restore {l : Launch} (hl : l.stackTraces = false) {E : MK} {o : Nat} {M : MEM} {Q : Int32 → MEM → Prop} {X : String → MEM → Prop} (hw : wp_X5_restore o M Q X) : gMet l E yX5_restore rmX5_restore [gR E o] M (qI Q) (qE X) := by
  obtain ⟨hk0, hw⟩ := hw
  refine g_met hl (cc := cX5_restore) (maxL := 2) (ret := (some .int)) (hh := []) (loc := [(0, gR E o)]) (by decide +kernel) (Or.inl ⟨tw1020, rfl⟩) (Nat.le_of_ble_eq_true rfl) rfl (fun K hK C => ?_)
  have C : GC K E cX5_restore RX5 2 (some .int) [] rmX5_restore := C
  refine g_aload_n C dX5_restore_0 0 rfl rfl ?_
  refine gf_RX5_348 C hk0 dX5_restore_1 ?_
  refine g_if_ne C dX5_restore_4 (tgt := 18) (by decide) (fun c4 => ?_) (fun c4 => ?_)
  · have hw := hw.1 c4
    refine g_iconst C dX5_restore_18 (v := 0) rfl ?_
    refine g_istore_n C dX5_restore_19 rfl (Nat.le_of_ble_eq_true rfl) (loc' := [(1, .int 0), (0, gR E o)]) rfl ?_
    obtain ⟨m20, hw⟩ := hw
    have hL20 : ∀ (n20 : Nat) (x1_1 : Int32) (M_2 : MEM), wp_X5_restore_L20 o Q n20 x1_1 M_2 → GX K E 2 M_2 [(0, gR E o), (1, .int x1_1)] [] 20 0 0 (gEnd K E (qI Q) (qE X) rmX5_restore.cells rmX5_restore.slots) := by
      intro n20
      induction n20 with
      | zero => intro _ _ hw; exact False.elim hw
      | succ n20 ih20 =>
        intro x1_1 M_2 hw
        refine g_iload_n C dX5_restore_20 1 rfl rfl ?_
        refine g_iconst C dX5_restore_21 (v := 4) rfl ?_
        refine g_icmp_ge C dX5_restore_22 (tgt := 46) (by decide) (fun c22 => ?_) (fun c22 => ?_)
        · have hw := hw.1 c22
          refine g_aload_n C dX5_restore_46 0 rfl rfl ?_
          refine g_aload_n C dX5_restore_47 0 rfl rfl ?_
          refine gf_RX5_345 C hk0 dX5_restore_48 ?_
          refine pf_RX5_82 C hk0 dX5_restore_51 ?_
          refine g_nmM (fun M_3 eM_3 => ?_)
          have hw := hw M_3 eM_3
          refine g_aload_n C dX5_restore_54 0 rfl rfl ?_
          refine gf_RX5_22 C hk0 dX5_restore_55 ?_
          obtain ⟨hk_6, hw⟩ := hw
          refine g_cV C dX5_restore_58 (met_X0_forget C.st hw) (gc_X0_forget _ (Nat.le_of_ble_eq_true rfl) (Nat.le_of_ble_eq_true rfl)) tw1022 tw1023 tw1024 (ci := 0) rfl (by decide) hk_6 rfl (Nat.le_of_ble_eq_true rfl) (c2 := 0) (s2 := 0) rfl rfl (Nat.le_of_ble_eq_true rfl) (Nat.le_of_ble_eq_true rfl) rfl (kV (fun M_5 hw => ?_)) tNo
          refine g_aload_n C dX5_restore_61 0 rfl rfl ?_
          refine g_cV C dX5_restore_62 (met_X5_filledSlots C.st hw) (gc_X5_filledSlots _ (Nat.le_of_ble_eq_true rfl) (Nat.le_of_ble_eq_true rfl)) tw219 tw221 twp1 (ci := 5) rfl (by decide) hk0 rfl (Nat.le_of_ble_eq_true rfl) (c2 := 0) (s2 := 0) rfl rfl (Nat.le_of_ble_eq_true rfl) (Nat.le_of_ble_eq_true rfl) rfl (kIp (fun r_7 hw => ?_)) tNo
          exact g_iret C dX5_restore_65 (Nat.le_of_ble_eq_true rfl) (Nat.le_of_ble_eq_true rfl) ⟨_, rfl, hw⟩
        · have hw := hw.2 c22
          refine g_aload_n C dX5_restore_25 0 rfl rfl ?_
          refine gf_RX5_11 C hk0 dX5_restore_26 ?_
          refine g_iload_n C dX5_restore_29 1 rfl rfl ?_
          obtain ⟨hk_9, hw⟩ := hw
          obtain ⟨hi_10, hw⟩ := hw
          refine g_aaload C hk_9 hi_10 dX5_restore_30 ?_
          refine g_aload_n C dX5_restore_31 0 rfl rfl ?_
          refine gf_RX5_15 C hk0 dX5_restore_32 ?_
          refine g_iload_n C dX5_restore_35 1 rfl rfl ?_
          obtain ⟨hk_11, hw⟩ := hw
          obtain ⟨hi_12, hw⟩ := hw
          refine g_aaload C hk_11 hi_12 dX5_restore_36 ?_
          obtain ⟨hk_15, hw⟩ := hw
          refine g_cV C dX5_restore_37 (met_X4_become C.st hw) (gc_X4_become _ (Nat.le_of_ble_eq_true rfl) (Nat.le_of_ble_eq_true rfl)) tw208 tw209 tw210 (ci := 4) rfl (by decide) hk_15 rfl (Nat.le_of_ble_eq_true rfl) (c2 := 0) (s2 := 0) rfl rfl (Nat.le_of_ble_eq_true rfl) (Nat.le_of_ble_eq_true rfl) rfl (kV (fun M_14 hw => ?_)) tNo
          obtain ⟨x1_16, ex1_16⟩ : ∃ y : Int32, y = x1_1 + 1 := ⟨_, rfl⟩
          have hw := hw x1_16 ex1_16
          refine g_iinc C (j := 0) dX5_restore_40 1 rfl (v := x1_16) (by rw [ex1_16]; rfl) (Nat.le_of_ble_eq_true rfl) (loc' := [(1, .int x1_16), (0, gR E o)]) rfl ?_
          refine g_goto C dX5_restore_43 (tgt := 20) (by decide) ?_
          refine g_sub [1, 0] rfl ?_
          exact ih20 _ _ hw
    refine g_sub [1, 0] rfl ?_
    exact hL20 m20 _ _ hw
  · have hw := hw.2 c4
    exact g_throwSW C fit_IllegalStateException fit_N tw408 tw17 (List.mem_of_getElem? (i := 16) rfl) (List.mem_of_getElem? (i := 2) rfl) at_RX5_291 dX5_restore_7 dX5_restore_10 dX5_restore_11 dX5_restore_14 dX5_restore_17 (noTab _) (Nat.le_of_ble_eq_true rfl) (Nat.le_of_ble_eq_true rfl) (Nat.le_of_ble_eq_true rfl) (Nat.le_of_ble_eq_true rfl) (Nat.le_of_ble_eq_true rfl) (Nat.le_of_ble_eq_true rfl) hw
theorem gc_X5_restore : ∀ rm : Room, rmX5_restore.frames + 1 ≤ rm.frames → 8 + (2 + 11) + rmX5_restore.locals ≤ rm.locals → gCall yX5_restore 2 0 rmX5_restore rm := fun rm a b => ⟨Or.inl ⟨_, _, tw1020⟩, tw1, ⟨by decide, by decide⟩, by decide, a, b⟩
