abbrev rmX4_hasRoomFor : Room := { frames := 0, cells := 0, slots := 0, locals := 0 }
def wp_X4_hasRoomFor (o : Nat) (p1 : Int32) (M : MEM) (Q : Int32 → Prop) : Prop := KD o = (14, 0) ∧ ((¬ (mI M o 4) = 0 → (Q 1)) ∧ ((mI M o 4) = 0 → ((60 < ((mI M o 5) + p1) → (Q 0)) ∧ (¬ 60 < ((mI M o 5) + p1) → (Q 1)))))
set_option maxRecDepth 100000 in
set_option maxHeartbeats 4000000 in
theorem met_X4_hasRoomFor {l : Launch} (hl : l.stackTraces = false) {E : MK} {o : Nat} {p1 : Int32} {M : MEM} {Q : Int32 → Prop} (hw : wp_X4_hasRoomFor o p1 M Q) : gMet l E yX4_hasRoomFor rmX4_hasRoomFor [gR E o, .int p1] M (qIp M Q) gNo := by
  obtain ⟨hk0, hw⟩ := hw
  refine g_met hl (cc := cX4_hasRoomFor) (maxL := 2) (ret := (some .boolean)) (hh := []) (loc := [(0, gR E o), (1, .int p1)]) (by decide +kernel) (Or.inl ⟨tw430, rfl⟩) (Nat.le_of_ble_eq_true rfl) rfl (fun K hK C => ?_)
  have C : GC K E cX4_hasRoomFor RX4 2 (some .boolean) [] rmX4_hasRoomFor := C
  refine g_aload_n C dX4_hasRoomFor_0 0 rfl rfl ?_
  refine gf_RX4_35 C hk0 dX4_hasRoomFor_1 ?_
  refine g_if_ne C dX4_hasRoomFor_4 (tgt := 18) (by decide) (fun c4 => ?_) (fun c4 => ?_)
  · have hw := hw.1 c4
    refine g_iconst C dX4_hasRoomFor_18 (v := 1) rfl ?_
    refine g_goto C dX4_hasRoomFor_19 (tgt := 23) (by decide) ?_
    exact g_zret C dX4_hasRoomFor_23 gB1.1 (Nat.le_of_ble_eq_true rfl) (Nat.le_of_ble_eq_true rfl) ⟨_, rfl, rfl, hw⟩
  · have hw := hw.2 c4
    refine g_aload_n C dX4_hasRoomFor_7 0 rfl rfl ?_
    refine gf_RX4_22 C hk0 dX4_hasRoomFor_8 ?_
    refine g_iload_n C dX4_hasRoomFor_11 1 rfl rfl ?_
    refine g_iadd C dX4_hasRoomFor_12 ?_
    refine g_bipush C dX4_hasRoomFor_13 (v := 60) rfl ?_
    refine g_icmp_gt C dX4_hasRoomFor_15 (tgt := 22) (by decide) (fun c15 => ?_) (fun c15 => ?_)
    · have hw := hw.1 c15
      refine g_iconst C dX4_hasRoomFor_22 (v := 0) rfl ?_
      exact g_zret C dX4_hasRoomFor_23 gB0.1 (Nat.le_of_ble_eq_true rfl) (Nat.le_of_ble_eq_true rfl) ⟨_, rfl, rfl, hw⟩
    · have hw := hw.2 c15
      refine g_iconst C dX4_hasRoomFor_18 (v := 1) rfl ?_
      refine g_goto C dX4_hasRoomFor_19 (tgt := 23) (by decide) ?_
      exact g_zret C dX4_hasRoomFor_23 gB1.1 (Nat.le_of_ble_eq_true rfl) (Nat.le_of_ble_eq_true rfl) ⟨_, rfl, rfl, hw⟩
theorem gc_X4_hasRoomFor : ∀ rm : Room, rmX4_hasRoomFor.frames + 1 ≤ rm.frames → 8 + (2 + 11) + rmX4_hasRoomFor.locals ≤ rm.locals → gCall yX4_hasRoomFor 2 1 rmX4_hasRoomFor rm := fun rm a b => ⟨Or.inl ⟨_, _, tw430⟩, tw2, ⟨by decide, by decide⟩, by decide, a, b⟩
abbrev rmX4_lastNumber : Room := { frames := 1, cells := 0, slots := 0, locals := 22 }
def wp_X4_lastNumber (o : Nat) (M : MEM) (Q : Int32 → Prop) : Prop := KD o = (14, 0) ∧ ((¬ (mI M o 5) = 0 → (wp_X4_partAt o ((mI M o 5) - 1) 0 M (fun r_1 => Q r_1))) ∧ ((mI M o 5) = 0 → (Q (-1))))
set_option maxRecDepth 100000 in
set_option maxHeartbeats 4000000 in
theorem met_X4_lastNumber {l : Launch} (hl : l.stackTraces = false) {E : MK} {o : Nat} {M : MEM} {Q : Int32 → Prop} (hw : wp_X4_lastNumber o M Q) : gMet l E yX4_lastNumber rmX4_lastNumber [gR E o] M (qIp M Q) gNo := by
  obtain ⟨hk0, hw⟩ := hw
  refine g_met hl (cc := cX4_lastNumber) (maxL := 1) (ret := (some .int)) (hh := []) (loc := [(0, gR E o)]) (by decide +kernel) (Or.inl ⟨tw956, rfl⟩) (Nat.le_of_ble_eq_true rfl) rfl (fun K hK C => ?_)
  have C : GC K E cX4_lastNumber RX4 1 (some .int) [] rmX4_lastNumber := C
  refine g_aload_n C dX4_lastNumber_0 0 rfl rfl ?_
  refine gf_RX4_22 C hk0 dX4_lastNumber_1 ?_
  refine g_if_ne C dX4_lastNumber_4 (tgt := 11) (by decide) (fun c4 => ?_) (fun c4 => ?_)
  · have hw := hw.1 c4
    refine g_aload_n C dX4_lastNumber_11 0 rfl rfl ?_
    refine g_aload_n C dX4_lastNumber_12 0 rfl rfl ?_
    refine gf_RX4_22 C hk0 dX4_lastNumber_13 ?_
    refine g_iconst C dX4_lastNumber_16 (v := 1) rfl ?_
    refine g_isub C dX4_lastNumber_17 ?_
    refine g_iconst C dX4_lastNumber_18 (v := 0) rfl ?_
    refine g_cV C dX4_lastNumber_19 (met_X4_partAt C.st hw) (gc_X4_partAt _ (Nat.le_of_ble_eq_true rfl) (Nat.le_of_ble_eq_true rfl)) tw474 tw475 tw476 (ci := 4) rfl (by decide) hk0 rfl (Nat.le_of_ble_eq_true rfl) (c2 := 0) (s2 := 0) rfl rfl (Nat.le_of_ble_eq_true rfl) (Nat.le_of_ble_eq_true rfl) rfl (kIp (fun r_1 hw => ?_)) tNo
    exact g_iret C dX4_lastNumber_22 (Nat.le_of_ble_eq_true rfl) (Nat.le_of_ble_eq_true rfl) ⟨_, rfl, rfl, hw⟩
  · have hw := hw.2 c4
    refine g_iconst C dX4_lastNumber_7 (v := (-1)) rfl ?_
    refine g_goto C dX4_lastNumber_8 (tgt := 22) (by decide) ?_
    exact g_iret C dX4_lastNumber_22 (Nat.le_of_ble_eq_true rfl) (Nat.le_of_ble_eq_true rfl) ⟨_, rfl, rfl, hw⟩
theorem gc_X4_lastNumber : ∀ rm : Room, rmX4_lastNumber.frames + 1 ≤ rm.frames → 8 + (1 + 11) + rmX4_lastNumber.locals ≤ rm.locals → gCall yX4_lastNumber 1 0 rmX4_lastNumber rm := fun rm a b => ⟨Or.inl ⟨_, _, tw956⟩, tw2, ⟨by decide, by decide⟩, by decide, a, b⟩
abbrev rmX4_pushFrom : Room := { frames := 3, cells := 0, slots := 0, locals := 64 }
def wp_X4_pushFrom (o : Nat) (p1 : Nat) (p2 : Int32) (M : MEM) (Q : MEM → Prop) : Prop := KD o = (14, 0) ∧ (KD p1 = (14, 0) ∧ wp_X4_partAt p1 p2 0 M (fun r_1 => wp_X4_partAt p1 p2 1 M (fun r_4 => wp_X4_partAt p1 p2 2 M (fun r_6 => wp_X4_partAt p1 p2 3 M (fun r_8 => wp_X4_partAt p1 p2 4 M (fun r_10 => wp_X4_push o r_1 r_4 r_6 r_8 r_10 M (fun M_13 => Q M_13)))))))
set_option maxRecDepth 100000 in
set_option maxHeartbeats 4000000 in
theorem met_X4_pushFrom {l : Launch} (hl : l.stackTraces = false) {E : MK} {o : Nat} {p1 : Nat} {p2 : Int32} {M : MEM} {Q : MEM → Prop} (hw : wp_X4_pushFrom o p1 p2 M Q) : gMet l E yX4_pushFrom rmX4_pushFrom [gR E o, gR E p1, .int p2] M (qV Q) gNo := by
  obtain ⟨hk0, hw⟩ := hw
  refine g_met hl (cc := cX4_pushFrom) (maxL := 3) (ret := none) (hh := []) (loc := [(0, gR E o), (1, gR E p1), (2, .int p2)]) (by decide +kernel) (Or.inl ⟨tw634, rfl⟩) (Nat.le_of_ble_eq_true rfl) rfl (fun K hK C => ?_)
  have C : GC K E cX4_pushFrom RX4 3 none [] rmX4_pushFrom := C
  refine g_aload_n C dX4_pushFrom_0 0 rfl rfl ?_
  refine g_aload_n C dX4_pushFrom_1 1 rfl rfl ?_
  refine g_iload_n C dX4_pushFrom_2 2 rfl rfl ?_
  refine g_iconst C dX4_pushFrom_3 (v := 0) rfl ?_
  obtain ⟨hk_3, hw⟩ := hw
  refine g_cV C dX4_pushFrom_4 (met_X4_partAt C.st hw) (gc_X4_partAt _ (Nat.le_of_ble_eq_true rfl) (Nat.le_of_ble_eq_true rfl)) tw474 tw475 tw476 (ci := 4) rfl (by decide) hk_3 rfl (Nat.le_of_ble_eq_true rfl) (c2 := 0) (s2 := 0) rfl rfl (Nat.le_of_ble_eq_true rfl) (Nat.le_of_ble_eq_true rfl) rfl (kIp (fun r_1 hw => ?_)) tNo
  refine g_aload_n C dX4_pushFrom_7 1 rfl rfl ?_
  refine g_iload_n C dX4_pushFrom_8 2 rfl rfl ?_
  refine g_iconst C dX4_pushFrom_9 (v := 1) rfl ?_
  refine g_cV C dX4_pushFrom_10 (met_X4_partAt C.st hw) (gc_X4_partAt _ (Nat.le_of_ble_eq_true rfl) (Nat.le_of_ble_eq_true rfl)) tw474 tw475 tw476 (ci := 4) rfl (by decide) hk_3 rfl (Nat.le_of_ble_eq_true rfl) (c2 := 0) (s2 := 0) rfl rfl (Nat.le_of_ble_eq_true rfl) (Nat.le_of_ble_eq_true rfl) rfl (kIp (fun r_4 hw => ?_)) tNo
  refine g_aload_n C dX4_pushFrom_13 1 rfl rfl ?_
  refine g_iload_n C dX4_pushFrom_14 2 rfl rfl ?_
  refine g_iconst C dX4_pushFrom_15 (v := 2) rfl ?_
  refine g_cV C dX4_pushFrom_16 (met_X4_partAt C.st hw) (gc_X4_partAt _ (Nat.le_of_ble_eq_true rfl) (Nat.le_of_ble_eq_true rfl)) tw474 tw475 tw476 (ci := 4) rfl (by decide) hk_3 rfl (Nat.le_of_ble_eq_true rfl) (c2 := 0) (s2 := 0) rfl rfl (Nat.le_of_ble_eq_true rfl) (Nat.le_of_ble_eq_true rfl) rfl (kIp (fun r_6 hw => ?_)) tNo
  refine g_aload_n C dX4_pushFrom_19 1 rfl rfl ?_
  refine g_iload_n C dX4_pushFrom_20 2 rfl rfl ?_
  refine g_iconst C dX4_pushFrom_21 (v := 3) rfl ?_
  refine g_cV C dX4_pushFrom_22 (met_X4_partAt C.st hw) (gc_X4_partAt _ (Nat.le_of_ble_eq_true rfl) (Nat.le_of_ble_eq_true rfl)) tw474 tw475 tw476 (ci := 4) rfl (by decide) hk_3 rfl (Nat.le_of_ble_eq_true rfl) (c2 := 0) (s2 := 0) rfl rfl (Nat.le_of_ble_eq_true rfl) (Nat.le_of_ble_eq_true rfl) rfl (kIp (fun r_8 hw => ?_)) tNo
  refine g_aload_n C dX4_pushFrom_25 1 rfl rfl ?_
  refine g_iload_n C dX4_pushFrom_26 2 rfl rfl ?_
  refine g_iconst C dX4_pushFrom_27 (v := 4) rfl ?_
  refine g_cV C dX4_pushFrom_28 (met_X4_partAt C.st hw) (gc_X4_partAt _ (Nat.le_of_ble_eq_true rfl) (Nat.le_of_ble_eq_true rfl)) tw474 tw475 tw476 (ci := 4) rfl (by decide) hk_3 rfl (Nat.le_of_ble_eq_true rfl) (c2 := 0) (s2 := 0) rfl rfl (Nat.le_of_ble_eq_true rfl) (Nat.le_of_ble_eq_true rfl) rfl (kIp (fun r_10 hw => ?_)) tNo
  refine g_cV C dX4_pushFrom_31 (met_X4_push C.st hw) (gc_X4_push _ (Nat.le_of_ble_eq_true rfl) (Nat.le_of_ble_eq_true rfl)) tw635 tw433 tw434 (ci := 4) rfl (by decide) hk0 rfl (Nat.le_of_ble_eq_true rfl) (c2 := 0) (s2 := 0) rfl rfl (Nat.le_of_ble_eq_true rfl) (Nat.le_of_ble_eq_true rfl) rfl (kV (fun M_13 hw => ?_)) tNo
  exact g_vret C dX4_pushFrom_34 (Nat.le_of_ble_eq_true rfl) (Nat.le_of_ble_eq_true rfl) ⟨rfl, hw⟩
theorem gc_X4_pushFrom : ∀ rm : Room, rmX4_pushFrom.frames + 1 ≤ rm.frames → 8 + (3 + 11) + rmX4_pushFrom.locals ≤ rm.locals → gCall yX4_pushFrom 3 2 rmX4_pushFrom rm := fun rm a b => ⟨Or.inl ⟨_, _, tw634⟩, tw2, ⟨by decide, by decide⟩, by decide, a, b⟩
abbrev rmX4_join : Room := { frames := 4, cells := 0, slots := 0, locals := 86 }
def wp_X4_join_L88 (o : Nat) (p1 : Nat) (Q : MEM → Prop) : Nat → Int32 → MEM → Prop
  | 0, _, _ => False
  | n88 + 1, x3_8, M_9 => KD p1 = (14, 0) ∧ (((mI M_9 p1 5) ≤ x3_8 → (Q M_9)) ∧ (¬ (mI M_9 p1 5) ≤ x3_8 → (wp_X4_pushFrom o p1 x3_8 M_9 (fun M_12 => ∀ x3_13 : Int32, x3_13 = x3_8 + 1 → ((wp_X4_join_L88 o p1 Q n88) x3_13 M_12)))))
def wp_X4_join_L33 (o : Nat) (p1 : Nat) (p2 : Nat) (K15 : Int32 → Int32 → MEM → Prop) (x4_5 : Int32) (r_14 : Int32) : Nat → Int32 → MEM → Prop
  | 0, _, _ => False
  | n33 + 1, x3_16, M_17 => KD p1 = (14, 0) ∧ (((mI M_17 p1 5) ≤ x3_16 → (wp_X4_pushFrom o p2 x4_5 M_17 (fun M_20 => ∀ x4_21 : Int32, x4_21 = x4_5 + 1 → (K15 x3_16 x4_21 M_20)))) ∧ (¬ (mI M_17 p1 5) ≤ x3_16 → (wp_X4_partAt p1 x3_16 0 M_17 (fun r_22 => (r_14 < r_22 → (wp_X4_pushFrom o p2 x4_5 M_17 (fun M_25 => ∀ x4_26 : Int32, x4_26 = x4_5 + 1 → (K15 x3_16 x4_26 M_25)))) ∧ (¬ r_14 < r_22 → (wp_X4_partAt p1 x3_16 0 M_17 (fun r_27 => (r_14 ≤ r_27 → (∀ x3_29 : Int32, x3_29 = x3_16 + 1 → ((wp_X4_join_L33 o p1 p2 K15 x4_5 r_14 n33) x3_29 M_17))) ∧ (¬ r_14 ≤ r_27 → (wp_X4_pushFrom o p1 x3_16 M_17 (fun M_31 => ∀ x3_32 : Int32, x3_32 = x3_16 + 1 → ((wp_X4_join_L33 o p1 p2 K15 x4_5 r_14 n33) x3_32 M_31)))))))))))
def wp_X4_join_L15 (o : Nat) (p1 : Nat) (p2 : Nat) (Q : MEM → Prop) : Nat → Int32 → Int32 → MEM → Prop
  | 0, _, _, _ => False
  | n15 + 1, x3_4, x4_5, M_6 => KD p2 = (14, 0) ∧ (((mI M_6 p2 5) ≤ x4_5 → (∃ m88 : Nat, wp_X4_join_L88 o p1 Q m88 x3_4 M_6)) ∧ (¬ (mI M_6 p2 5) ≤ x4_5 → (wp_X4_partAt p2 x4_5 0 M_6 (fun r_14 => ∃ m33 : Nat, wp_X4_join_L33 o p1 p2 (wp_X4_join_L15 o p1 p2 Q n15) x4_5 r_14 m33 x3_4 M_6))))
def wp_X4_join (o : Nat) (p1 : Nat) (p2 : Nat) (M : MEM) (Q : MEM → Prop) : Prop := KD o = (14, 0) ∧ (wp_X4_takeSettings o p2 M (fun M_2 => (∀ M_3 : MEM, M_3 = uI M_2 o 5 0 → (∃ m15 : Nat, wp_X4_join_L15 o p1 p2 Q m15 0 0 M_3))))
set_option maxRecDepth 100000 in
set_option maxHeartbeats 4000000 in
theorem met_X4_join {l : Launch} (hl : l.stackTraces = false) {E : MK} {o : Nat} {p1 : Nat} {p2 : Nat} {M : MEM} {Q : MEM → Prop} (hw : wp_X4_join o p1 p2 M Q) : gMet l E yX4_join rmX4_join [gR E o, gR E p1, gR E p2] M (qV Q) gNo := by
  obtain ⟨hk0, hw⟩ := hw
  refine g_met hl (cc := cX4_join) (maxL := 6) (ret := none) (hh := []) (loc := [(0, gR E o), (1, gR E p1), (2, gR E p2)]) (by decide +kernel) (Or.inl ⟨tw630, rfl⟩) (Nat.le_of_ble_eq_true rfl) rfl (fun K hK C => ?_)
  have C : GC K E cX4_join RX4 6 none [] rmX4_join := C
  refine g_aload_n C dX4_join_0 0 rfl rfl ?_
  refine g_aload_n C dX4_join_1 2 rfl rfl ?_
  refine g_cV C dX4_join_2 (met_X4_takeSettings C.st hw) (gc_X4_takeSettings _ (Nat.le_of_ble_eq_true rfl) (Nat.le_of_ble_eq_true rfl)) tw212 tw214 twp0 (ci := 4) rfl (by decide) hk0 rfl (Nat.le_of_ble_eq_true rfl) (c2 := 0) (s2 := 0) rfl rfl (Nat.le_of_ble_eq_true rfl) (Nat.le_of_ble_eq_true rfl) rfl (kV (fun M_2 hw => ?_)) tNo
  refine g_aload_n C dX4_join_5 0 rfl rfl ?_
  refine g_iconst C dX4_join_6 (v := 0) rfl ?_
  refine pf_RX4_22 C hk0 dX4_join_7 ?_
  refine g_nmM (fun M_3 eM_3 => ?_)
  have hw := hw M_3 eM_3
  refine g_iconst C dX4_join_10 (v := 0) rfl ?_
  refine g_istore_n C dX4_join_11 rfl (Nat.le_of_ble_eq_true rfl) (loc' := [(3, .int 0), (0, gR E o), (1, gR E p1), (2, gR E p2)]) rfl ?_
  refine g_iconst C dX4_join_12 (v := 0) rfl ?_
  refine g_istore C dX4_join_13 (Nat.le_of_ble_eq_true rfl) (loc' := [(4, .int 0), (3, .int 0), (0, gR E o), (1, gR E p1), (2, gR E p2)]) rfl ?_
  obtain ⟨m15, hw⟩ := hw
  have hL15 : ∀ (n15 : Nat) (x3_4 : Int32) (x4_5 : Int32) (M_6 : MEM), wp_X4_join_L15 o p1 p2 Q n15 x3_4 x4_5 M_6 → GX K E 6 M_6 [(0, gR E o), (1, gR E p1), (2, gR E p2), (3, .int x3_4), (4, .int x4_5)] [] 15 0 0 (gEnd K E (qV Q) gNo rmX4_join.cells rmX4_join.slots) := by
    intro n15
    induction n15 with
    | zero => intro _ _ _ hw; exact False.elim hw
    | succ n15 ih15 =>
      intro x3_4 x4_5 M_6 hw
      refine g_iload C (j := 0) dX4_join_15 4 rfl ?_
      refine g_aload_n C dX4_join_17 2 rfl rfl ?_
      obtain ⟨hk_7, hw⟩ := hw
      refine gf_RX4_22 C hk_7 dX4_join_18 ?_
      refine g_icmp_ge C dX4_join_21 (tgt := 88) (by decide) (fun c21 => ?_) (fun c21 => ?_)
      · have hw := hw.1 c21
        obtain ⟨m88, hw⟩ := hw
        have hL88 : ∀ (n88 : Nat) (x3_8 : Int32) (M_9 : MEM), wp_X4_join_L88 o p1 Q n88 x3_8 M_9 → GX K E 6 M_9 [(0, gR E o), (1, gR E p1), (3, .int x3_8)] [] 88 0 0 (gEnd K E (qV Q) gNo rmX4_join.cells rmX4_join.slots) := by
          intro n88
          induction n88 with
          | zero => intro _ _ hw; exact False.elim hw
          | succ n88 ih88 =>
            intro x3_8 M_9 hw
            refine g_iload_n C dX4_join_88 2 rfl rfl ?_
            refine g_aload_n C dX4_join_89 1 rfl rfl ?_
            obtain ⟨hk_10, hw⟩ := hw
            refine gf_RX4_22 C hk_10 dX4_join_90 ?_
            refine g_icmp_ge C dX4_join_93 (tgt := 108) (by decide) (fun c93 => ?_) (fun c93 => ?_)
            · have hw := hw.1 c93
              exact g_vret C dX4_join_108 (Nat.le_of_ble_eq_true rfl) (Nat.le_of_ble_eq_true rfl) ⟨rfl, hw⟩
            · have hw := hw.2 c93
              refine g_aload_n C dX4_join_96 0 rfl rfl ?_
              refine g_aload_n C dX4_join_97 1 rfl rfl ?_
              refine g_iload_n C dX4_join_98 2 rfl rfl ?_
              refine g_cV C dX4_join_99 (met_X4_pushFrom C.st hw) (gc_X4_pushFrom _ (Nat.le_of_ble_eq_true rfl) (Nat.le_of_ble_eq_true rfl)) tw631 tw633 twp16 (ci := 4) rfl (by decide) hk0 rfl (Nat.le_of_ble_eq_true rfl) (c2 := 0) (s2 := 0) rfl rfl (Nat.le_of_ble_eq_true rfl) (Nat.le_of_ble_eq_true rfl) rfl (kV (fun M_12 hw => ?_)) tNo
              obtain ⟨x3_13, ex3_13⟩ : ∃ y : Int32, y = x3_8 + 1 := ⟨_, rfl⟩
              have hw := hw x3_13 ex3_13
              refine g_iinc C (j := 0) dX4_join_102 2 rfl (v := x3_13) (by rw [ex3_13]; rfl) (Nat.le_of_ble_eq_true rfl) (loc' := [(3, .int x3_13), (0, gR E o), (1, gR E p1)]) rfl ?_
              refine g_goto C dX4_join_105 (tgt := 88) (by decide) ?_
              refine g_sub [1, 2, 0] rfl ?_
              exact ih88 _ _ hw
        refine g_sub [0, 1, 3] rfl ?_
        exact hL88 m88 _ _ hw
      · have hw := hw.2 c21
        refine g_aload_n C dX4_join_24 2 rfl rfl ?_
        refine g_iload C (j := 0) dX4_join_25 4 rfl ?_
        refine g_iconst C dX4_join_27 (v := 0) rfl ?_
        refine g_cV C dX4_join_28 (met_X4_partAt C.st hw) (gc_X4_partAt _ (Nat.le_of_ble_eq_true rfl) (Nat.le_of_ble_eq_true rfl)) tw474 tw475 tw476 (ci := 4) rfl (by decide) hk_7 rfl (Nat.le_of_ble_eq_true rfl) (c2 := 0) (s2 := 0) rfl rfl (Nat.le_of_ble_eq_true rfl) (Nat.le_of_ble_eq_true rfl) rfl (kIp (fun r_14 hw => ?_)) tNo
        refine g_istore C dX4_join_31 (Nat.le_of_ble_eq_true rfl) (loc' := [(5, .int r_14), (0, gR E o), (1, gR E p1), (2, gR E p2), (3, .int x3_4), (4, .int x4_5)]) rfl ?_
        obtain ⟨m33, hw⟩ := hw
        have hL33 : ∀ (n33 : Nat) (x3_16 : Int32) (M_17 : MEM), wp_X4_join_L33 o p1 p2 (wp_X4_join_L15 o p1 p2 Q n15) x4_5 r_14 n33 x3_16 M_17 → GX K E 6 M_17 [(0, gR E o), (1, gR E p1), (2, gR E p2), (3, .int x3_16), (4, .int x4_5), (5, .int r_14)] [] 33 0 0 (gEnd K E (qV Q) gNo rmX4_join.cells rmX4_join.slots) := by
          intro n33
          induction n33 with
          | zero => intro _ _ hw; exact False.elim hw
          | succ n33 ih33 =>
            intro x3_16 M_17 hw
            refine g_iload_n C dX4_join_33 3 rfl rfl ?_
            refine g_aload_n C dX4_join_34 1 rfl rfl ?_
            obtain ⟨hk_18, hw⟩ := hw
            refine gf_RX4_22 C hk_18 dX4_join_35 ?_
            refine g_icmp_ge C dX4_join_38 (tgt := 75) (by decide) (fun c38 => ?_) (fun c38 => ?_)
            · have hw := hw.1 c38
              refine g_aload_n C dX4_join_75 0 rfl rfl ?_
              refine g_aload_n C dX4_join_76 2 rfl rfl ?_
              refine g_iload C (j := 0) dX4_join_77 4 rfl ?_
              refine g_cV C dX4_join_79 (met_X4_pushFrom C.st hw) (gc_X4_pushFrom _ (Nat.le_of_ble_eq_true rfl) (Nat.le_of_ble_eq_true rfl)) tw631 tw633 twp16 (ci := 4) rfl (by decide) hk0 rfl (Nat.le_of_ble_eq_true rfl) (c2 := 0) (s2 := 0) rfl rfl (Nat.le_of_ble_eq_true rfl) (Nat.le_of_ble_eq_true rfl) rfl (kV (fun M_20 hw => ?_)) tNo
              obtain ⟨x4_21, ex4_21⟩ : ∃ y : Int32, y = x4_5 + 1 := ⟨_, rfl⟩
              have hw := hw x4_21 ex4_21
              refine g_iinc C (j := 0) dX4_join_82 4 rfl (v := x4_21) (by rw [ex4_21]; rfl) (Nat.le_of_ble_eq_true rfl) (loc' := [(4, .int x4_21), (0, gR E o), (1, gR E p1), (2, gR E p2), (3, .int x3_16), (5, .int r_14)]) rfl ?_
              refine g_goto C dX4_join_85 (tgt := 15) (by decide) ?_
              refine g_sub [1, 2, 3, 4, 0] rfl ?_
              exact ih15 _ _ _ hw
            · have hw := hw.2 c38
              refine g_aload_n C dX4_join_41 1 rfl rfl ?_
              refine g_iload_n C dX4_join_42 3 rfl rfl ?_
              refine g_iconst C dX4_join_43 (v := 0) rfl ?_
              refine g_cV C dX4_join_44 (met_X4_partAt C.st hw) (gc_X4_partAt _ (Nat.le_of_ble_eq_true rfl) (Nat.le_of_ble_eq_true rfl)) tw474 tw475 tw476 (ci := 4) rfl (by decide) hk_18 rfl (Nat.le_of_ble_eq_true rfl) (c2 := 0) (s2 := 0) rfl rfl (Nat.le_of_ble_eq_true rfl) (Nat.le_of_ble_eq_true rfl) rfl (kIp (fun r_22 hw => ?_)) tNo
              refine g_iload C (j := 0) dX4_join_47 5 rfl ?_
              refine g_icmp_gt C dX4_join_49 (tgt := 75) (by decide) (fun c49 => ?_) (fun c49 => ?_)
              · have hw := hw.1 c49
                refine g_aload_n C dX4_join_75 0 rfl rfl ?_
                refine g_aload_n C dX4_join_76 2 rfl rfl ?_
                refine g_iload C (j := 0) dX4_join_77 4 rfl ?_
                refine g_cV C dX4_join_79 (met_X4_pushFrom C.st hw) (gc_X4_pushFrom _ (Nat.le_of_ble_eq_true rfl) (Nat.le_of_ble_eq_true rfl)) tw631 tw633 twp16 (ci := 4) rfl (by decide) hk0 rfl (Nat.le_of_ble_eq_true rfl) (c2 := 0) (s2 := 0) rfl rfl (Nat.le_of_ble_eq_true rfl) (Nat.le_of_ble_eq_true rfl) rfl (kV (fun M_25 hw => ?_)) tNo
                obtain ⟨x4_26, ex4_26⟩ : ∃ y : Int32, y = x4_5 + 1 := ⟨_, rfl⟩
                have hw := hw x4_26 ex4_26
                refine g_iinc C (j := 0) dX4_join_82 4 rfl (v := x4_26) (by rw [ex4_26]; rfl) (Nat.le_of_ble_eq_true rfl) (loc' := [(4, .int x4_26), (0, gR E o), (1, gR E p1), (2, gR E p2), (3, .int x3_16), (5, .int r_14)]) rfl ?_
                refine g_goto C dX4_join_85 (tgt := 15) (by decide) ?_
                refine g_sub [1, 2, 3, 4, 0] rfl ?_
                exact ih15 _ _ _ hw
              · have hw := hw.2 c49
                refine g_aload_n C dX4_join_52 1 rfl rfl ?_
                refine g_iload_n C dX4_join_53 3 rfl rfl ?_
                refine g_iconst C dX4_join_54 (v := 0) rfl ?_
                refine g_cV C dX4_join_55 (met_X4_partAt C.st hw) (gc_X4_partAt _ (Nat.le_of_ble_eq_true rfl) (Nat.le_of_ble_eq_true rfl)) tw474 tw475 tw476 (ci := 4) rfl (by decide) hk_18 rfl (Nat.le_of_ble_eq_true rfl) (c2 := 0) (s2 := 0) rfl rfl (Nat.le_of_ble_eq_true rfl) (Nat.le_of_ble_eq_true rfl) rfl (kIp (fun r_27 hw => ?_)) tNo
                refine g_iload C (j := 0) dX4_join_58 5 rfl ?_
                refine g_icmp_ge C dX4_join_60 (tgt := 69) (by decide) (fun c60 => ?_) (fun c60 => ?_)
                · have hw := hw.1 c60
                  obtain ⟨x3_29, ex3_29⟩ : ∃ y : Int32, y = x3_16 + 1 := ⟨_, rfl⟩
                  have hw := hw x3_29 ex3_29
                  refine g_iinc C (j := 0) dX4_join_69 3 rfl (v := x3_29) (by rw [ex3_29]; rfl) (Nat.le_of_ble_eq_true rfl) (loc' := [(3, .int x3_29), (0, gR E o), (1, gR E p1), (2, gR E p2), (4, .int x4_5), (5, .int r_14)]) rfl ?_
                  refine g_goto C dX4_join_72 (tgt := 33) (by decide) ?_
                  refine g_sub [1, 2, 3, 0, 4, 5] rfl ?_
                  exact ih33 _ _ hw
                · have hw := hw.2 c60
                  refine g_aload_n C dX4_join_63 0 rfl rfl ?_
                  refine g_aload_n C dX4_join_64 1 rfl rfl ?_
                  refine g_iload_n C dX4_join_65 3 rfl rfl ?_
                  refine g_cV C dX4_join_66 (met_X4_pushFrom C.st hw) (gc_X4_pushFrom _ (Nat.le_of_ble_eq_true rfl) (Nat.le_of_ble_eq_true rfl)) tw631 tw633 twp16 (ci := 4) rfl (by decide) hk0 rfl (Nat.le_of_ble_eq_true rfl) (c2 := 0) (s2 := 0) rfl rfl (Nat.le_of_ble_eq_true rfl) (Nat.le_of_ble_eq_true rfl) rfl (kV (fun M_31 hw => ?_)) tNo
                  obtain ⟨x3_32, ex3_32⟩ : ∃ y : Int32, y = x3_16 + 1 := ⟨_, rfl⟩
                  have hw := hw x3_32 ex3_32
                  refine g_iinc C (j := 0) dX4_join_69 3 rfl (v := x3_32) (by rw [ex3_32]; rfl) (Nat.le_of_ble_eq_true rfl) (loc' := [(3, .int x3_32), (0, gR E o), (1, gR E p1), (2, gR E p2), (4, .int x4_5), (5, .int r_14)]) rfl ?_
                  refine g_goto C dX4_join_72 (tgt := 33) (by decide) ?_
                  refine g_sub [1, 2, 3, 0, 4, 5] rfl ?_
                  exact ih33 _ _ hw
        refine g_sub [1, 2, 3, 4, 5, 0] rfl ?_
        exact hL33 m33 _ _ hw
  refine g_sub [2, 3, 4, 1, 0] rfl ?_
  exact hL15 m15 _ _ _ hw
theorem gc_X4_join : ∀ rm : Room, rmX4_join.frames + 1 ≤ rm.frames → 8 + (6 + 11) + rmX4_join.locals ≤ rm.locals → gCall yX4_join 6 2 rmX4_join rm := fun rm a b => ⟨Or.inl ⟨_, _, tw630⟩, tw2, ⟨by decide, by decide⟩, by decide, a, b⟩
abbrev rmX4_hasNumber : Room := { frames := 1, cells := 0, slots := 0, locals := 22 }
def wp_X4_hasNumber_L2 (o : Nat) (p1 : Int32) (M : MEM) (Q : Int32 → Prop) : Nat → Int32 → Prop
  | 0, _ => False
  | n2 + 1, x2_1 => ((mI M o 5) ≤ x2_1 → (Q 0)) ∧ (¬ (mI M o 5) ≤ x2_1 → (wp_X4_partAt o x2_1 0 M (fun r_2 => (¬ r_2 = p1 → (∀ x2_4 : Int32, x2_4 = x2_1 + 1 → ((wp_X4_hasNumber_L2 o p1 M Q n2) x2_4))) ∧ (r_2 = p1 → (Q 1)))))
def wp_X4_hasNumber (o : Nat) (p1 : Int32) (M : MEM) (Q : Int32 → Prop) : Prop := KD o = (14, 0) ∧ (∃ m2 : Nat, wp_X4_hasNumber_L2 o p1 M Q m2 0)
set_option maxRecDepth 100000 in
set_option maxHeartbeats 4000000 in
theorem met_X4_hasNumber {l : Launch} (hl : l.stackTraces = false) {E : MK} {o : Nat} {p1 : Int32} {M : MEM} {Q : Int32 → Prop} (hw : wp_X4_hasNumber o p1 M Q) : gMet l E yX4_hasNumber rmX4_hasNumber [gR E o, .int p1] M (qIp M Q) gNo := by
  obtain ⟨hk0, hw⟩ := hw
  refine g_met hl (cc := cX4_hasNumber) (maxL := 3) (ret := (some .boolean)) (hh := []) (loc := [(0, gR E o), (1, .int p1)]) (by decide +kernel) (Or.inl ⟨tw626, rfl⟩) (Nat.le_of_ble_eq_true rfl) rfl (fun K hK C => ?_)
  have C : GC K E cX4_hasNumber RX4 3 (some .boolean) [] rmX4_hasNumber := C
  refine g_iconst C dX4_hasNumber_0 (v := 0) rfl ?_
  refine g_istore_n C dX4_hasNumber_1 rfl (Nat.le_of_ble_eq_true rfl) (loc' := [(2, .int 0), (0, gR E o), (1, .int p1)]) rfl ?_
  obtain ⟨m2, hw⟩ := hw
  have hL2 : ∀ (n2 : Nat) (x2_1 : Int32), wp_X4_hasNumber_L2 o p1 M Q n2 x2_1 → GX K E 3 M [(0, gR E o), (1, .int p1), (2, .int x2_1)] [] 2 0 0 (gEnd K E (qIp M Q) gNo rmX4_hasNumber.cells rmX4_hasNumber.slots) := by
    intro n2
    induction n2 with
    | zero => intro _ hw; exact False.elim hw
    | succ n2 ih2 =>
      intro x2_1 hw
      refine g_iload_n C dX4_hasNumber_2 2 rfl rfl ?_
      refine g_aload_n C dX4_hasNumber_3 0 rfl rfl ?_
      refine gf_RX4_22 C hk0 dX4_hasNumber_4 ?_
      refine g_icmp_ge C dX4_hasNumber_7 (tgt := 28) (by decide) (fun c7 => ?_) (fun c7 => ?_)
      · have hw := hw.1 c7
        refine g_iconst C dX4_hasNumber_28 (v := 0) rfl ?_
        exact g_zret C dX4_hasNumber_29 gB0.1 (Nat.le_of_ble_eq_true rfl) (Nat.le_of_ble_eq_true rfl) ⟨_, rfl, rfl, hw⟩
      · have hw := hw.2 c7
        refine g_aload_n C dX4_hasNumber_10 0 rfl rfl ?_
        refine g_iload_n C dX4_hasNumber_11 2 rfl rfl ?_
        refine g_iconst C dX4_hasNumber_12 (v := 0) rfl ?_
        refine g_cV C dX4_hasNumber_13 (met_X4_partAt C.st hw) (gc_X4_partAt _ (Nat.le_of_ble_eq_true rfl) (Nat.le_of_ble_eq_true rfl)) tw474 tw475 tw476 (ci := 4) rfl (by decide) hk0 rfl (Nat.le_of_ble_eq_true rfl) (c2 := 0) (s2 := 0) rfl rfl (Nat.le_of_ble_eq_true rfl) (Nat.le_of_ble_eq_true rfl) rfl (kIp (fun r_2 hw => ?_)) tNo
        refine g_iload_n C dX4_hasNumber_16 1 rfl rfl ?_
        refine g_icmp_ne C dX4_hasNumber_17 (tgt := 22) (by decide) (fun c17 => ?_) (fun c17 => ?_)
        · have hw := hw.1 c17
          obtain ⟨x2_4, ex2_4⟩ : ∃ y : Int32, y = x2_1 + 1 := ⟨_, rfl⟩
          have hw := hw x2_4 ex2_4
          refine g_iinc C (j := 0) dX4_hasNumber_22 2 rfl (v := x2_4) (by rw [ex2_4]; rfl) (Nat.le_of_ble_eq_true rfl) (loc' := [(2, .int x2_4), (0, gR E o), (1, .int p1)]) rfl ?_
          refine g_goto C dX4_hasNumber_25 (tgt := 2) (by decide) ?_
          refine g_sub [1, 2, 0] rfl ?_
          exact ih2 _ hw
        · have hw := hw.2 c17
          refine g_iconst C dX4_hasNumber_20 (v := 1) rfl ?_
          exact g_zret C dX4_hasNumber_21 gB1.1 (Nat.le_of_ble_eq_true rfl) (Nat.le_of_ble_eq_true rfl) ⟨_, rfl, rfl, hw⟩
  refine g_sub [1, 2, 0] rfl ?_
  exact hL2 m2 _ hw
theorem gc_X4_hasNumber : ∀ rm : Room, rmX4_hasNumber.frames + 1 ≤ rm.frames → 8 + (3 + 11) + rmX4_hasNumber.locals ≤ rm.locals → gCall yX4_hasNumber 3 1 rmX4_hasNumber rm := fun rm a b => ⟨Or.inl ⟨_, _, tw626⟩, tw2, ⟨by decide, by decide⟩, by decide, a, b⟩
abbrev rmX4_missingOf : Room := { frames := 2, cells := 0, slots := 0, locals := 44 }
def wp_X4_missingOf_L4 (o : Nat) (p1 : Nat) (M : MEM) (Q : Int32 → Prop) : Nat → Int32 → Int32 → Prop
  | 0, _, _ => False
  | n4 + 1, x2_1, x3_2 => KD p1 = (14, 0) ∧ (((mI M p1 5) ≤ x3_2 → (Q x2_1)) ∧ (¬ (mI M p1 5) ≤ x3_2 → (wp_X4_partAt p1 x3_2 0 M (fun r_4 => wp_X4_hasNumber o r_4 M (fun r_6 => (¬ r_6 = 0 → (∀ x3_8 : Int32, x3_8 = x3_2 + 1 → ((wp_X4_missingOf_L4 o p1 M Q n4) x2_1 x3_8))) ∧ (r_6 = 0 → (∀ x2_9 : Int32, x2_9 = x2_1 + 1 → (∀ x3_10 : Int32, x3_10 = x3_2 + 1 → ((wp_X4_missingOf_L4 o p1 M Q n4) x2_9 x3_10)))))))))
def wp_X4_missingOf (o : Nat) (p1 : Nat) (M : MEM) (Q : Int32 → Prop) : Prop := KD o = (14, 0) ∧ (∃ m4 : Nat, wp_X4_missingOf_L4 o p1 M Q m4 0 0)
set_option maxRecDepth 100000 in
set_option maxHeartbeats 4000000 in
theorem met_X4_missingOf {l : Launch} (hl : l.stackTraces = false) {E : MK} {o : Nat} {p1 : Nat} {M : MEM} {Q : Int32 → Prop} (hw : wp_X4_missingOf o p1 M Q) : gMet l E yX4_missingOf rmX4_missingOf [gR E o, gR E p1] M (qIp M Q) gNo := by
  obtain ⟨hk0, hw⟩ := hw
  refine g_met hl (cc := cX4_missingOf) (maxL := 4) (ret := (some .int)) (hh := []) (loc := [(0, gR E o), (1, gR E p1)]) (by decide +kernel) (Or.inl ⟨tw622, rfl⟩) (Nat.le_of_ble_eq_true rfl) rfl (fun K hK C => ?_)
  have C : GC K E cX4_missingOf RX4 4 (some .int) [] rmX4_missingOf := C
  refine g_iconst C dX4_missingOf_0 (v := 0) rfl ?_
  refine g_istore_n C dX4_missingOf_1 rfl (Nat.le_of_ble_eq_true rfl) (loc' := [(2, .int 0), (0, gR E o), (1, gR E p1)]) rfl ?_
  refine g_iconst C dX4_missingOf_2 (v := 0) rfl ?_
  refine g_istore_n C dX4_missingOf_3 rfl (Nat.le_of_ble_eq_true rfl) (loc' := [(3, .int 0), (2, .int 0), (0, gR E o), (1, gR E p1)]) rfl ?_
  obtain ⟨m4, hw⟩ := hw
  have hL4 : ∀ (n4 : Nat) (x2_1 : Int32) (x3_2 : Int32), wp_X4_missingOf_L4 o p1 M Q n4 x2_1 x3_2 → GX K E 4 M [(0, gR E o), (1, gR E p1), (2, .int x2_1), (3, .int x3_2)] [] 4 0 0 (gEnd K E (qIp M Q) gNo rmX4_missingOf.cells rmX4_missingOf.slots) := by
    intro n4
    induction n4 with
    | zero => intro _ _ hw; exact False.elim hw
    | succ n4 ih4 =>
      intro x2_1 x3_2 hw
      refine g_iload_n C dX4_missingOf_4 3 rfl rfl ?_
      refine g_aload_n C dX4_missingOf_5 1 rfl rfl ?_
      obtain ⟨hk_3, hw⟩ := hw
      refine gf_RX4_22 C hk_3 dX4_missingOf_6 ?_
      refine g_icmp_ge C dX4_missingOf_9 (tgt := 34) (by decide) (fun c9 => ?_) (fun c9 => ?_)
      · have hw := hw.1 c9
        refine g_iload_n C dX4_missingOf_34 2 rfl rfl ?_
        exact g_iret C dX4_missingOf_35 (Nat.le_of_ble_eq_true rfl) (Nat.le_of_ble_eq_true rfl) ⟨_, rfl, rfl, hw⟩
      · have hw := hw.2 c9
        refine g_aload_n C dX4_missingOf_12 0 rfl rfl ?_
        refine g_aload_n C dX4_missingOf_13 1 rfl rfl ?_
        refine g_iload_n C dX4_missingOf_14 3 rfl rfl ?_
        refine g_iconst C dX4_missingOf_15 (v := 0) rfl ?_
        refine g_cV C dX4_missingOf_16 (met_X4_partAt C.st hw) (gc_X4_partAt _ (Nat.le_of_ble_eq_true rfl) (Nat.le_of_ble_eq_true rfl)) tw474 tw475 tw476 (ci := 4) rfl (by decide) hk_3 rfl (Nat.le_of_ble_eq_true rfl) (c2 := 0) (s2 := 0) rfl rfl (Nat.le_of_ble_eq_true rfl) (Nat.le_of_ble_eq_true rfl) rfl (kIp (fun r_4 hw => ?_)) tNo
        refine g_cV C dX4_missingOf_19 (met_X4_hasNumber C.st hw) (gc_X4_hasNumber _ (Nat.le_of_ble_eq_true rfl) (Nat.le_of_ble_eq_true rfl)) tw623 tw625 twp15 (ci := 4) rfl (by decide) hk0 rfl (Nat.le_of_ble_eq_true rfl) (c2 := 0) (s2 := 0) rfl rfl (Nat.le_of_ble_eq_true rfl) (Nat.le_of_ble_eq_true rfl) rfl (kIp (fun r_6 hw => ?_)) tNo
        refine g_if_ne C dX4_missingOf_22 (tgt := 28) (by decide) (fun c22 => ?_) (fun c22 => ?_)
        · have hw := hw.1 c22
          obtain ⟨x3_8, ex3_8⟩ : ∃ y : Int32, y = x3_2 + 1 := ⟨_, rfl⟩
          have hw := hw x3_8 ex3_8
          refine g_iinc C (j := 0) dX4_missingOf_28 3 rfl (v := x3_8) (by rw [ex3_8]; rfl) (Nat.le_of_ble_eq_true rfl) (loc' := [(3, .int x3_8), (0, gR E o), (1, gR E p1), (2, .int x2_1)]) rfl ?_
          refine g_goto C dX4_missingOf_31 (tgt := 4) (by decide) ?_
          refine g_sub [1, 2, 3, 0] rfl ?_
          exact ih4 _ _ hw
        · have hw := hw.2 c22
          obtain ⟨x2_9, ex2_9⟩ : ∃ y : Int32, y = x2_1 + 1 := ⟨_, rfl⟩
          have hw := hw x2_9 ex2_9
          refine g_iinc C (j := 0) dX4_missingOf_25 2 rfl (v := x2_9) (by rw [ex2_9]; rfl) (Nat.le_of_ble_eq_true rfl) (loc' := [(2, .int x2_9), (0, gR E o), (1, gR E p1), (3, .int x3_2)]) rfl ?_
          obtain ⟨x3_10, ex3_10⟩ : ∃ y : Int32, y = x3_2 + 1 := ⟨_, rfl⟩
          have hw := hw x3_10 ex3_10
          refine g_iinc C (j := 0) dX4_missingOf_28 3 rfl (v := x3_10) (by rw [ex3_10]; rfl) (Nat.le_of_ble_eq_true rfl) (loc' := [(3, .int x3_10), (2, .int x2_9), (0, gR E o), (1, gR E p1)]) rfl ?_
          refine g_goto C dX4_missingOf_31 (tgt := 4) (by decide) ?_
          refine g_sub [2, 3, 1, 0] rfl ?_
          exact ih4 _ _ hw
  refine g_sub [2, 3, 1, 0] rfl ?_
  exact hL4 m4 _ _ hw
theorem gc_X4_missingOf : ∀ rm : Room, rmX4_missingOf.frames + 1 ≤ rm.frames → 8 + (4 + 11) + rmX4_missingOf.locals ≤ rm.locals → gCall yX4_missingOf 4 1 rmX4_missingOf rm := fun rm a b => ⟨Or.inl ⟨_, _, tw622⟩, tw2, ⟨by decide, by decide⟩, by decide, a, b⟩
abbrev rmX4_putQuota : Room := { frames := 0, cells := 0, slots := 0, locals := 0 }
def wp_X4_putQuota (o : Nat) (p1 : Int32) (p2 : Int32) (M : MEM) (Q : MEM → Prop) : Prop := KD o = (14, 0) ∧ ((p1 < 0 → (Q M)) ∧ (¬ p1 < 0 → ((4 ≤ p1 → (Q M)) ∧ (¬ 4 ≤ p1 → ((KD (RF o 6) = (0, 4) ∧ (vp_in p1 4 ∧ (∀ M_3 : MEM, M_3 = uI M (RF o 6) p1.toNatClampNeg p2 → (Q M_3)))))))))
set_option maxRecDepth 100000 in
set_option maxHeartbeats 4000000 in
theorem met_X4_putQuota {l : Launch} (hl : l.stackTraces = false) {E : MK} {o : Nat} {p1 : Int32} {p2 : Int32} {M : MEM} {Q : MEM → Prop} (hw : wp_X4_putQuota o p1 p2 M Q) : gMet l E yX4_putQuota rmX4_putQuota [gR E o, .int p1, .int p2] M (qV Q) gNo := by
  obtain ⟨hk0, hw⟩ := hw
  refine g_met hl (cc := cX4_putQuota) (maxL := 3) (ret := none) (hh := []) (loc := [(0, gR E o), (1, .int p1), (2, .int p2)]) (by decide +kernel) (Or.inl ⟨tw550, rfl⟩) (Nat.le_of_ble_eq_true rfl) rfl (fun K hK C => ?_)
  have C : GC K E cX4_putQuota RX4 3 none [] rmX4_putQuota := C
  refine g_iload_n C dX4_putQuota_0 1 rfl rfl ?_
  refine g_if_lt C dX4_putQuota_1 (tgt := 16) (by decide) (fun c1 => ?_) (fun c1 => ?_)
  · have hw := hw.1 c1
    exact g_vret C dX4_putQuota_16 (Nat.le_of_ble_eq_true rfl) (Nat.le_of_ble_eq_true rfl) ⟨rfl, hw⟩
  · have hw := hw.2 c1
    refine g_iload_n C dX4_putQuota_4 1 rfl rfl ?_
    refine g_iconst C dX4_putQuota_5 (v := 4) rfl ?_
    refine g_icmp_ge C dX4_putQuota_6 (tgt := 16) (by decide) (fun c6 => ?_) (fun c6 => ?_)
    · have hw := hw.1 c6
      exact g_vret C dX4_putQuota_16 (Nat.le_of_ble_eq_true rfl) (Nat.le_of_ble_eq_true rfl) ⟨rfl, hw⟩
    · have hw := hw.2 c6
      refine g_aload_n C dX4_putQuota_9 0 rfl rfl ?_
      refine gf_RX4_9 C hk0 dX4_putQuota_10 ?_
      refine g_iload_n C dX4_putQuota_13 1 rfl rfl ?_
      refine g_iload_n C dX4_putQuota_14 2 rfl rfl ?_
      obtain ⟨hk_1, hw⟩ := hw
      obtain ⟨hi_2, hw⟩ := hw
      refine g_iastore C hk_1 hi_2 dX4_putQuota_15 ?_
      refine g_nmM (fun M_3 eM_3 => ?_)
      have hw := hw M_3 eM_3
      exact g_vret C dX4_putQuota_16 (Nat.le_of_ble_eq_true rfl) (Nat.le_of_ble_eq_true rfl) ⟨rfl, hw⟩
theorem gc_X4_putQuota : ∀ rm : Room, rmX4_putQuota.frames + 1 ≤ rm.frames → 8 + (3 + 11) + rmX4_putQuota.locals ≤ rm.locals → gCall yX4_putQuota 3 2 rmX4_putQuota rm := fun rm a b => ⟨Or.inl ⟨_, _, tw550⟩, tw2, ⟨by decide, by decide⟩, by decide, a, b⟩
abbrev rmX4_differentKeys : Room := { frames := 2, cells := 0, slots := 0, locals := 45 }
def wp_X4_differentKeys_L4 (o : Nat) (M : MEM) (Q : Int32 → Prop) : Nat → Int32 → Int32 → Prop
  | 0, _, _ => False
  | n4 + 1, x1_1, x2_2 => ((mI M o 5) ≤ x2_2 → (Q x1_1)) ∧ (¬ (mI M o 5) ≤ x2_2 → (wp_X4_isFirstOfKey o x2_2 M (fun r_3 => (r_3 = 0 → (∀ x2_5 : Int32, x2_5 = x2_2 + 1 → ((wp_X4_differentKeys_L4 o M Q n4) x1_1 x2_5))) ∧ (¬ r_3 = 0 → (∀ x1_6 : Int32, x1_6 = x1_1 + 1 → (∀ x2_7 : Int32, x2_7 = x2_2 + 1 → ((wp_X4_differentKeys_L4 o M Q n4) x1_6 x2_7)))))))
def wp_X4_differentKeys (o : Nat) (M : MEM) (Q : Int32 → Prop) : Prop := KD o = (14, 0) ∧ (∃ m4 : Nat, wp_X4_differentKeys_L4 o M Q m4 0 0)
set_option maxRecDepth 100000 in
set_option maxHeartbeats 4000000 in
theorem met_X4_differentKeys {l : Launch} (hl : l.stackTraces = false) {E : MK} {o : Nat} {M : MEM} {Q : Int32 → Prop} (hw : wp_X4_differentKeys o M Q) : gMet l E yX4_differentKeys rmX4_differentKeys [gR E o] M (qIp M Q) gNo := by
  obtain ⟨hk0, hw⟩ := hw
  refine g_met hl (cc := cX4_differentKeys) (maxL := 3) (ret := (some .int)) (hh := []) (loc := [(0, gR E o)]) (by decide +kernel) (Or.inl ⟨tw533, rfl⟩) (Nat.le_of_ble_eq_true rfl) rfl (fun K hK C => ?_)
  have C : GC K E cX4_differentKeys RX4 3 (some .int) [] rmX4_differentKeys := C
  refine g_iconst C dX4_differentKeys_0 (v := 0) rfl ?_
  refine g_istore_n C dX4_differentKeys_1 rfl (Nat.le_of_ble_eq_true rfl) (loc' := [(1, .int 0), (0, gR E o)]) rfl ?_
  refine g_iconst C dX4_differentKeys_2 (v := 0) rfl ?_
  refine g_istore_n C dX4_differentKeys_3 rfl (Nat.le_of_ble_eq_true rfl) (loc' := [(2, .int 0), (1, .int 0), (0, gR E o)]) rfl ?_
  obtain ⟨m4, hw⟩ := hw
  have hL4 : ∀ (n4 : Nat) (x1_1 : Int32) (x2_2 : Int32), wp_X4_differentKeys_L4 o M Q n4 x1_1 x2_2 → GX K E 3 M [(0, gR E o), (1, .int x1_1), (2, .int x2_2)] [] 4 0 0 (gEnd K E (qIp M Q) gNo rmX4_differentKeys.cells rmX4_differentKeys.slots) := by
    intro n4
    induction n4 with
    | zero => intro _ _ hw; exact False.elim hw
    | succ n4 ih4 =>
      intro x1_1 x2_2 hw
      refine g_iload_n C dX4_differentKeys_4 2 rfl rfl ?_
      refine g_aload_n C dX4_differentKeys_5 0 rfl rfl ?_
      refine gf_RX4_22 C hk0 dX4_differentKeys_6 ?_
      refine g_icmp_ge C dX4_differentKeys_9 (tgt := 29) (by decide) (fun c9 => ?_) (fun c9 => ?_)
      · have hw := hw.1 c9
        refine g_iload_n C dX4_differentKeys_29 1 rfl rfl ?_
        exact g_iret C dX4_differentKeys_30 (Nat.le_of_ble_eq_true rfl) (Nat.le_of_ble_eq_true rfl) ⟨_, rfl, rfl, hw⟩
      · have hw := hw.2 c9
        refine g_aload_n C dX4_differentKeys_12 0 rfl rfl ?_
        refine g_iload_n C dX4_differentKeys_13 2 rfl rfl ?_
        refine g_cV C dX4_differentKeys_14 (met_X4_isFirstOfKey C.st hw) (gc_X4_isFirstOfKey _ (Nat.le_of_ble_eq_true rfl) (Nat.le_of_ble_eq_true rfl)) tw534 tw486 tw487 (ci := 4) rfl (by decide) hk0 rfl (Nat.le_of_ble_eq_true rfl) (c2 := 0) (s2 := 0) rfl rfl (Nat.le_of_ble_eq_true rfl) (Nat.le_of_ble_eq_true rfl) rfl (kIp (fun r_3 hw => ?_)) tNo
        refine g_if_eq C dX4_differentKeys_17 (tgt := 23) (by decide) (fun c17 => ?_) (fun c17 => ?_)
        · have hw := hw.1 c17
          obtain ⟨x2_5, ex2_5⟩ : ∃ y : Int32, y = x2_2 + 1 := ⟨_, rfl⟩
          have hw := hw x2_5 ex2_5
          refine g_iinc C (j := 0) dX4_differentKeys_23 2 rfl (v := x2_5) (by rw [ex2_5]; rfl) (Nat.le_of_ble_eq_true rfl) (loc' := [(2, .int x2_5), (0, gR E o), (1, .int x1_1)]) rfl ?_
          refine g_goto C dX4_differentKeys_26 (tgt := 4) (by decide) ?_
          refine g_sub [1, 2, 0] rfl ?_
          exact ih4 _ _ hw
        · have hw := hw.2 c17
          obtain ⟨x1_6, ex1_6⟩ : ∃ y : Int32, y = x1_1 + 1 := ⟨_, rfl⟩
          have hw := hw x1_6 ex1_6
          refine g_iinc C (j := 0) dX4_differentKeys_20 1 rfl (v := x1_6) (by rw [ex1_6]; rfl) (Nat.le_of_ble_eq_true rfl) (loc' := [(1, .int x1_6), (0, gR E o), (2, .int x2_2)]) rfl ?_
          obtain ⟨x2_7, ex2_7⟩ : ∃ y : Int32, y = x2_2 + 1 := ⟨_, rfl⟩
          have hw := hw x2_7 ex2_7
          refine g_iinc C (j := 0) dX4_differentKeys_23 2 rfl (v := x2_7) (by rw [ex2_7]; rfl) (Nat.le_of_ble_eq_true rfl) (loc' := [(2, .int x2_7), (1, .int x1_6), (0, gR E o)]) rfl ?_
          refine g_goto C dX4_differentKeys_26 (tgt := 4) (by decide) ?_
          refine g_sub [2, 1, 0] rfl ?_
          exact ih4 _ _ hw
  refine g_sub [2, 1, 0] rfl ?_
  exact hL4 m4 _ _ hw
theorem gc_X4_differentKeys : ∀ rm : Room, rmX4_differentKeys.frames + 1 ≤ rm.frames → 8 + (3 + 11) + rmX4_differentKeys.locals ≤ rm.locals → gCall yX4_differentKeys 3 0 rmX4_differentKeys rm := fun rm a b => ⟨Or.inl ⟨_, _, tw533⟩, tw2, ⟨by decide, by decide⟩, by decide, a, b⟩
abbrev rmX4_appendTo : Room := { frames := 2, cells := 0, slots := 0, locals := 47 }
def wp_X4_appendTo_J79 (o : Nat) (p1 : Nat) (x2_16 : Int32) (K62 : Int32 → MEM → Prop) (x3_18 : Int32) (M_19 : MEM) (s_21 : Int32) : Prop := wp_X1_add p1 s_21 M_19 (fun M_23 => wp_X4_partAt o x2_16 x3_18 M_23 (fun r_24 => wp_X1_addNumber p1 r_24 M_23 (fun M_27 => ∀ x3_28 : Int32, x3_28 = x3_18 + 1 → (K62 x3_28 M_27))))
def wp_X4_appendTo_L62 (o : Nat) (p1 : Nat) (K52 : Int32 → MEM → Prop) (x2_16 : Int32) : Nat → Int32 → MEM → Prop
  | 0, _, _ => False
  | n62 + 1, x3_18, M_19 => (5 ≤ x3_18 → (∀ x2_20 : Int32, x2_20 = x2_16 + 1 → (K52 x2_20 M_19))) ∧ (¬ 5 ≤ x3_18 → ((¬ x3_18 = 0 → (wp_X4_appendTo_J79 o p1 x2_16 (wp_X4_appendTo_L62 o p1 K52 x2_16 n62) x3_18 M_19 44)) ∧ (x3_18 = 0 → (wp_X4_appendTo_J79 o p1 x2_16 (wp_X4_appendTo_L62 o p1 K52 x2_16 n62) x3_18 M_19 59))))
def wp_X4_appendTo_L52 (o : Nat) (p1 : Nat) (Q : MEM → Prop) : Nat → Int32 → MEM → Prop
  | 0, _, _ => False
  | n52 + 1, x2_16, M_17 => ((mI M_17 o 5) ≤ x2_16 → (Q M_17)) ∧ (¬ (mI M_17 o 5) ≤ x2_16 → (∃ m62 : Nat, wp_X4_appendTo_L62 o p1 (wp_X4_appendTo_L52 o p1 Q n52) x2_16 m62 0 M_17))
def wp_X4_appendTo (o : Nat) (p1 : Nat) (M : MEM) (Q : MEM → Prop) : Prop := KD o = (14, 0) ∧ (KD p1 = (11, 0) ∧ wp_X1_addNumber p1 (mI M o 1) M (fun M_2 => wp_X1_add p1 47 M_2 (fun M_5 => wp_X1_addNumber p1 (mI M_5 o 2) M_5 (fun M_7 => wp_X1_add p1 47 M_7 (fun M_9 => wp_X1_addNumber p1 (mI M_9 o 3) M_9 (fun M_11 => wp_X1_add p1 47 M_11 (fun M_13 => wp_X1_addNumber p1 (mI M_13 o 4) M_13 (fun M_15 => ∃ m52 : Nat, wp_X4_appendTo_L52 o p1 Q m52 0 M_15))))))))
set_option maxRecDepth 100000 in
set_option maxHeartbeats 4000000 in
theorem met_X4_appendTo {l : Launch} (hl : l.stackTraces = false) {E : MK} {o : Nat} {p1 : Nat} {M : MEM} {Q : MEM → Prop} (hw : wp_X4_appendTo o p1 M Q) : gMet l E yX4_appendTo rmX4_appendTo [gR E o, gR E p1] M (qV Q) gNo := by
  obtain ⟨hk0, hw⟩ := hw
  refine g_met hl (cc := cX4_appendTo) (maxL := 4) (ret := none) (hh := []) (loc := [(0, gR E o), (1, gR E p1)]) (by decide +kernel) (Or.inl ⟨tw967, rfl⟩) (Nat.le_of_ble_eq_true rfl) rfl (fun K hK C => ?_)
  have C : GC K E cX4_appendTo RX4 4 none [] rmX4_appendTo := C
  refine g_aload_n C dX4_appendTo_0 1 rfl rfl ?_
  refine g_aload_n C dX4_appendTo_1 0 rfl rfl ?_
  refine gf_RX4_26 C hk0 dX4_appendTo_2 ?_
  obtain ⟨hk_3, hw⟩ := hw
  refine g_cV C dX4_appendTo_5 (met_X1_addNumber C.st hw) (gc_X1_addNumber _ (Nat.le_of_ble_eq_true rfl) (Nat.le_of_ble_eq_true rfl)) tw968 tw969 tw970 (ci := 1) rfl (by decide) hk_3 rfl (Nat.le_of_ble_eq_true rfl) (c2 := 0) (s2 := 0) rfl rfl (Nat.le_of_ble_eq_true rfl) (Nat.le_of_ble_eq_true rfl) rfl (kV (fun M_2 hw => ?_)) tNo
  refine g_aload_n C dX4_appendTo_8 1 rfl rfl ?_
  refine g_bipush C dX4_appendTo_9 (v := 47) rfl ?_
  refine g_cV C dX4_appendTo_11 (met_X1_add C.st hw) (gc_X1_add _ (Nat.le_of_ble_eq_true rfl) (Nat.le_of_ble_eq_true rfl)) tw975 tw875 tw876 (ci := 1) rfl (by decide) hk_3 rfl (Nat.le_of_ble_eq_true rfl) (c2 := 0) (s2 := 0) rfl rfl (Nat.le_of_ble_eq_true rfl) (Nat.le_of_ble_eq_true rfl) rfl (kV (fun M_5 hw => ?_)) tNo
  refine g_aload_n C dX4_appendTo_14 1 rfl rfl ?_
  refine g_aload_n C dX4_appendTo_15 0 rfl rfl ?_
  refine gf_RX4_29 C hk0 dX4_appendTo_16 ?_
  refine g_cV C dX4_appendTo_19 (met_X1_addNumber C.st hw) (gc_X1_addNumber _ (Nat.le_of_ble_eq_true rfl) (Nat.le_of_ble_eq_true rfl)) tw968 tw969 tw970 (ci := 1) rfl (by decide) hk_3 rfl (Nat.le_of_ble_eq_true rfl) (c2 := 0) (s2 := 0) rfl rfl (Nat.le_of_ble_eq_true rfl) (Nat.le_of_ble_eq_true rfl) rfl (kV (fun M_7 hw => ?_)) tNo
  refine g_aload_n C dX4_appendTo_22 1 rfl rfl ?_
  refine g_bipush C dX4_appendTo_23 (v := 47) rfl ?_
  refine g_cV C dX4_appendTo_25 (met_X1_add C.st hw) (gc_X1_add _ (Nat.le_of_ble_eq_true rfl) (Nat.le_of_ble_eq_true rfl)) tw975 tw875 tw876 (ci := 1) rfl (by decide) hk_3 rfl (Nat.le_of_ble_eq_true rfl) (c2 := 0) (s2 := 0) rfl rfl (Nat.le_of_ble_eq_true rfl) (Nat.le_of_ble_eq_true rfl) rfl (kV (fun M_9 hw => ?_)) tNo
  refine g_aload_n C dX4_appendTo_28 1 rfl rfl ?_
  refine g_aload_n C dX4_appendTo_29 0 rfl rfl ?_
  refine gf_RX4_32 C hk0 dX4_appendTo_30 ?_
  refine g_cV C dX4_appendTo_33 (met_X1_addNumber C.st hw) (gc_X1_addNumber _ (Nat.le_of_ble_eq_true rfl) (Nat.le_of_ble_eq_true rfl)) tw968 tw969 tw970 (ci := 1) rfl (by decide) hk_3 rfl (Nat.le_of_ble_eq_true rfl) (c2 := 0) (s2 := 0) rfl rfl (Nat.le_of_ble_eq_true rfl) (Nat.le_of_ble_eq_true rfl) rfl (kV (fun M_11 hw => ?_)) tNo
  refine g_aload_n C dX4_appendTo_36 1 rfl rfl ?_
  refine g_bipush C dX4_appendTo_37 (v := 47) rfl ?_
  refine g_cV C dX4_appendTo_39 (met_X1_add C.st hw) (gc_X1_add _ (Nat.le_of_ble_eq_true rfl) (Nat.le_of_ble_eq_true rfl)) tw975 tw875 tw876 (ci := 1) rfl (by decide) hk_3 rfl (Nat.le_of_ble_eq_true rfl) (c2 := 0) (s2 := 0) rfl rfl (Nat.le_of_ble_eq_true rfl) (Nat.le_of_ble_eq_true rfl) rfl (kV (fun M_13 hw => ?_)) tNo
  refine g_aload_n C dX4_appendTo_42 1 rfl rfl ?_
  refine g_aload_n C dX4_appendTo_43 0 rfl rfl ?_
  refine gf_RX4_35 C hk0 dX4_appendTo_44 ?_
  refine g_cV C dX4_appendTo_47 (met_X1_addNumber C.st hw) (gc_X1_addNumber _ (Nat.le_of_ble_eq_true rfl) (Nat.le_of_ble_eq_true rfl)) tw968 tw969 tw970 (ci := 1) rfl (by decide) hk_3 rfl (Nat.le_of_ble_eq_true rfl) (c2 := 0) (s2 := 0) rfl rfl (Nat.le_of_ble_eq_true rfl) (Nat.le_of_ble_eq_true rfl) rfl (kV (fun M_15 hw => ?_)) tNo
  refine g_iconst C dX4_appendTo_50 (v := 0) rfl ?_
  refine g_istore_n C dX4_appendTo_51 rfl (Nat.le_of_ble_eq_true rfl) (loc' := [(2, .int 0), (0, gR E o), (1, gR E p1)]) rfl ?_
  obtain ⟨m52, hw⟩ := hw
  have hL52 : ∀ (n52 : Nat) (x2_16 : Int32) (M_17 : MEM), wp_X4_appendTo_L52 o p1 Q n52 x2_16 M_17 → GX K E 4 M_17 [(0, gR E o), (1, gR E p1), (2, .int x2_16)] [] 52 0 0 (gEnd K E (qV Q) gNo rmX4_appendTo.cells rmX4_appendTo.slots) := by
    intro n52
    induction n52 with
    | zero => intro _ _ hw; exact False.elim hw
    | succ n52 ih52 =>
      intro x2_16 M_17 hw
      refine g_iload_n C dX4_appendTo_52 2 rfl rfl ?_
      refine g_aload_n C dX4_appendTo_53 0 rfl rfl ?_
      refine gf_RX4_22 C hk0 dX4_appendTo_54 ?_
      refine g_icmp_ge C dX4_appendTo_57 (tgt := 104) (by decide) (fun c57 => ?_) (fun c57 => ?_)
      · have hw := hw.1 c57
        exact g_vret C dX4_appendTo_104 (Nat.le_of_ble_eq_true rfl) (Nat.le_of_ble_eq_true rfl) ⟨rfl, hw⟩
      · have hw := hw.2 c57
        refine g_iconst C dX4_appendTo_60 (v := 0) rfl ?_
        refine g_istore_n C dX4_appendTo_61 rfl (Nat.le_of_ble_eq_true rfl) (loc' := [(3, .int 0), (0, gR E o), (1, gR E p1), (2, .int x2_16)]) rfl ?_
        obtain ⟨m62, hw⟩ := hw
        have hL62 : ∀ (n62 : Nat) (x3_18 : Int32) (M_19 : MEM), wp_X4_appendTo_L62 o p1 (wp_X4_appendTo_L52 o p1 Q n52) x2_16 n62 x3_18 M_19 → GX K E 4 M_19 [(0, gR E o), (1, gR E p1), (2, .int x2_16), (3, .int x3_18)] [] 62 0 0 (gEnd K E (qV Q) gNo rmX4_appendTo.cells rmX4_appendTo.slots) := by
          intro n62
          induction n62 with
          | zero => intro _ _ hw; exact False.elim hw
          | succ n62 ih62 =>
            intro x3_18 M_19 hw
            refine g_iload_n C dX4_appendTo_62 3 rfl rfl ?_
            refine g_iconst C dX4_appendTo_63 (v := 5) rfl ?_
            refine g_icmp_ge C dX4_appendTo_64 (tgt := 98) (by decide) (fun c64 => ?_) (fun c64 => ?_)
            · have hw := hw.1 c64
              obtain ⟨x2_20, ex2_20⟩ : ∃ y : Int32, y = x2_16 + 1 := ⟨_, rfl⟩
              have hw := hw x2_20 ex2_20
              refine g_iinc C (j := 0) dX4_appendTo_98 2 rfl (v := x2_20) (by rw [ex2_20]; rfl) (Nat.le_of_ble_eq_true rfl) (loc' := [(2, .int x2_20), (0, gR E o), (1, gR E p1), (3, .int x3_18)]) rfl ?_
              refine g_goto C dX4_appendTo_101 (tgt := 52) (by decide) ?_
              refine g_sub [1, 2, 0] rfl ?_
              exact ih52 _ _ hw
            · have hw := hw.2 c64
              refine g_aload_n C dX4_appendTo_67 1 rfl rfl ?_
              refine g_iload_n C dX4_appendTo_68 3 rfl rfl ?_
              have hJ79 : ∀ (s_21 : Int32), wp_X4_appendTo_J79 o p1 x2_16 (wp_X4_appendTo_L62 o p1 (wp_X4_appendTo_L52 o p1 Q n52) x2_16 n62) x3_18 M_19 s_21 → GX K E 4 M_19 [(0, gR E o), (1, gR E p1), (2, .int x2_16), (3, .int x3_18)] [.int s_21, gR E p1] 79 0 0 (gEnd K E (qV Q) gNo rmX4_appendTo.cells rmX4_appendTo.slots) := by
                intro s_21 hw
                refine g_cV C dX4_appendTo_79 (met_X1_add C.st hw) (gc_X1_add _ (Nat.le_of_ble_eq_true rfl) (Nat.le_of_ble_eq_true rfl)) tw975 tw875 tw876 (ci := 1) rfl (by decide) hk_3 rfl (Nat.le_of_ble_eq_true rfl) (c2 := 0) (s2 := 0) rfl rfl (Nat.le_of_ble_eq_true rfl) (Nat.le_of_ble_eq_true rfl) rfl (kV (fun M_23 hw => ?_)) tNo
                refine g_aload_n C dX4_appendTo_82 1 rfl rfl ?_
                refine g_aload_n C dX4_appendTo_83 0 rfl rfl ?_
                refine g_iload_n C dX4_appendTo_84 2 rfl rfl ?_
                refine g_iload_n C dX4_appendTo_85 3 rfl rfl ?_
                refine g_cV C dX4_appendTo_86 (met_X4_partAt C.st hw) (gc_X4_partAt _ (Nat.le_of_ble_eq_true rfl) (Nat.le_of_ble_eq_true rfl)) tw474 tw475 tw476 (ci := 4) rfl (by decide) hk0 rfl (Nat.le_of_ble_eq_true rfl) (c2 := 0) (s2 := 0) rfl rfl (Nat.le_of_ble_eq_true rfl) (Nat.le_of_ble_eq_true rfl) rfl (kIp (fun r_24 hw => ?_)) tNo
                refine g_cV C dX4_appendTo_89 (met_X1_addNumber C.st hw) (gc_X1_addNumber _ (Nat.le_of_ble_eq_true rfl) (Nat.le_of_ble_eq_true rfl)) tw968 tw969 tw970 (ci := 1) rfl (by decide) hk_3 rfl (Nat.le_of_ble_eq_true rfl) (c2 := 0) (s2 := 0) rfl rfl (Nat.le_of_ble_eq_true rfl) (Nat.le_of_ble_eq_true rfl) rfl (kV (fun M_27 hw => ?_)) tNo
                obtain ⟨x3_28, ex3_28⟩ : ∃ y : Int32, y = x3_18 + 1 := ⟨_, rfl⟩
                have hw := hw x3_28 ex3_28
                refine g_iinc C (j := 0) dX4_appendTo_92 3 rfl (v := x3_28) (by rw [ex3_28]; rfl) (Nat.le_of_ble_eq_true rfl) (loc' := [(3, .int x3_28), (0, gR E o), (1, gR E p1), (2, .int x2_16)]) rfl ?_
                refine g_goto C dX4_appendTo_95 (tgt := 62) (by decide) ?_
                refine g_sub [1, 2, 3, 0] rfl ?_
                exact ih62 _ _ hw
              refine g_if_ne C dX4_appendTo_69 (tgt := 77) (by decide) (fun c69 => ?_) (fun c69 => ?_)
              · have hw := hw.1 c69
                refine g_bipush C dX4_appendTo_77 (v := 44) rfl ?_
                exact hJ79 _ hw
              · have hw := hw.2 c69
                refine g_bipush C dX4_appendTo_72 (v := 59) rfl ?_
                refine g_goto C dX4_appendTo_74 (tgt := 79) (by decide) ?_
                exact hJ79 _ hw
        refine g_sub [1, 2, 3, 0] rfl ?_
        exact hL62 m62 _ _ hw
  refine g_sub [1, 2, 0] rfl ?_
  exact hL52 m52 _ _ hw
theorem gc_X4_appendTo : ∀ rm : Room, rmX4_appendTo.frames + 1 ≤ rm.frames → 8 + (4 + 11) + rmX4_appendTo.locals ≤ rm.locals → gCall yX4_appendTo 4 1 rmX4_appendTo rm := fun rm a b => ⟨Or.inl ⟨_, _, tw967⟩, tw2, ⟨by decide, by decide⟩, by decide, a, b⟩
abbrev rmX5_needRange : Room := { frames := 6, cells := 1, slots := 6, locals := 82 }
def wp_X5_needRange (p1 : Int32) (M : MEM) (Q : Prop) (X : String → Prop) : Prop := (¬ p1 = 0 → (Q)) ∧ (p1 = 0 → (X "java/lang/IllegalArgumentException"))
set_option maxRecDepth 100000 in
set_option maxHeartbeats 4000000 in
theorem met_X5_needRange {l : Launch} (hl : l.stackTraces = false) {E : MK} {p1 : Int32} {M : MEM} {Q : Prop} {X : String → Prop} (hw : wp_X5_needRange p1 M Q X) : gMet l E yX5_needRange rmX5_needRange [.int p1] M (qVp M Q) (gXp M X) := by
  refine g_met hl (cc := cX5_needRange) (maxL := 1) (ret := none) (hh := []) (loc := [(0, .int p1)]) (by decide +kernel) (Or.inl ⟨tw343, rfl⟩) (Nat.le_of_ble_eq_true rfl) rfl (fun K hK C => ?_)
  have C : GC K E cX5_needRange RX5 1 none [] rmX5_needRange := C
  refine g_iload_n C dX5_needRange_0 0 rfl rfl ?_
  refine g_if_ne C dX5_needRange_1 (tgt := 15) (by decide) (fun c1 => ?_) (fun c1 => ?_)
  · have hw := hw.1 c1
    exact g_vret C dX5_needRange_15 (Nat.le_of_ble_eq_true rfl) (Nat.le_of_ble_eq_true rfl) ⟨rfl, rfl, hw⟩
  · have hw := hw.2 c1
    exact g_throwSW C fit_IllegalArgumentException fit_N tw344 tw15 (List.mem_of_getElem? (i := 1) rfl) (List.mem_of_getElem? (i := 1) rfl) at_RX5_372 dX5_needRange_4 dX5_needRange_7 dX5_needRange_8 dX5_needRange_11 dX5_needRange_14 (noTab _) (Nat.le_of_ble_eq_true rfl) (Nat.le_of_ble_eq_true rfl) (Nat.le_of_ble_eq_true rfl) (Nat.le_of_ble_eq_true rfl) (Nat.le_of_ble_eq_true rfl) (Nat.le_of_ble_eq_true rfl) ⟨rfl, hw⟩
theorem gc_X5_needRange : ∀ rm : Room, rmX5_needRange.frames + 1 ≤ rm.frames → 8 + (1 + 11) + rmX5_needRange.locals ≤ rm.locals → gCall yX5_needRange 1 1 rmX5_needRange rm := fun rm a b => ⟨Or.inl ⟨_, _, tw343⟩, tw1, ⟨by decide, by decide⟩, by decide, a, b⟩
abbrev rmX5_slotAt : Room := { frames := 6, cells := 1, slots := 6, locals := 82 }
def wp_X5_slotAt (o : Nat) (p1 : Int32) (M : MEM) (Q : Nat → Prop) (X : String → Prop) : Prop := KD o = (15, 0) ∧ ((p1 < 0 → (X "java/lang/IndexOutOfBoundsException")) ∧ (¬ p1 < 0 → ((p1 < 4 → (KD (RF o 0) = (4, 4) ∧ vp_in p1 4 ∧ (Q (RF (RF o 0) p1.toNatClampNeg)))) ∧ (¬ p1 < 4 → (X "java/lang/IndexOutOfBoundsException")))))
set_option maxRecDepth 100000 in
set_option maxHeartbeats 4000000 in
theorem met_X5_slotAt {l : Launch} (hl : l.stackTraces = false) {E : MK} {o : Nat} {p1 : Int32} {M : MEM} {Q : Nat → Prop} {X : String → Prop} (hw : wp_X5_slotAt o p1 M Q X) : gMet l E yX5_slotAt rmX5_slotAt [gR E o, .int p1] M (qRp E M Q) (gXp M X) := by
  obtain ⟨hk0, hw⟩ := hw
  refine g_met hl (cc := cX5_slotAt) (maxL := 2) (ret := (some (.object "SampleBench$Summary"))) (hh := []) (loc := [(0, gR E o), (1, .int p1)]) (by decide +kernel) (Or.inl ⟨tw318, rfl⟩) (Nat.le_of_ble_eq_true rfl) rfl (fun K hK C => ?_)
  have C : GC K E cX5_slotAt RX5 2 (some (.object "SampleBench$Summary")) [] rmX5_slotAt := C
  refine g_iload_n C dX5_slotAt_0 1 rfl rfl ?_
  refine g_if_lt C dX5_slotAt_1 (tgt := 9) (by decide) (fun c1 => ?_) (fun c1 => ?_)
  · have hw := hw.1 c1
    exact g_throwSW C fit_IndexOutOfBoundsException fit_N tw319 tw12 (List.mem_of_getElem? (i := 0) rfl) (List.mem_of_getElem? (i := 0) rfl) at_RX5_220 dX5_slotAt_9 dX5_slotAt_12 dX5_slotAt_13 dX5_slotAt_16 dX5_slotAt_19 (noTab _) (Nat.le_of_ble_eq_true rfl) (Nat.le_of_ble_eq_true rfl) (Nat.le_of_ble_eq_true rfl) (Nat.le_of_ble_eq_true rfl) (Nat.le_of_ble_eq_true rfl) (Nat.le_of_ble_eq_true rfl) ⟨rfl, hw⟩
  · have hw := hw.2 c1
    refine g_iload_n C dX5_slotAt_4 1 rfl rfl ?_
    refine g_iconst C dX5_slotAt_5 (v := 4) rfl ?_
    refine g_icmp_lt C dX5_slotAt_6 (tgt := 20) (by decide) (fun c6 => ?_) (fun c6 => ?_)
    · have hw := hw.1 c6
      refine g_aload_n C dX5_slotAt_20 0 rfl rfl ?_
      refine gf_RX5_11 C hk0 dX5_slotAt_21 ?_
      refine g_iload_n C dX5_slotAt_24 1 rfl rfl ?_
      obtain ⟨hk_1, hw⟩ := hw
      obtain ⟨hi_2, hw⟩ := hw
      refine g_aaload C hk_1 hi_2 dX5_slotAt_25 ?_
      exact g_aret C dX5_slotAt_26 (Nat.le_of_ble_eq_true rfl) (Nat.le_of_ble_eq_true rfl) ⟨_, rfl, rfl, hw⟩
    · have hw := hw.2 c6
      exact g_throwSW C fit_IndexOutOfBoundsException fit_N tw319 tw12 (List.mem_of_getElem? (i := 0) rfl) (List.mem_of_getElem? (i := 0) rfl) at_RX5_220 dX5_slotAt_9 dX5_slotAt_12 dX5_slotAt_13 dX5_slotAt_16 dX5_slotAt_19 (noTab _) (Nat.le_of_ble_eq_true rfl) (Nat.le_of_ble_eq_true rfl) (Nat.le_of_ble_eq_true rfl) (Nat.le_of_ble_eq_true rfl) (Nat.le_of_ble_eq_true rfl) (Nat.le_of_ble_eq_true rfl) ⟨rfl, hw⟩
theorem gc_X5_slotAt : ∀ rm : Room, rmX5_slotAt.frames + 1 ≤ rm.frames → 8 + (2 + 11) + rmX5_slotAt.locals ≤ rm.locals → gCall yX5_slotAt 2 1 rmX5_slotAt rm := fun rm a b => ⟨Or.inl ⟨_, _, tw318⟩, tw1, ⟨by decide, by decide⟩, by decide, a, b⟩
abbrev rmX5_define : Room := { frames := 7, cells := 2, slots := 12, locals := 103 }
def wp_X5_define (o : Nat) (p1 : Int32) (p2 : Int32) (p3 : Int32) (p4 : Int32) (p5 : Int32) (M : MEM) (Q : Int32 → MEM → Prop) (X : String → MEM → Prop) : Prop := KD o = (15, 0) ∧ (wp_X5_slotAt o p1 M (fun r_1 => wp_X5_areSettings p2.toInt64 p3.toInt64 p5.toInt64 M (fun r_3 => wp_X5_needRange r_3 M (KD r_1 = (14, 0) ∧ wp_X4_count r_1 M (fun r_7 => KD (RF o 5) = (10, 0) ∧ wp_X0_remember (RF o 5) p1 r_1 (mI M o 4) M (fun M_11 => wp_X4_begin r_1 p2 p3 p4 p5 M_11 (fun M_14 => Q r_7 M_14)))) (fun En => X En M))) (fun En => X En M))
set_option maxRecDepth 100000 in
set_option maxHeartbeats 4000000 in
theorem met_X5_define {l : Launch} (hl : l.stackTraces = false) {E : MK} {o : Nat} {p1 : Int32} {p2 : Int32} {p3 : Int32} {p4 : Int32} {p5 : Int32} {M : MEM} {Q : Int32 → MEM → Prop} {X : String → MEM → Prop} (hw : wp_X5_define o p1 p2 p3 p4 p5 M Q X) : gMet l E yX5_define rmX5_define [gR E o, .int p1, .int p2, .int p3, .int p4, .int p5] M (qI Q) (qE X) := by
  obtain ⟨hk0, hw⟩ := hw
  refine g_met hl (cc := cX5_define) (maxL := 8) (ret := (some .int)) (hh := []) (loc := [(0, gR E o), (1, .int p1), (2, .int p2), (3, .int p3), (4, .int p4), (5, .int p5)]) (by decide +kernel) (Or.inl ⟨tw314, rfl⟩) (Nat.le_of_ble_eq_true rfl) rfl (fun K hK C => ?_)
  have C : GC K E cX5_define RX5 8 (some .int) [] rmX5_define := C
  refine g_aload_n C dX5_define_0 0 rfl rfl ?_
  refine g_iload_n C dX5_define_1 1 rfl rfl ?_
  refine g_cV C dX5_define_2 (met_X5_slotAt C.st hw) (gc_X5_slotAt _ (Nat.le_of_ble_eq_true rfl) (Nat.le_of_ble_eq_true rfl)) tw315 tw317 twp3 (ci := 5) rfl (by decide) hk0 rfl (Nat.le_of_ble_eq_true rfl) (c2 := 1) (s2 := 6) rfl rfl (Nat.le_of_ble_eq_true rfl) (Nat.le_of_ble_eq_true rfl) rfl (kRp (fun r_1 hw => ?_)) (fun En M9 hx => g_out C (noTab _) (Nat.le_of_ble_eq_true rfl) (Nat.le_of_ble_eq_true rfl) (by obtain ⟨rfl, hx⟩ := hx; exact hx))
  refine g_astore C dX5_define_5 (Nat.le_of_ble_eq_true rfl) (loc' := [(6, gR E r_1), (0, gR E o), (1, .int p1), (2, .int p2), (3, .int p3), (4, .int p4), (5, .int p5)]) rfl ?_
  refine g_iload_n C dX5_define_7 3 rfl rfl ?_
  refine g_i2l C dX5_define_8 ?_
  refine g_iload_n C dX5_define_9 4 rfl rfl ?_
  refine g_i2l C dX5_define_10 ?_
  refine g_iload C (j := 0) dX5_define_11 6 rfl ?_
  refine g_i2l C dX5_define_13 ?_
  refine g_cS C dX5_define_14 (met_X5_areSettings C.st hw) (gc_X5_areSettings _ (Nat.le_of_ble_eq_true rfl) (Nat.le_of_ble_eq_true rfl)) (Or.inl tw332) tw333 rfl (Nat.le_of_ble_eq_true rfl) (c2 := 1) (s2 := 6) rfl rfl (Nat.le_of_ble_eq_true rfl) (Nat.le_of_ble_eq_true rfl) rfl (kIp (fun r_3 hw => ?_)) tNo
  refine g_cS C dX5_define_17 (met_X5_needRange C.st hw) (gc_X5_needRange _ (Nat.le_of_ble_eq_true rfl) (Nat.le_of_ble_eq_true rfl)) (Or.inl tw341) tw342 rfl (Nat.le_of_ble_eq_true rfl) (c2 := 2) (s2 := 12) rfl rfl (Nat.le_of_ble_eq_true rfl) (Nat.le_of_ble_eq_true rfl) rfl (kVp (fun hw => ?_)) (fun En M9 hx => g_out C (noTab _) (Nat.le_of_ble_eq_true rfl) (Nat.le_of_ble_eq_true rfl) (by obtain ⟨rfl, hx⟩ := hx; exact hx))
  refine g_aload C (j := 0) dX5_define_20 0 rfl ?_
  obtain ⟨hk_9, hw⟩ := hw
  refine g_cV C dX5_define_22 (met_X4_count C.st hw) (gc_X4_count _ (Nat.le_of_ble_eq_true rfl) (Nat.le_of_ble_eq_true rfl)) tw360 tw361 tw362 (ci := 4) rfl (by decide) hk_9 rfl (Nat.le_of_ble_eq_true rfl) (c2 := 2) (s2 := 12) rfl rfl (Nat.le_of_ble_eq_true rfl) (Nat.le_of_ble_eq_true rfl) rfl (kIp (fun r_7 hw => ?_)) tNo
  refine g_istore C dX5_define_25 (Nat.le_of_ble_eq_true rfl) (loc' := [(7, .int r_7), (6, gR E r_1), (0, gR E o), (1, .int p1), (2, .int p2), (3, .int p3), (4, .int p4), (5, .int p5)]) rfl ?_
  refine g_aload_n C dX5_define_27 2 rfl rfl ?_
  refine gf_RX5_22 C hk0 dX5_define_28 ?_
  refine g_iload_n C dX5_define_31 3 rfl rfl ?_
  refine g_aload C (j := 0) dX5_define_32 1 rfl ?_
  refine g_aload_n C dX5_define_34 2 rfl rfl ?_
  refine gf_RX5_82 C hk0 dX5_define_35 ?_
  obtain ⟨hk_12, hw⟩ := hw
  refine g_cV C dX5_define_38 (met_X0_remember C.st hw) (gc_X0_remember _ (Nat.le_of_ble_eq_true rfl) (Nat.le_of_ble_eq_true rfl)) tw364 tw365 tw366 (ci := 0) rfl (by decide) hk_12 rfl (Nat.le_of_ble_eq_true rfl) (c2 := 2) (s2 := 12) rfl rfl (Nat.le_of_ble_eq_true rfl) (Nat.le_of_ble_eq_true rfl) rfl (kV (fun M_11 hw => ?_)) tNo
  refine g_aload C (j := 0) dX5_define_41 1 rfl ?_
  refine g_iload_n C dX5_define_43 4 rfl rfl ?_
  refine g_iload_n C dX5_define_44 5 rfl rfl ?_
  refine g_iload C (j := 0) dX5_define_45 6 rfl ?_
  refine g_iload C (j := 0) dX5_define_47 7 rfl ?_
  refine g_cV C dX5_define_49 (met_X4_begin C.st hw) (gc_X4_begin _ (Nat.le_of_ble_eq_true rfl) (Nat.le_of_ble_eq_true rfl)) tw376 tw377 tw378 (ci := 4) rfl (by decide) hk_9 rfl (Nat.le_of_ble_eq_true rfl) (c2 := 2) (s2 := 12) rfl rfl (Nat.le_of_ble_eq_true rfl) (Nat.le_of_ble_eq_true rfl) rfl (kV (fun M_14 hw => ?_)) tNo
  refine g_iload C (j := 0) dX5_define_52 0 rfl ?_
  exact g_iret C dX5_define_54 (Nat.le_of_ble_eq_true rfl) (Nat.le_of_ble_eq_true rfl) ⟨_, rfl, hw⟩
theorem gc_X5_define : ∀ rm : Room, rmX5_define.frames + 1 ≤ rm.frames → 8 + (8 + 11) + rmX5_define.locals ≤ rm.locals → gCall yX5_define 8 5 rmX5_define rm := fun rm a b => ⟨Or.inl ⟨_, _, tw314⟩, tw1, ⟨by decide, by decide⟩, by decide, a, b⟩
abbrev rmX5_drop : Room := { frames := 7, cells := 1, slots := 6, locals := 103 }
def wp_X5_drop (o : Nat) (p1 : Int32) (M : MEM) (Q : Int32 → MEM → Prop) (X : String → MEM → Prop) : Prop := KD o = (15, 0) ∧ (wp_X5_slotAt o p1 M (fun r_1 => KD r_1 = (14, 0) ∧ wp_X4_count r_1 M (fun r_3 => KD (RF o 5) = (10, 0) ∧ wp_X0_remember (RF o 5) p1 r_1 (mI M o 4) M (fun M_7 => wp_X4_empty r_1 M_7 (fun M_10 => Q r_3 M_10)))) (fun En => X En M))
set_option maxRecDepth 100000 in
set_option maxHeartbeats 4000000 in
theorem met_X5_drop {l : Launch} (hl : l.stackTraces = false) {E : MK} {o : Nat} {p1 : Int32} {M : MEM} {Q : Int32 → MEM → Prop} {X : String → MEM → Prop} (hw : wp_X5_drop o p1 M Q X) : gMet l E yX5_drop rmX5_drop [gR E o, .int p1] M (qI Q) (qE X) := by
  obtain ⟨hk0, hw⟩ := hw
  refine g_met hl (cc := cX5_drop) (maxL := 4) (ret := (some .int)) (hh := []) (loc := [(0, gR E o), (1, .int p1)]) (by decide +kernel) (Or.inl ⟨tw386, rfl⟩) (Nat.le_of_ble_eq_true rfl) rfl (fun K hK C => ?_)
  have C : GC K E cX5_drop RX5 4 (some .int) [] rmX5_drop := C
  refine g_aload_n C dX5_drop_0 0 rfl rfl ?_
  refine g_iload_n C dX5_drop_1 1 rfl rfl ?_
  refine g_cV C dX5_drop_2 (met_X5_slotAt C.st hw) (gc_X5_slotAt _ (Nat.le_of_ble_eq_true rfl) (Nat.le_of_ble_eq_true rfl)) tw315 tw317 twp3 (ci := 5) rfl (by decide) hk0 rfl (Nat.le_of_ble_eq_true rfl) (c2 := 1) (s2 := 6) rfl rfl (Nat.le_of_ble_eq_true rfl) (Nat.le_of_ble_eq_true rfl) rfl (kRp (fun r_1 hw => ?_)) (fun En M9 hx => g_out C (noTab _) (Nat.le_of_ble_eq_true rfl) (Nat.le_of_ble_eq_true rfl) (by obtain ⟨rfl, hx⟩ := hx; exact hx))
  refine g_astore_n C dX5_drop_5 rfl (Nat.le_of_ble_eq_true rfl) (loc' := [(2, gR E r_1), (0, gR E o), (1, .int p1)]) rfl ?_
  refine g_aload_n C dX5_drop_6 0 rfl rfl ?_
  obtain ⟨hk_5, hw⟩ := hw
  refine g_cV C dX5_drop_7 (met_X4_count C.st hw) (gc_X4_count _ (Nat.le_of_ble_eq_true rfl) (Nat.le_of_ble_eq_true rfl)) tw360 tw361 tw362 (ci := 4) rfl (by decide) hk_5 rfl (Nat.le_of_ble_eq_true rfl) (c2 := 1) (s2 := 6) rfl rfl (Nat.le_of_ble_eq_true rfl) (Nat.le_of_ble_eq_true rfl) rfl (kIp (fun r_3 hw => ?_)) tNo
  refine g_istore_n C dX5_drop_10 rfl (Nat.le_of_ble_eq_true rfl) (loc' := [(3, .int r_3), (2, gR E r_1), (0, gR E o), (1, .int p1)]) rfl ?_
  refine g_aload_n C dX5_drop_11 2 rfl rfl ?_
  refine gf_RX5_22 C hk0 dX5_drop_12 ?_
  refine g_iload_n C dX5_drop_15 3 rfl rfl ?_
  refine g_aload_n C dX5_drop_16 1 rfl rfl ?_
  refine g_aload_n C dX5_drop_17 2 rfl rfl ?_
  refine gf_RX5_82 C hk0 dX5_drop_18 ?_
  obtain ⟨hk_8, hw⟩ := hw
  refine g_cV C dX5_drop_21 (met_X0_remember C.st hw) (gc_X0_remember _ (Nat.le_of_ble_eq_true rfl) (Nat.le_of_ble_eq_true rfl)) tw364 tw365 tw366 (ci := 0) rfl (by decide) hk_8 rfl (Nat.le_of_ble_eq_true rfl) (c2 := 1) (s2 := 6) rfl rfl (Nat.le_of_ble_eq_true rfl) (Nat.le_of_ble_eq_true rfl) rfl (kV (fun M_7 hw => ?_)) tNo
  refine g_aload_n C dX5_drop_24 1 rfl rfl ?_
  refine g_cV C dX5_drop_25 (met_X4_empty C.st hw) (gc_X4_empty _ (Nat.le_of_ble_eq_true rfl) (Nat.le_of_ble_eq_true rfl)) tw387 tw388 tw389 (ci := 4) rfl (by decide) hk_5 rfl (Nat.le_of_ble_eq_true rfl) (c2 := 1) (s2 := 6) rfl rfl (Nat.le_of_ble_eq_true rfl) (Nat.le_of_ble_eq_true rfl) rfl (kV (fun M_10 hw => ?_)) tNo
  refine g_iload_n C dX5_drop_28 0 rfl rfl ?_
  exact g_iret C dX5_drop_29 (Nat.le_of_ble_eq_true rfl) (Nat.le_of_ble_eq_true rfl) ⟨_, rfl, hw⟩
theorem gc_X5_drop : ∀ rm : Room, rmX5_drop.frames + 1 ≤ rm.frames → 8 + (4 + 11) + rmX5_drop.locals ≤ rm.locals → gCall yX5_drop 4 1 rmX5_drop rm := fun rm a b => ⟨Or.inl ⟨_, _, tw386⟩, tw1, ⟨by decide, by decide⟩, by decide, a, b⟩
abbrev rmX5_needFilled : Room := { frames := 6, cells := 1, slots := 6, locals := 82 }
def wp_X5_needFilled (p1 : Nat) (M : MEM) (Q : Prop) (X : String → Prop) : Prop := KD p1 = (14, 0) ∧ wp_X4_isFilled p1 M (fun r_1 => (¬ r_1 = 0 → (Q)) ∧ (r_1 = 0 → (X "java/lang/IllegalStateException")))
set_option maxRecDepth 100000 in
set_option maxHeartbeats 4000000 in
theorem met_X5_needFilled {l : Launch} (hl : l.stackTraces = false) {E : MK} {p1 : Nat} {M : MEM} {Q : Prop} {X : String → Prop} (hw : wp_X5_needFilled p1 M Q X) : gMet l E yX5_needFilled rmX5_needFilled [gR E p1] M (qVp M Q) (gXp M X) := by
  refine g_met hl (cc := cX5_needFilled) (maxL := 1) (ret := none) (hh := []) (loc := [(0, gR E p1)]) (by decide +kernel) (Or.inl ⟨tw407, rfl⟩) (Nat.le_of_ble_eq_true rfl) rfl (fun K hK C => ?_)
  have C : GC K E cX5_needFilled RX5 1 none [] rmX5_needFilled := C
  refine g_aload_n C dX5_needFilled_0 0 rfl rfl ?_
  obtain ⟨hk_3, hw⟩ := hw
  refine g_cV C dX5_needFilled_1 (met_X4_isFilled C.st hw) (gc_X4_isFilled _ (Nat.le_of_ble_eq_true rfl) (Nat.le_of_ble_eq_true rfl)) tw223 tw224 tw225 (ci := 4) rfl (by decide) hk_3 rfl (Nat.le_of_ble_eq_true rfl) (c2 := 0) (s2 := 0) rfl rfl (Nat.le_of_ble_eq_true rfl) (Nat.le_of_ble_eq_true rfl) rfl (kIp (fun r_1 hw => ?_)) tNo
  refine g_if_ne C dX5_needFilled_4 (tgt := 18) (by decide) (fun c4 => ?_) (fun c4 => ?_)
  · have hw := hw.1 c4
    exact g_vret C dX5_needFilled_18 (Nat.le_of_ble_eq_true rfl) (Nat.le_of_ble_eq_true rfl) ⟨rfl, rfl, hw⟩
  · have hw := hw.2 c4
    exact g_throwSW C fit_IllegalStateException fit_N tw408 tw17 (List.mem_of_getElem? (i := 2) rfl) (List.mem_of_getElem? (i := 2) rfl) at_RX5_291 dX5_needFilled_7 dX5_needFilled_10 dX5_needFilled_11 dX5_needFilled_14 dX5_needFilled_17 (noTab _) (Nat.le_of_ble_eq_true rfl) (Nat.le_of_ble_eq_true rfl) (Nat.le_of_ble_eq_true rfl) (Nat.le_of_ble_eq_true rfl) (Nat.le_of_ble_eq_true rfl) (Nat.le_of_ble_eq_true rfl) ⟨rfl, hw⟩
theorem gc_X5_needFilled : ∀ rm : Room, rmX5_needFilled.frames + 1 ≤ rm.frames → 8 + (1 + 11) + rmX5_needFilled.locals ≤ rm.locals → gCall yX5_needFilled 1 1 rmX5_needFilled rm := fun rm a b => ⟨Or.inl ⟨_, _, tw407⟩, tw1, ⟨by decide, by decide⟩, by decide, a, b⟩
abbrev rmX5_needRoom : Room := { frames := 6, cells := 1, slots := 6, locals := 82 }
def wp_X5_needRoom (p1 : Nat) (p2 : Int32) (M : MEM) (Q : Prop) (X : String → Prop) : Prop := KD p1 = (14, 0) ∧ wp_X4_hasRoomFor p1 p2 M (fun r_1 => (¬ r_1 = 0 → (Q)) ∧ (r_1 = 0 → (X "java/lang/IllegalStateException")))
set_option maxRecDepth 100000 in
set_option maxHeartbeats 4000000 in
theorem met_X5_needRoom {l : Launch} (hl : l.stackTraces = false) {E : MK} {p1 : Nat} {p2 : Int32} {M : MEM} {Q : Prop} {X : String → Prop} (hw : wp_X5_needRoom p1 p2 M Q X) : gMet l E yX5_needRoom rmX5_needRoom [gR E p1, .int p2] M (qVp M Q) (gXp M X) := by
  refine g_met hl (cc := cX5_needRoom) (maxL := 2) (ret := none) (hh := []) (loc := [(0, gR E p1), (1, .int p2)]) (by decide +kernel) (Or.inl ⟨tw426, rfl⟩) (Nat.le_of_ble_eq_true rfl) rfl (fun K hK C => ?_)
  have C : GC K E cX5_needRoom RX5 2 none [] rmX5_needRoom := C
  refine g_aload_n C dX5_needRoom_0 0 rfl rfl ?_
  refine g_iload_n C dX5_needRoom_1 1 rfl rfl ?_
  obtain ⟨hk_3, hw⟩ := hw
  refine g_cV C dX5_needRoom_2 (met_X4_hasRoomFor C.st hw) (gc_X4_hasRoomFor _ (Nat.le_of_ble_eq_true rfl) (Nat.le_of_ble_eq_true rfl)) tw427 tw428 tw429 (ci := 4) rfl (by decide) hk_3 rfl (Nat.le_of_ble_eq_true rfl) (c2 := 0) (s2 := 0) rfl rfl (Nat.le_of_ble_eq_true rfl) (Nat.le_of_ble_eq_true rfl) rfl (kIp (fun r_1 hw => ?_)) tNo
  refine g_if_ne C dX5_needRoom_5 (tgt := 18) (by decide) (fun c5 => ?_) (fun c5 => ?_)
  · have hw := hw.1 c5
    exact g_vret C dX5_needRoom_18 (Nat.le_of_ble_eq_true rfl) (Nat.le_of_ble_eq_true rfl) ⟨rfl, rfl, hw⟩
  · have hw := hw.2 c5
    exact g_throwS C fit_IllegalStateException fit_N tw408 tw17 (List.mem_of_getElem? (i := 3) rfl) (List.mem_of_getElem? (i := 2) rfl) at_RX5_291 dX5_needRoom_8 dX5_needRoom_11 dX5_needRoom_12 dX5_needRoom_14 dX5_needRoom_17 (noTab _) (Nat.le_of_ble_eq_true rfl) (Nat.le_of_ble_eq_true rfl) (Nat.le_of_ble_eq_true rfl) (Nat.le_of_ble_eq_true rfl) (Nat.le_of_ble_eq_true rfl) (Nat.le_of_ble_eq_true rfl) ⟨rfl, hw⟩
theorem gc_X5_needRoom : ∀ rm : Room, rmX5_needRoom.frames + 1 ≤ rm.frames → 8 + (2 + 11) + rmX5_needRoom.locals ≤ rm.locals → gCall yX5_needRoom 2 2 rmX5_needRoom rm := fun rm a b => ⟨Or.inl ⟨_, _, tw426⟩, tw1, ⟨by decide, by decide⟩, by decide, a, b⟩
abbrev rmX5_offer : Room := { frames := 7, cells := 4, slots := 24, locals := 103 }
def wp_X5_offer (o : Nat) (p1 : Int32) (p2 : Int32) (p3 : Int32) (p4 : Int32) (p5 : Int32) (M : MEM) (Q : Int32 → MEM → Prop) (X : String → MEM → Prop) : Prop := KD o = (15, 0) ∧ (wp_X5_slotAt o p1 M (fun r_1 => wp_X5_areParts p2.toInt64 p3.toInt64 p4.toInt64 p5.toInt64 M (fun r_3 => wp_X5_needRange r_3 M (wp_X5_needFilled r_1 M (wp_X5_needRoom r_1 1 M (KD (RF o 5) = (10, 0) ∧ wp_X0_remember (RF o 5) p1 r_1 (mI M o 4) M (fun M_12 => ∀ x7_14 : Int32, x7_14 = mI M_12 o 4 → (KD r_1 = (14, 0) ∧ wp_X4_push r_1 x7_14 p2 p3 p4 p5 M_12 (fun M_16 => (∀ M_18 : MEM, M_18 = uI M_16 o 4 (x7_14 + 1) → (Q x7_14 M_18)))))) (fun En => X En M)) (fun En => X En M)) (fun En => X En M))) (fun En => X En M))
set_option maxRecDepth 100000 in
set_option maxHeartbeats 4000000 in
theorem met_X5_offer {l : Launch} (hl : l.stackTraces = false) {E : MK} {o : Nat} {p1 : Int32} {p2 : Int32} {p3 : Int32} {p4 : Int32} {p5 : Int32} {M : MEM} {Q : Int32 → MEM → Prop} {X : String → MEM → Prop} (hw : wp_X5_offer o p1 p2 p3 p4 p5 M Q X) : gMet l E yX5_offer rmX5_offer [gR E o, .int p1, .int p2, .int p3, .int p4, .int p5] M (qI Q) (qE X) := by
  obtain ⟨hk0, hw⟩ := hw
  refine g_met hl (cc := cX5_offer) (maxL := 8) (ret := (some .int)) (hh := []) (loc := [(0, gR E o), (1, .int p1), (2, .int p2), (3, .int p3), (4, .int p4), (5, .int p5)]) (by decide +kernel) (Or.inl ⟨tw398, rfl⟩) (Nat.le_of_ble_eq_true rfl) rfl (fun K hK C => ?_)
  have C : GC K E cX5_offer RX5 8 (some .int) [] rmX5_offer := C
  refine g_aload_n C dX5_offer_0 0 rfl rfl ?_
  refine g_iload_n C dX5_offer_1 1 rfl rfl ?_
  refine g_cV C dX5_offer_2 (met_X5_slotAt C.st hw) (gc_X5_slotAt _ (Nat.le_of_ble_eq_true rfl) (Nat.le_of_ble_eq_true rfl)) tw315 tw317 twp3 (ci := 5) rfl (by decide) hk0 rfl (Nat.le_of_ble_eq_true rfl) (c2 := 1) (s2 := 6) rfl rfl (Nat.le_of_ble_eq_true rfl) (Nat.le_of_ble_eq_true rfl) rfl (kRp (fun r_1 hw => ?_)) (fun En M9 hx => g_out C (noTab _) (Nat.le_of_ble_eq_true rfl) (Nat.le_of_ble_eq_true rfl) (by obtain ⟨rfl, hx⟩ := hx; exact hx))
  refine g_astore C dX5_offer_5 (Nat.le_of_ble_eq_true rfl) (loc' := [(6, gR E r_1), (0, gR E o), (1, .int p1), (2, .int p2), (3, .int p3), (4, .int p4), (5, .int p5)]) rfl ?_
  refine g_iload_n C dX5_offer_7 3 rfl rfl ?_
  refine g_i2l C dX5_offer_8 ?_
  refine g_iload_n C dX5_offer_9 4 rfl rfl ?_
  refine g_i2l C dX5_offer_10 ?_
  refine g_iload C (j := 0) dX5_offer_11 5 rfl ?_
  refine g_i2l C dX5_offer_13 ?_
  refine g_iload C (j := 0) dX5_offer_14 6 rfl ?_
  refine g_i2l C dX5_offer_16 ?_
  refine g_cS C dX5_offer_17 (met_X5_areParts C.st hw) (gc_X5_areParts _ (Nat.le_of_ble_eq_true rfl) (Nat.le_of_ble_eq_true rfl)) (Or.inl tw399) tw400 rfl (Nat.le_of_ble_eq_true rfl) (c2 := 1) (s2 := 6) rfl rfl (Nat.le_of_ble_eq_true rfl) (Nat.le_of_ble_eq_true rfl) rfl (kIp (fun r_3 hw => ?_)) tNo
  refine g_cS C dX5_offer_20 (met_X5_needRange C.st hw) (gc_X5_needRange _ (Nat.le_of_ble_eq_true rfl) (Nat.le_of_ble_eq_true rfl)) (Or.inl tw341) tw342 rfl (Nat.le_of_ble_eq_true rfl) (c2 := 2) (s2 := 12) rfl rfl (Nat.le_of_ble_eq_true rfl) (Nat.le_of_ble_eq_true rfl) rfl (kVp (fun hw => ?_)) (fun En M9 hx => g_out C (noTab _) (Nat.le_of_ble_eq_true rfl) (Nat.le_of_ble_eq_true rfl) (by obtain ⟨rfl, hx⟩ := hx; exact hx))
  refine g_aload C (j := 0) dX5_offer_23 0 rfl ?_
  refine g_cS C dX5_offer_25 (met_X5_needFilled C.st hw) (gc_X5_needFilled _ (Nat.le_of_ble_eq_true rfl) (Nat.le_of_ble_eq_true rfl)) (Or.inl tw405) tw406 rfl (Nat.le_of_ble_eq_true rfl) (c2 := 3) (s2 := 18) rfl rfl (Nat.le_of_ble_eq_true rfl) (Nat.le_of_ble_eq_true rfl) rfl (kVp (fun hw => ?_)) (fun En M9 hx => g_out C (noTab _) (Nat.le_of_ble_eq_true rfl) (Nat.le_of_ble_eq_true rfl) (by obtain ⟨rfl, hx⟩ := hx; exact hx))
  refine g_aload C (j := 0) dX5_offer_28 0 rfl ?_
  refine g_iconst C dX5_offer_30 (v := 1) rfl ?_
  refine g_cS C dX5_offer_31 (met_X5_needRoom C.st hw) (gc_X5_needRoom _ (Nat.le_of_ble_eq_true rfl) (Nat.le_of_ble_eq_true rfl)) (Or.inl tw424) tw425 rfl (Nat.le_of_ble_eq_true rfl) (c2 := 4) (s2 := 24) rfl rfl (Nat.le_of_ble_eq_true rfl) (Nat.le_of_ble_eq_true rfl) rfl (kVp (fun hw => ?_)) (fun En M9 hx => g_out C (noTab _) (Nat.le_of_ble_eq_true rfl) (Nat.le_of_ble_eq_true rfl) (by obtain ⟨rfl, hx⟩ := hx; exact hx))
  refine g_aload_n C dX5_offer_34 1 rfl rfl ?_
  refine gf_RX5_22 C hk0 dX5_offer_35 ?_
  refine g_iload_n C dX5_offer_38 2 rfl rfl ?_
  refine g_aload C (j := 0) dX5_offer_39 0 rfl ?_
  refine g_aload_n C dX5_offer_41 1 rfl rfl ?_
  refine gf_RX5_82 C hk0 dX5_offer_42 ?_
  obtain ⟨hk_13, hw⟩ := hw
  refine g_cV C dX5_offer_45 (met_X0_remember C.st hw) (gc_X0_remember _ (Nat.le_of_ble_eq_true rfl) (Nat.le_of_ble_eq_true rfl)) tw364 tw365 tw366 (ci := 0) rfl (by decide) hk_13 rfl (Nat.le_of_ble_eq_true rfl) (c2 := 4) (s2 := 24) rfl rfl (Nat.le_of_ble_eq_true rfl) (Nat.le_of_ble_eq_true rfl) rfl (kV (fun M_12 hw => ?_)) tNo
  refine g_aload_n C dX5_offer_48 1 rfl rfl ?_
  refine gf_RX5_82 C hk0 dX5_offer_49 ?_
  refine g_nmI (fun x7_14 ex7_14 => ?_)
  have hw := hw x7_14 ex7_14
  refine g_istore C dX5_offer_52 (Nat.le_of_ble_eq_true rfl) (loc' := [(7, .int x7_14), (6, gR E r_1), (0, gR E o), (1, .int p1), (2, .int p2), (3, .int p3), (4, .int p4), (5, .int p5)]) rfl ?_
  refine g_aload C (j := 0) dX5_offer_54 1 rfl ?_
  refine g_iload C (j := 0) dX5_offer_56 0 rfl ?_
  refine g_iload_n C dX5_offer_58 4 rfl rfl ?_
  refine g_iload_n C dX5_offer_59 5 rfl rfl ?_
  refine g_iload C (j := 0) dX5_offer_60 6 rfl ?_
  refine g_iload C (j := 0) dX5_offer_62 7 rfl ?_
  obtain ⟨hk_17, hw⟩ := hw
  refine g_cV C dX5_offer_64 (met_X4_push C.st hw) (gc_X4_push _ (Nat.le_of_ble_eq_true rfl) (Nat.le_of_ble_eq_true rfl)) tw432 tw433 tw434 (ci := 4) rfl (by decide) hk_17 rfl (Nat.le_of_ble_eq_true rfl) (c2 := 4) (s2 := 24) rfl rfl (Nat.le_of_ble_eq_true rfl) (Nat.le_of_ble_eq_true rfl) rfl (kV (fun M_16 hw => ?_)) tNo
  refine g_aload_n C dX5_offer_67 2 rfl rfl ?_
  refine g_iload C (j := 0) dX5_offer_68 0 rfl ?_
  refine g_iconst C dX5_offer_70 (v := 1) rfl ?_
  refine g_iadd C dX5_offer_71 ?_
  refine pf_RX5_82 C hk0 dX5_offer_72 ?_
  refine g_nmM (fun M_18 eM_18 => ?_)
  have hw := hw M_18 eM_18
  refine g_iload C (j := 0) dX5_offer_75 0 rfl ?_
  exact g_iret C dX5_offer_77 (Nat.le_of_ble_eq_true rfl) (Nat.le_of_ble_eq_true rfl) ⟨_, rfl, hw⟩
theorem gc_X5_offer : ∀ rm : Room, rmX5_offer.frames + 1 ≤ rm.frames → 8 + (8 + 11) + rmX5_offer.locals ≤ rm.locals → gCall yX5_offer 8 5 rmX5_offer rm := fun rm a b => ⟨Or.inl ⟨_, _, tw398⟩, tw1, ⟨by decide, by decide⟩, by decide, a, b⟩
abbrev rmX5_nextDrawn : Room := { frames := 0, cells := 0, slots := 0, locals := 0 }
def wp_X5_nextDrawn (p1 : Int32) (M : MEM) (Q : Int32 → Prop) : Prop := Q ((p1 * 1103515245) + 12345)
set_option maxRecDepth 100000 in
set_option maxHeartbeats 4000000 in
theorem met_X5_nextDrawn {l : Launch} (hl : l.stackTraces = false) {E : MK} {p1 : Int32} {M : MEM} {Q : Int32 → Prop} (hw : wp_X5_nextDrawn p1 M Q) : gMet l E yX5_nextDrawn rmX5_nextDrawn [.int p1] M (qIp M Q) gNo := by
  refine g_met hl (cc := cX5_nextDrawn) (maxL := 1) (ret := (some .int)) (hh := []) (loc := [(0, .int p1)]) (by decide +kernel) (Or.inl ⟨tw450, rfl⟩) (Nat.le_of_ble_eq_true rfl) rfl (fun K hK C => ?_)
  have C : GC K E cX5_nextDrawn RX5 1 (some .int) [] rmX5_nextDrawn := C
  refine g_iload_n C dX5_nextDrawn_0 0 rfl rfl ?_
  refine g_ldcw C dX5_nextDrawn_1 tw451 ?_
  refine g_imul C dX5_nextDrawn_4 ?_
  refine g_sipush C dX5_nextDrawn_5 (v := 12345) rfl ?_
  refine g_iadd C dX5_nextDrawn_8 ?_
  exact g_iret C dX5_nextDrawn_9 (Nat.le_of_ble_eq_true rfl) (Nat.le_of_ble_eq_true rfl) ⟨_, rfl, rfl, hw⟩
theorem gc_X5_nextDrawn : ∀ rm : Room, rmX5_nextDrawn.frames + 1 ≤ rm.frames → 8 + (1 + 11) + rmX5_nextDrawn.locals ≤ rm.locals → gCall yX5_nextDrawn 1 1 rmX5_nextDrawn rm := fun rm a b => ⟨Or.inl ⟨_, _, tw450⟩, tw1, ⟨by decide, by decide⟩, by decide, a, b⟩
abbrev rmX5_offerDrawn : Room := { frames := 7, cells := 4, slots := 24, locals := 103 }
def wp_X5_offerDrawn_L50 (o : Nat) (p3 : Int32) (Q : Int32 → MEM → Prop) (r_1 : Nat) : Nat → Int32 → Int32 → MEM → Prop
  | 0, _, _, _ => False
  | n50 + 1, x5_14, x6_15, M_16 => (p3 ≤ x6_15 → (KD r_1 = (14, 0) ∧ wp_X4_count r_1 M_16 (fun r_17 => Q r_17 M_16))) ∧ (¬ p3 ≤ x6_15 → (wp_X5_nextDrawn x5_14 M_16 (fun r_20 => ∀ x7_22 : Int32, x7_22 = gush r_20 8 → (KD r_1 = (14, 0) ∧ wp_X4_push r_1 (mI M_16 o 4) (x7_22 - x7_22 / 100 * 100) ((x7_22 / 100) - (x7_22 / 100) / 4 * 4) (((x7_22 / 400) - (x7_22 / 400) / 99 * 99) + 1) ((x7_22 - x7_22 / 1999 * 1999) - 999) M_16 (fun M_24 => (∀ M_26 : MEM, M_26 = uI M_24 o 4 ((mI M_24 o 4) + 1) → (∀ x6_27 : Int32, x6_27 = x6_15 + 1 → ((wp_X5_offerDrawn_L50 o p3 Q r_1 n50) r_20 x6_27 M_26))))))))
def wp_X5_offerDrawn (o : Nat) (p1 : Int32) (p2 : Int32) (p3 : Int32) (M : MEM) (Q : Int32 → MEM → Prop) (X : String → MEM → Prop) : Prop := KD o = (15, 0) ∧ (wp_X5_slotAt o p1 M (fun r_1 => wp_X5_isWithin p3.toInt64 0 60 M (fun r_3 => wp_X5_needRange r_3 M (wp_X5_needFilled r_1 M (wp_X5_needRoom r_1 p3 M (KD (RF o 5) = (10, 0) ∧ wp_X0_remember (RF o 5) p1 r_1 (mI M o 4) M (fun M_12 => ∃ m50 : Nat, wp_X5_offerDrawn_L50 o p3 Q r_1 m50 p2 0 M_12)) (fun En => X En M)) (fun En => X En M)) (fun En => X En M))) (fun En => X En M))
set_option maxRecDepth 100000 in
set_option maxHeartbeats 4000000 in
theorem met_X5_offerDrawn {l : Launch} (hl : l.stackTraces = false) {E : MK} {o : Nat} {p1 : Int32} {p2 : Int32} {p3 : Int32} {M : MEM} {Q : Int32 → MEM → Prop} {X : String → MEM → Prop} (hw : wp_X5_offerDrawn o p1 p2 p3 M Q X) : gMet l E yX5_offerDrawn rmX5_offerDrawn [gR E o, .int p1, .int p2, .int p3] M (qI Q) (qE X) := by
  obtain ⟨hk0, hw⟩ := hw
  refine g_met hl (cc := cX5_offerDrawn) (maxL := 8) (ret := (some .int)) (hh := []) (loc := [(0, gR E o), (1, .int p1), (2, .int p2), (3, .int p3)]) (by decide +kernel) (Or.inl ⟨tw446, rfl⟩) (Nat.le_of_ble_eq_true rfl) rfl (fun K hK C => ?_)
  have C : GC K E cX5_offerDrawn RX5 8 (some .int) [] rmX5_offerDrawn := C
  refine g_aload_n C dX5_offerDrawn_0 0 rfl rfl ?_
  refine g_iload_n C dX5_offerDrawn_1 1 rfl rfl ?_
  refine g_cV C dX5_offerDrawn_2 (met_X5_slotAt C.st hw) (gc_X5_slotAt _ (Nat.le_of_ble_eq_true rfl) (Nat.le_of_ble_eq_true rfl)) tw315 tw317 twp3 (ci := 5) rfl (by decide) hk0 rfl (Nat.le_of_ble_eq_true rfl) (c2 := 1) (s2 := 6) rfl rfl (Nat.le_of_ble_eq_true rfl) (Nat.le_of_ble_eq_true rfl) rfl (kRp (fun r_1 hw => ?_)) (fun En M9 hx => g_out C (noTab _) (Nat.le_of_ble_eq_true rfl) (Nat.le_of_ble_eq_true rfl) (by obtain ⟨rfl, hx⟩ := hx; exact hx))
  refine g_astore C dX5_offerDrawn_5 (Nat.le_of_ble_eq_true rfl) (loc' := [(4, gR E r_1), (0, gR E o), (1, .int p1), (2, .int p2), (3, .int p3)]) rfl ?_
  refine g_iload_n C dX5_offerDrawn_7 4 rfl rfl ?_
  refine g_i2l C dX5_offerDrawn_8 ?_
  refine g_lconst C dX5_offerDrawn_9 (v := 0) rfl ?_
  refine g_ldc2 C dX5_offerDrawn_10 tw447 ?_
  refine g_cS C dX5_offerDrawn_13 (met_X5_isWithin C.st hw) (gc_X5_isWithin _ (Nat.le_of_ble_eq_true rfl) (Nat.le_of_ble_eq_true rfl)) (Or.inl tw336) tw337 rfl (Nat.le_of_ble_eq_true rfl) (c2 := 1) (s2 := 6) rfl rfl (Nat.le_of_ble_eq_true rfl) (Nat.le_of_ble_eq_true rfl) rfl (kIp (fun r_3 hw => ?_)) tNo
  refine g_cS C dX5_offerDrawn_16 (met_X5_needRange C.st hw) (gc_X5_needRange _ (Nat.le_of_ble_eq_true rfl) (Nat.le_of_ble_eq_true rfl)) (Or.inl tw341) tw342 rfl (Nat.le_of_ble_eq_true rfl) (c2 := 2) (s2 := 12) rfl rfl (Nat.le_of_ble_eq_true rfl) (Nat.le_of_ble_eq_true rfl) rfl (kVp (fun hw => ?_)) (fun En M9 hx => g_out C (noTab _) (Nat.le_of_ble_eq_true rfl) (Nat.le_of_ble_eq_true rfl) (by obtain ⟨rfl, hx⟩ := hx; exact hx))
  refine g_aload C (j := 0) dX5_offerDrawn_19 0 rfl ?_
  refine g_cS C dX5_offerDrawn_21 (met_X5_needFilled C.st hw) (gc_X5_needFilled _ (Nat.le_of_ble_eq_true rfl) (Nat.le_of_ble_eq_true rfl)) (Or.inl tw405) tw406 rfl (Nat.le_of_ble_eq_true rfl) (c2 := 3) (s2 := 18) rfl rfl (Nat.le_of_ble_eq_true rfl) (Nat.le_of_ble_eq_true rfl) rfl (kVp (fun hw => ?_)) (fun En M9 hx => g_out C (noTab _) (Nat.le_of_ble_eq_true rfl) (Nat.le_of_ble_eq_true rfl) (by obtain ⟨rfl, hx⟩ := hx; exact hx))
  refine g_aload C (j := 0) dX5_offerDrawn_24 0 rfl ?_
  refine g_iload_n C dX5_offerDrawn_26 4 rfl rfl ?_
  refine g_cS C dX5_offerDrawn_27 (met_X5_needRoom C.st hw) (gc_X5_needRoom _ (Nat.le_of_ble_eq_true rfl) (Nat.le_of_ble_eq_true rfl)) (Or.inl tw424) tw425 rfl (Nat.le_of_ble_eq_true rfl) (c2 := 4) (s2 := 24) rfl rfl (Nat.le_of_ble_eq_true rfl) (Nat.le_of_ble_eq_true rfl) rfl (kVp (fun hw => ?_)) (fun En M9 hx => g_out C (noTab _) (Nat.le_of_ble_eq_true rfl) (Nat.le_of_ble_eq_true rfl) (by obtain ⟨rfl, hx⟩ := hx; exact hx))
  refine g_aload_n C dX5_offerDrawn_30 1 rfl rfl ?_
  refine gf_RX5_22 C hk0 dX5_offerDrawn_31 ?_
  refine g_iload_n C dX5_offerDrawn_34 2 rfl rfl ?_
  refine g_aload C (j := 0) dX5_offerDrawn_35 0 rfl ?_
  refine g_aload_n C dX5_offerDrawn_37 1 rfl rfl ?_
  refine gf_RX5_82 C hk0 dX5_offerDrawn_38 ?_
  obtain ⟨hk_13, hw⟩ := hw
  refine g_cV C dX5_offerDrawn_41 (met_X0_remember C.st hw) (gc_X0_remember _ (Nat.le_of_ble_eq_true rfl) (Nat.le_of_ble_eq_true rfl)) tw364 tw365 tw366 (ci := 0) rfl (by decide) hk_13 rfl (Nat.le_of_ble_eq_true rfl) (c2 := 4) (s2 := 24) rfl rfl (Nat.le_of_ble_eq_true rfl) (Nat.le_of_ble_eq_true rfl) rfl (kV (fun M_12 hw => ?_)) tNo
  refine g_iload_n C dX5_offerDrawn_44 3 rfl rfl ?_
  refine g_istore C dX5_offerDrawn_45 (Nat.le_of_ble_eq_true rfl) (loc' := [(5, .int p2), (4, gR E r_1), (0, gR E o), (1, .int p1), (2, .int p2), (3, .int p3)]) rfl ?_
  refine g_iconst C dX5_offerDrawn_47 (v := 0) rfl ?_
  refine g_istore C dX5_offerDrawn_48 (Nat.le_of_ble_eq_true rfl) (loc' := [(6, .int 0), (5, .int p2), (4, gR E r_1), (0, gR E o), (1, .int p1), (2, .int p2), (3, .int p3)]) rfl ?_
  obtain ⟨m50, hw⟩ := hw
  have hL50 : ∀ (n50 : Nat) (x5_14 : Int32) (x6_15 : Int32) (M_16 : MEM), wp_X5_offerDrawn_L50 o p3 Q r_1 n50 x5_14 x6_15 M_16 → GX K E 8 M_16 [(0, gR E o), (3, .int p3), (4, gR E r_1), (5, .int x5_14), (6, .int x6_15)] [] 50 4 24 (gEnd K E (qI Q) (qE X) rmX5_offerDrawn.cells rmX5_offerDrawn.slots) := by
    intro n50
    induction n50 with
    | zero => intro _ _ _ hw; exact False.elim hw
    | succ n50 ih50 =>
      intro x5_14 x6_15 M_16 hw
      refine g_iload C (j := 0) dX5_offerDrawn_50 4 rfl ?_
      refine g_iload_n C dX5_offerDrawn_52 1 rfl rfl ?_
      refine g_icmp_ge C dX5_offerDrawn_53 (tgt := 128) (by decide) (fun c53 => ?_) (fun c53 => ?_)
      · have hw := hw.1 c53
        refine g_aload C (j := 0) dX5_offerDrawn_128 2 rfl ?_
        obtain ⟨hk_19, hw⟩ := hw
        refine g_cV C dX5_offerDrawn_130 (met_X4_count C.st hw) (gc_X4_count _ (Nat.le_of_ble_eq_true rfl) (Nat.le_of_ble_eq_true rfl)) tw360 tw361 tw362 (ci := 4) rfl (by decide) hk_19 rfl (Nat.le_of_ble_eq_true rfl) (c2 := 4) (s2 := 24) rfl rfl (Nat.le_of_ble_eq_true rfl) (Nat.le_of_ble_eq_true rfl) rfl (kIp (fun r_17 hw => ?_)) tNo
        exact g_iret C dX5_offerDrawn_133 (Nat.le_of_ble_eq_true rfl) (Nat.le_of_ble_eq_true rfl) ⟨_, rfl, hw⟩
      · have hw := hw.2 c53
        refine g_iload C (j := 0) dX5_offerDrawn_56 3 rfl ?_
        refine g_cS C dX5_offerDrawn_58 (met_X5_nextDrawn C.st hw) (gc_X5_nextDrawn _ (Nat.le_of_ble_eq_true rfl) (Nat.le_of_ble_eq_true rfl)) (Or.inl tw448) tw449 rfl (Nat.le_of_ble_eq_true rfl) (c2 := 4) (s2 := 24) rfl rfl (Nat.le_of_ble_eq_true rfl) (Nat.le_of_ble_eq_true rfl) rfl (kIp (fun r_20 hw => ?_)) tNo
        refine g_istore C dX5_offerDrawn_61 (Nat.le_of_ble_eq_true rfl) (loc' := [(5, .int r_20), (0, gR E o), (3, .int p3), (4, gR E r_1), (6, .int x6_15)]) rfl ?_
        refine g_iload C (j := 0) dX5_offerDrawn_63 0 rfl ?_
        refine g_bipush C dX5_offerDrawn_65 (v := 8) rfl ?_
        refine g_iushr C dX5_offerDrawn_67 ?_
        refine g_nmI (fun x7_22 ex7_22 => ?_)
        have hw := hw x7_22 ex7_22
        refine g_istore C dX5_offerDrawn_68 (Nat.le_of_ble_eq_true rfl) (loc' := [(7, .int x7_22), (5, .int r_20), (0, gR E o), (3, .int p3), (4, gR E r_1), (6, .int x6_15)]) rfl ?_
        refine g_aload C (j := 0) dX5_offerDrawn_70 4 rfl ?_
        refine g_aload_n C dX5_offerDrawn_72 2 rfl rfl ?_
        refine gf_RX5_82 C hk0 dX5_offerDrawn_73 ?_
        refine g_iload C (j := 0) dX5_offerDrawn_76 0 rfl ?_
        refine g_bipush C dX5_offerDrawn_78 (v := 100) rfl ?_
        refine g_irem C dX5_offerDrawn_80 (by decide) ?_
        refine g_iload C (j := 0) dX5_offerDrawn_81 0 rfl ?_
        refine g_bipush C dX5_offerDrawn_83 (v := 100) rfl ?_
        refine g_idiv C dX5_offerDrawn_85 (by decide) ?_
        refine g_iconst C dX5_offerDrawn_86 (v := 4) rfl ?_
        refine g_irem C dX5_offerDrawn_87 (by decide) ?_
        refine g_iload C (j := 0) dX5_offerDrawn_88 0 rfl ?_
        refine g_sipush C dX5_offerDrawn_90 (v := 400) rfl ?_
        refine g_idiv C dX5_offerDrawn_93 (by decide) ?_
        refine g_bipush C dX5_offerDrawn_94 (v := 99) rfl ?_
        refine g_irem C dX5_offerDrawn_96 (by decide) ?_
        refine g_iconst C dX5_offerDrawn_97 (v := 1) rfl ?_
        refine g_iadd C dX5_offerDrawn_98 ?_
        refine g_iload C (j := 0) dX5_offerDrawn_99 0 rfl ?_
        refine g_sipush C dX5_offerDrawn_101 (v := 1999) rfl ?_
        refine g_irem C dX5_offerDrawn_104 (by decide) ?_
        refine g_sipush C dX5_offerDrawn_105 (v := 999) rfl ?_
        refine g_isub C dX5_offerDrawn_108 ?_
        obtain ⟨hk_25, hw⟩ := hw
        refine g_cV C dX5_offerDrawn_109 (met_X4_push C.st hw) (gc_X4_push _ (Nat.le_of_ble_eq_true rfl) (Nat.le_of_ble_eq_true rfl)) tw432 tw433 tw434 (ci := 4) rfl (by decide) hk_25 rfl (Nat.le_of_ble_eq_true rfl) (c2 := 4) (s2 := 24) rfl rfl (Nat.le_of_ble_eq_true rfl) (Nat.le_of_ble_eq_true rfl) rfl (kV (fun M_24 hw => ?_)) tNo
        refine g_aload_n C dX5_offerDrawn_112 2 rfl rfl ?_
        refine g_dup C dX5_offerDrawn_113 rfl ?_
        refine gf_RX5_82 C hk0 dX5_offerDrawn_114 ?_
        refine g_iconst C dX5_offerDrawn_117 (v := 1) rfl ?_
        refine g_iadd C dX5_offerDrawn_118 ?_
        refine pf_RX5_82 C hk0 dX5_offerDrawn_119 ?_
        refine g_nmM (fun M_26 eM_26 => ?_)
        have hw := hw M_26 eM_26
        obtain ⟨x6_27, ex6_27⟩ : ∃ y : Int32, y = x6_15 + 1 := ⟨_, rfl⟩
        have hw := hw x6_27 ex6_27
        refine g_iinc C (j := 0) dX5_offerDrawn_122 5 rfl (v := x6_27) (by rw [ex6_27]; rfl) (Nat.le_of_ble_eq_true rfl) (loc' := [(6, .int x6_27), (7, .int x7_22), (5, .int r_20), (0, gR E o), (3, .int p3), (4, gR E r_1)]) rfl ?_
        refine g_goto C dX5_offerDrawn_125 (tgt := 50) (by decide) ?_
        refine g_sub [3, 4, 5, 2, 0] rfl ?_
        exact ih50 _ _ _ hw
  refine g_sub [3, 6, 2, 1, 0] rfl ?_
  exact hL50 m50 _ _ _ hw
theorem gc_X5_offerDrawn : ∀ rm : Room, rmX5_offerDrawn.frames + 1 ≤ rm.frames → 8 + (8 + 11) + rmX5_offerDrawn.locals ≤ rm.locals → gCall yX5_offerDrawn 8 3 rmX5_offerDrawn rm := fun rm a b => ⟨Or.inl ⟨_, _, tw446⟩, tw1, ⟨by decide, by decide⟩, by decide, a, b⟩
abbrev rmX5_sampleOf : Room := { frames := 5, cells := 0, slots := 0, locals := 112 }
def wp_X5_sampleOf (o : Nat) (p1 : Nat) (M : MEM) (Q : Nat → MEM → Prop) : Prop := KD o = (15, 0) ∧ (KD (RF o 7) = (13, 0) ∧ wp_X3_find (RF o 7) p1 M (fun M_2 => Q (RF o 7) M_2))
set_option maxRecDepth 100000 in
set_option maxHeartbeats 4000000 in
theorem met_X5_sampleOf {l : Launch} (hl : l.stackTraces = false) {E : MK} {o : Nat} {p1 : Nat} {M : MEM} {Q : Nat → MEM → Prop} (hw : wp_X5_sampleOf o p1 M Q) : gMet l E yX5_sampleOf rmX5_sampleOf [gR E o, gR E p1] M (qR E Q) gNo := by
  obtain ⟨hk0, hw⟩ := hw
  refine g_met hl (cc := cX5_sampleOf) (maxL := 2) (ret := (some (.object "SampleBench$Sample"))) (hh := []) (loc := [(0, gR E o), (1, gR E p1)]) (by decide +kernel) (Or.inl ⟨tw463, rfl⟩) (Nat.le_of_ble_eq_true rfl) rfl (fun K hK C => ?_)
  have C : GC K E cX5_sampleOf RX5 2 (some (.object "SampleBench$Sample")) [] rmX5_sampleOf := C
  refine g_aload_n C dX5_sampleOf_0 0 rfl rfl ?_
  refine gf_RX5_33 C hk0 dX5_sampleOf_1 ?_
  refine g_aload_n C dX5_sampleOf_4 1 rfl rfl ?_
  obtain ⟨hk_3, hw⟩ := hw
  refine g_cV C dX5_sampleOf_5 (met_X3_find C.st hw) (gc_X3_find _ (Nat.le_of_ble_eq_true rfl) (Nat.le_of_ble_eq_true rfl)) tw464 tw465 tw466 (ci := 3) rfl (by decide) hk_3 rfl (Nat.le_of_ble_eq_true rfl) (c2 := 0) (s2 := 0) rfl rfl (Nat.le_of_ble_eq_true rfl) (Nat.le_of_ble_eq_true rfl) rfl (kV (fun M_2 hw => ?_)) tNo
  refine g_aload_n C dX5_sampleOf_8 0 rfl rfl ?_
  refine gf_RX5_33 C hk0 dX5_sampleOf_9 ?_
  exact g_aret C dX5_sampleOf_12 (Nat.le_of_ble_eq_true rfl) (Nat.le_of_ble_eq_true rfl) ⟨_, rfl, hw⟩
theorem gc_X5_sampleOf : ∀ rm : Room, rmX5_sampleOf.frames + 1 ≤ rm.frames → 8 + (2 + 11) + rmX5_sampleOf.locals ≤ rm.locals → gCall yX5_sampleOf 2 1 rmX5_sampleOf rm := fun rm a b => ⟨Or.inl ⟨_, _, tw463⟩, tw1, ⟨by decide, by decide⟩, by decide, a, b⟩
abbrev rmX5_summary : Room := { frames := 7, cells := 3, slots := 18, locals := 133 }
def wp_X5_summary (o : Nat) (p1 : Int32) (p2 : Int32) (M : MEM) (Q : Int32 → MEM → Prop) (X : String → MEM → Prop) : Prop := KD o = (15, 0) ∧ (wp_X5_slotAt o p1 M (fun r_1 => wp_X5_isWithin p2.toInt64 0 7 M (fun r_3 => wp_X5_needRange r_3 M (wp_X5_needFilled r_1 M (((p2.toInt < 0 ∨ 6 < p2.toInt) → (KD r_1 = (14, 0) ∧ wp_X4_differentKeys r_1 M (fun r_9 => Q r_9 M))) ∧ (p2 = nI 0 → (KD r_1 = (14, 0) ∧ (Q (mI M r_1 1) M))) ∧ (p2 = nI 1 → (KD r_1 = (14, 0) ∧ (Q (mI M r_1 2) M))) ∧ (p2 = nI 2 → (KD r_1 = (14, 0) ∧ (Q (mI M r_1 3) M))) ∧ (p2 = nI 3 → (KD r_1 = (14, 0) ∧ (Q (mI M r_1 4) M))) ∧ (p2 = nI 4 → (KD r_1 = (14, 0) ∧ wp_X4_count r_1 M (fun r_16 => Q r_16 M))) ∧ (p2 = nI 5 → (wp_X5_sampleOf o r_1 M (fun r_19 M_20 => KD r_19 = (13, 0) ∧ wp_X3_size r_19 M_20 (fun r_21 => Q r_21 M_20)))) ∧ (p2 = nI 6 → (wp_X5_sampleOf o r_1 M (fun r_24 M_25 => KD r_24 = (13, 0) ∧ wp_X3_isComplete r_24 M_25 (fun r_26 => (r_26 = 0 → (Q 0 M_25)) ∧ (¬ r_26 = 0 → (Q 1 M_25))))))) (fun En => X En M)) (fun En => X En M))) (fun En => X En M))
set_option maxRecDepth 100000 in
set_option maxHeartbeats 4000000 in
theorem met_X5_summary {l : Launch} (hl : l.stackTraces = false) {E : MK} {o : Nat} {p1 : Int32} {p2 : Int32} {M : MEM} {Q : Int32 → MEM → Prop} {X : String → MEM → Prop} (hw : wp_X5_summary o p1 p2 M Q X) : gMet l E yX5_summary rmX5_summary [gR E o, .int p1, .int p2] M (qI Q) (qE X) := by
  obtain ⟨hk0, hw⟩ := hw
  refine g_met hl (cc := cX5_summary) (maxL := 4) (ret := (some .int)) (hh := []) (loc := [(0, gR E o), (1, .int p1), (2, .int p2)]) (by decide +kernel) (Or.inl ⟨tw458, rfl⟩) (Nat.le_of_ble_eq_true rfl) rfl (fun K hK C => ?_)
  have C : GC K E cX5_summary RX5 4 (some .int) [] rmX5_summary := C
  refine g_aload_n C dX5_summary_0 0 rfl rfl ?_
  refine g_iload_n C dX5_summary_1 1 rfl rfl ?_
  refine g_cV C dX5_summary_2 (met_X5_slotAt C.st hw) (gc_X5_slotAt _ (Nat.le_of_ble_eq_true rfl) (Nat.le_of_ble_eq_true rfl)) tw315 tw317 twp3 (ci := 5) rfl (by decide) hk0 rfl (Nat.le_of_ble_eq_true rfl) (c2 := 1) (s2 := 6) rfl rfl (Nat.le_of_ble_eq_true rfl) (Nat.le_of_ble_eq_true rfl) rfl (kRp (fun r_1 hw => ?_)) (fun En M9 hx => g_out C (noTab _) (Nat.le_of_ble_eq_true rfl) (Nat.le_of_ble_eq_true rfl) (by obtain ⟨rfl, hx⟩ := hx; exact hx))
  refine g_astore_n C dX5_summary_5 rfl (Nat.le_of_ble_eq_true rfl) (loc' := [(3, gR E r_1), (0, gR E o), (1, .int p1), (2, .int p2)]) rfl ?_
  refine g_iload_n C dX5_summary_6 3 rfl rfl ?_
  refine g_i2l C dX5_summary_7 ?_
  refine g_lconst C dX5_summary_8 (v := 0) rfl ?_
  refine g_ldc2 C dX5_summary_9 tw459 ?_
  refine g_cS C dX5_summary_12 (met_X5_isWithin C.st hw) (gc_X5_isWithin _ (Nat.le_of_ble_eq_true rfl) (Nat.le_of_ble_eq_true rfl)) (Or.inl tw336) tw337 rfl (Nat.le_of_ble_eq_true rfl) (c2 := 1) (s2 := 6) rfl rfl (Nat.le_of_ble_eq_true rfl) (Nat.le_of_ble_eq_true rfl) rfl (kIp (fun r_3 hw => ?_)) tNo
  refine g_cS C dX5_summary_15 (met_X5_needRange C.st hw) (gc_X5_needRange _ (Nat.le_of_ble_eq_true rfl) (Nat.le_of_ble_eq_true rfl)) (Or.inl tw341) tw342 rfl (Nat.le_of_ble_eq_true rfl) (c2 := 2) (s2 := 12) rfl rfl (Nat.le_of_ble_eq_true rfl) (Nat.le_of_ble_eq_true rfl) rfl (kVp (fun hw => ?_)) (fun En M9 hx => g_out C (noTab _) (Nat.le_of_ble_eq_true rfl) (Nat.le_of_ble_eq_true rfl) (by obtain ⟨rfl, hx⟩ := hx; exact hx))
  refine g_aload_n C dX5_summary_18 0 rfl rfl ?_
  refine g_cS C dX5_summary_19 (met_X5_needFilled C.st hw) (gc_X5_needFilled _ (Nat.le_of_ble_eq_true rfl) (Nat.le_of_ble_eq_true rfl)) (Or.inl tw405) tw406 rfl (Nat.le_of_ble_eq_true rfl) (c2 := 3) (s2 := 18) rfl rfl (Nat.le_of_ble_eq_true rfl) (Nat.le_of_ble_eq_true rfl) rfl (kVp (fun hw => ?_)) (fun En M9 hx => g_out C (noTab _) (Nat.le_of_ble_eq_true rfl) (Nat.le_of_ble_eq_true rfl) (by obtain ⟨rfl, hx⟩ := hx; exact hx))
  refine g_iload_n C dX5_summary_22 3 rfl rfl ?_
  rcases sw_cases p2 7 (by decide) with c23 | ⟨i23, hi23, c23⟩
  · have hw := hw.1 c23
    refine g_tableOut C dX5_summary_23 c23 (tgt := 115) (by decide) ?_
    refine g_aload_n C dX5_summary_115 0 rfl rfl ?_
    obtain ⟨hk_11, hw⟩ := hw
    refine g_cV C dX5_summary_116 (met_X4_differentKeys C.st hw) (gc_X4_differentKeys _ (Nat.le_of_ble_eq_true rfl) (Nat.le_of_ble_eq_true rfl)) tw530 tw531 tw532 (ci := 4) rfl (by decide) hk_11 rfl (Nat.le_of_ble_eq_true rfl) (c2 := 3) (s2 := 18) rfl rfl (Nat.le_of_ble_eq_true rfl) (Nat.le_of_ble_eq_true rfl) rfl (kIp (fun r_9 hw => ?_)) tNo
    exact g_iret C dX5_summary_119 (Nat.le_of_ble_eq_true rfl) (Nat.le_of_ble_eq_true rfl) ⟨_, rfl, hw⟩
  · rcases (show i23 = 0 ∨ i23 = 1 ∨ i23 = 2 ∨ i23 = 3 ∨ i23 = 4 ∨ i23 = 5 ∨ i23 = 6 by omega) with rfl | rfl | rfl | rfl | rfl | rfl | rfl
    · have hw := hw.2.1 c23
      refine g_tableIn C dX5_summary_23 (by rw [c23]; decide) (by rw [c23]; decide) (off := 41) (by rw [c23]; rfl) (tgt := 64) (by decide) ?_
      refine g_aload_n C dX5_summary_64 0 rfl rfl ?_
      obtain ⟨hk_12, hw⟩ := hw
      refine gf_RX5_124 C hk_12 dX5_summary_65 ?_
      exact g_iret C dX5_summary_68 (Nat.le_of_ble_eq_true rfl) (Nat.le_of_ble_eq_true rfl) ⟨_, rfl, hw⟩
    · have hw := hw.2.2.1 c23
      refine g_tableIn C dX5_summary_23 (by rw [c23]; decide) (by rw [c23]; decide) (off := 46) (by rw [c23]; rfl) (tgt := 69) (by decide) ?_
      refine g_aload_n C dX5_summary_69 0 rfl rfl ?_
      obtain ⟨hk_13, hw⟩ := hw
      refine gf_RX5_127 C hk_13 dX5_summary_70 ?_
      exact g_iret C dX5_summary_73 (Nat.le_of_ble_eq_true rfl) (Nat.le_of_ble_eq_true rfl) ⟨_, rfl, hw⟩
    · have hw := hw.2.2.2.1 c23
      refine g_tableIn C dX5_summary_23 (by rw [c23]; decide) (by rw [c23]; decide) (off := 51) (by rw [c23]; rfl) (tgt := 74) (by decide) ?_
      refine g_aload_n C dX5_summary_74 0 rfl rfl ?_
      obtain ⟨hk_14, hw⟩ := hw
      refine gf_RX5_130 C hk_14 dX5_summary_75 ?_
      exact g_iret C dX5_summary_78 (Nat.le_of_ble_eq_true rfl) (Nat.le_of_ble_eq_true rfl) ⟨_, rfl, hw⟩
    · have hw := hw.2.2.2.2.1 c23
      refine g_tableIn C dX5_summary_23 (by rw [c23]; decide) (by rw [c23]; decide) (off := 56) (by rw [c23]; rfl) (tgt := 79) (by decide) ?_
      refine g_aload_n C dX5_summary_79 0 rfl rfl ?_
      obtain ⟨hk_15, hw⟩ := hw
      refine gf_RX5_133 C hk_15 dX5_summary_80 ?_
      exact g_iret C dX5_summary_83 (Nat.le_of_ble_eq_true rfl) (Nat.le_of_ble_eq_true rfl) ⟨_, rfl, hw⟩
    · have hw := hw.2.2.2.2.2.1 c23
      refine g_tableIn C dX5_summary_23 (by rw [c23]; decide) (by rw [c23]; decide) (off := 61) (by rw [c23]; rfl) (tgt := 84) (by decide) ?_
      refine g_aload_n C dX5_summary_84 0 rfl rfl ?_
      obtain ⟨hk_18, hw⟩ := hw
      refine g_cV C dX5_summary_85 (met_X4_count C.st hw) (gc_X4_count _ (Nat.le_of_ble_eq_true rfl) (Nat.le_of_ble_eq_true rfl)) tw360 tw361 tw362 (ci := 4) rfl (by decide) hk_18 rfl (Nat.le_of_ble_eq_true rfl) (c2 := 3) (s2 := 18) rfl rfl (Nat.le_of_ble_eq_true rfl) (Nat.le_of_ble_eq_true rfl) rfl (kIp (fun r_16 hw => ?_)) tNo
      exact g_iret C dX5_summary_88 (Nat.le_of_ble_eq_true rfl) (Nat.le_of_ble_eq_true rfl) ⟨_, rfl, hw⟩
    · have hw := hw.2.2.2.2.2.2.1 c23
      refine g_tableIn C dX5_summary_23 (by rw [c23]; decide) (by rw [c23]; decide) (off := 66) (by rw [c23]; rfl) (tgt := 89) (by decide) ?_
      refine g_aload_n C dX5_summary_89 1 rfl rfl ?_
      refine g_aload_n C dX5_summary_90 0 rfl rfl ?_
      refine g_cV C dX5_summary_91 (met_X5_sampleOf C.st hw) (gc_X5_sampleOf _ (Nat.le_of_ble_eq_true rfl) (Nat.le_of_ble_eq_true rfl)) tw460 tw462 twp6 (ci := 5) rfl (by decide) hk0 rfl (Nat.le_of_ble_eq_true rfl) (c2 := 3) (s2 := 18) rfl rfl (Nat.le_of_ble_eq_true rfl) (Nat.le_of_ble_eq_true rfl) rfl (kR' (fun r_19 M_20 hw => ?_)) tNo
      obtain ⟨hk_23, hw⟩ := hw
      refine g_cV C dX5_summary_94 (met_X3_size C.st hw) (gc_X3_size _ (Nat.le_of_ble_eq_true rfl) (Nat.le_of_ble_eq_true rfl)) tw522 tw523 tw524 (ci := 3) rfl (by decide) hk_23 rfl (Nat.le_of_ble_eq_true rfl) (c2 := 3) (s2 := 18) rfl rfl (Nat.le_of_ble_eq_true rfl) (Nat.le_of_ble_eq_true rfl) rfl (kIp (fun r_21 hw => ?_)) tNo
      exact g_iret C dX5_summary_97 (Nat.le_of_ble_eq_true rfl) (Nat.le_of_ble_eq_true rfl) ⟨_, rfl, hw⟩
    · have hw := hw.2.2.2.2.2.2.2 c23
      refine g_tableIn C dX5_summary_23 (by rw [c23]; decide) (by rw [c23]; decide) (off := 75) (by rw [c23]; rfl) (tgt := 98) (by decide) ?_
      refine g_aload_n C dX5_summary_98 1 rfl rfl ?_
      refine g_aload_n C dX5_summary_99 0 rfl rfl ?_
      refine g_cV C dX5_summary_100 (met_X5_sampleOf C.st hw) (gc_X5_sampleOf _ (Nat.le_of_ble_eq_true rfl) (Nat.le_of_ble_eq_true rfl)) tw460 tw462 twp6 (ci := 5) rfl (by decide) hk0 rfl (Nat.le_of_ble_eq_true rfl) (c2 := 3) (s2 := 18) rfl rfl (Nat.le_of_ble_eq_true rfl) (Nat.le_of_ble_eq_true rfl) rfl (kR' (fun r_24 M_25 hw => ?_)) tNo
      obtain ⟨hk_28, hw⟩ := hw
      refine g_cV C dX5_summary_103 (met_X3_isComplete C.st hw) (gc_X3_isComplete _ (Nat.le_of_ble_eq_true rfl) (Nat.le_of_ble_eq_true rfl)) tw526 tw527 tw528 (ci := 3) rfl (by decide) hk_28 rfl (Nat.le_of_ble_eq_true rfl) (c2 := 3) (s2 := 18) rfl rfl (Nat.le_of_ble_eq_true rfl) (Nat.le_of_ble_eq_true rfl) rfl (kIp (fun r_26 hw => ?_)) tNo
      refine g_if_eq C dX5_summary_106 (tgt := 113) (by decide) (fun c106 => ?_) (fun c106 => ?_)
      · have hw := hw.1 c106
        refine g_iconst C dX5_summary_113 (v := 0) rfl ?_
        exact g_iret C dX5_summary_114 (Nat.le_of_ble_eq_true rfl) (Nat.le_of_ble_eq_true rfl) ⟨_, rfl, hw⟩
      · have hw := hw.2 c106
        refine g_iconst C dX5_summary_109 (v := 1) rfl ?_
        refine g_goto C dX5_summary_110 (tgt := 114) (by decide) ?_
        exact g_iret C dX5_summary_114 (Nat.le_of_ble_eq_true rfl) (Nat.le_of_ble_eq_true rfl) ⟨_, rfl, hw⟩
theorem gc_X5_summary : ∀ rm : Room, rmX5_summary.frames + 1 ≤ rm.frames → 8 + (4 + 11) + rmX5_summary.locals ≤ rm.locals → gCall yX5_summary 4 2 rmX5_summary rm := fun rm a b => ⟨Or.inl ⟨_, _, tw458⟩, tw1, ⟨by decide, by decide⟩, by decide, a, b⟩
abbrev rmX5_needStratum : Room := { frames := 6, cells := 1, slots := 6, locals := 82 }
def wp_X5_needStratum (p1 : Int32) (M : MEM) (Q : Prop) (X : String → Prop) : Prop := wp_X5_isWithin p1.toInt64 0 3 M (fun r_1 => (¬ r_1 = 0 → (Q)) ∧ (r_1 = 0 → (X "java/lang/IndexOutOfBoundsException")))
set_option maxRecDepth 100000 in
set_option maxHeartbeats 4000000 in
theorem met_X5_needStratum {l : Launch} (hl : l.stackTraces = false) {E : MK} {p1 : Int32} {M : MEM} {Q : Prop} {X : String → Prop} (hw : wp_X5_needStratum p1 M Q X) : gMet l E yX5_needStratum rmX5_needStratum [.int p1] M (qVp M Q) (gXp M X) := by
  refine g_met hl (cc := cX5_needStratum) (maxL := 1) (ret := none) (hh := []) (loc := [(0, .int p1)]) (by decide +kernel) (Or.inl ⟨tw544, rfl⟩) (Nat.le_of_ble_eq_true rfl) rfl (fun K hK C => ?_)
  have C : GC K E cX5_needStratum RX5 1 none [] rmX5_needStratum := C
  refine g_iload_n C dX5_needStratum_0 0 rfl rfl ?_
  refine g_i2l C dX5_needStratum_1 ?_
  refine g_lconst C dX5_needStratum_2 (v := 0) rfl ?_
  refine g_ldc2 C dX5_needStratum_3 tw335 ?_
  refine g_cS C dX5_needStratum_6 (met_X5_isWithin C.st hw) (gc_X5_isWithin _ (Nat.le_of_ble_eq_true rfl) (Nat.le_of_ble_eq_true rfl)) (Or.inl tw336) tw337 rfl (Nat.le_of_ble_eq_true rfl) (c2 := 0) (s2 := 0) rfl rfl (Nat.le_of_ble_eq_true rfl) (Nat.le_of_ble_eq_true rfl) rfl (kIp (fun r_1 hw => ?_)) tNo
  refine g_if_ne C dX5_needStratum_9 (tgt := 23) (by decide) (fun c9 => ?_) (fun c9 => ?_)
  · have hw := hw.1 c9
    exact g_vret C dX5_needStratum_23 (Nat.le_of_ble_eq_true rfl) (Nat.le_of_ble_eq_true rfl) ⟨rfl, rfl, hw⟩
  · have hw := hw.2 c9
    exact g_throwSW C fit_IndexOutOfBoundsException fit_N tw319 tw12 (List.mem_of_getElem? (i := 4) rfl) (List.mem_of_getElem? (i := 0) rfl) at_RX5_220 dX5_needStratum_12 dX5_needStratum_15 dX5_needStratum_16 dX5_needStratum_19 dX5_needStratum_22 (noTab _) (Nat.le_of_ble_eq_true rfl) (Nat.le_of_ble_eq_true rfl) (Nat.le_of_ble_eq_true rfl) (Nat.le_of_ble_eq_true rfl) (Nat.le_of_ble_eq_true rfl) (Nat.le_of_ble_eq_true rfl) ⟨rfl, hw⟩
theorem gc_X5_needStratum : ∀ rm : Room, rmX5_needStratum.frames + 1 ≤ rm.frames → 8 + (1 + 11) + rmX5_needStratum.locals ≤ rm.locals → gCall yX5_needStratum 1 1 rmX5_needStratum rm := fun rm a b => ⟨Or.inl ⟨_, _, tw544⟩, tw1, ⟨by decide, by decide⟩, by decide, a, b⟩
abbrev rmX5_setQuota : Room := { frames := 7, cells := 4, slots := 24, locals := 103 }
def wp_X5_setQuota (o : Nat) (p1 : Int32) (p2 : Int32) (p3 : Int32) (M : MEM) (Q : Int32 → MEM → Prop) (X : String → MEM → Prop) : Prop := KD o = (15, 0) ∧ (wp_X5_slotAt o p1 M (fun r_1 => wp_X5_needStratum p2 M (wp_X5_isWithin p3.toInt64 0 12 M (fun r_5 => wp_X5_needRange r_5 M (wp_X5_needFilled r_1 M (KD r_1 = (14, 0) ∧ wp_X4_quotaOf r_1 p2 M (fun r_11 => KD (RF o 5) = (10, 0) ∧ wp_X0_remember (RF o 5) p1 r_1 (mI M o 4) M (fun M_15 => wp_X4_putQuota r_1 p2 p3 M_15 (fun M_18 => Q r_11 M_18)))) (fun En => X En M)) (fun En => X En M))) (fun En => X En M)) (fun En => X En M))
set_option maxRecDepth 100000 in
set_option maxHeartbeats 4000000 in
theorem met_X5_setQuota {l : Launch} (hl : l.stackTraces = false) {E : MK} {o : Nat} {p1 : Int32} {p2 : Int32} {p3 : Int32} {M : MEM} {Q : Int32 → MEM → Prop} {X : String → MEM → Prop} (hw : wp_X5_setQuota o p1 p2 p3 M Q X) : gMet l E yX5_setQuota rmX5_setQuota [gR E o, .int p1, .int p2, .int p3] M (qI Q) (qE X) := by
  obtain ⟨hk0, hw⟩ := hw
  refine g_met hl (cc := cX5_setQuota) (maxL := 6) (ret := (some .int)) (hh := []) (loc := [(0, gR E o), (1, .int p1), (2, .int p2), (3, .int p3)]) (by decide +kernel) (Or.inl ⟨tw541, rfl⟩) (Nat.le_of_ble_eq_true rfl) rfl (fun K hK C => ?_)
  have C : GC K E cX5_setQuota RX5 6 (some .int) [] rmX5_setQuota := C
  refine g_aload_n C dX5_setQuota_0 0 rfl rfl ?_
  refine g_iload_n C dX5_setQuota_1 1 rfl rfl ?_
  refine g_cV C dX5_setQuota_2 (met_X5_slotAt C.st hw) (gc_X5_slotAt _ (Nat.le_of_ble_eq_true rfl) (Nat.le_of_ble_eq_true rfl)) tw315 tw317 twp3 (ci := 5) rfl (by decide) hk0 rfl (Nat.le_of_ble_eq_true rfl) (c2 := 1) (s2 := 6) rfl rfl (Nat.le_of_ble_eq_true rfl) (Nat.le_of_ble_eq_true rfl) rfl (kRp (fun r_1 hw => ?_)) (fun En M9 hx => g_out C (noTab _) (Nat.le_of_ble_eq_true rfl) (Nat.le_of_ble_eq_true rfl) (by obtain ⟨rfl, hx⟩ := hx; exact hx))
  refine g_astore C dX5_setQuota_5 (Nat.le_of_ble_eq_true rfl) (loc' := [(4, gR E r_1), (0, gR E o), (1, .int p1), (2, .int p2), (3, .int p3)]) rfl ?_
  refine g_iload_n C dX5_setQuota_7 3 rfl rfl ?_
  refine g_cS C dX5_setQuota_8 (met_X5_needStratum C.st hw) (gc_X5_needStratum _ (Nat.le_of_ble_eq_true rfl) (Nat.le_of_ble_eq_true rfl)) (Or.inl tw542) tw543 rfl (Nat.le_of_ble_eq_true rfl) (c2 := 2) (s2 := 12) rfl rfl (Nat.le_of_ble_eq_true rfl) (Nat.le_of_ble_eq_true rfl) rfl (kVp (fun hw => ?_)) (fun En M9 hx => g_out C (noTab _) (Nat.le_of_ble_eq_true rfl) (Nat.le_of_ble_eq_true rfl) (by obtain ⟨rfl, hx⟩ := hx; exact hx))
  refine g_iload_n C dX5_setQuota_11 4 rfl rfl ?_
  refine g_i2l C dX5_setQuota_12 ?_
  refine g_lconst C dX5_setQuota_13 (v := 0) rfl ?_
  refine g_ldc2 C dX5_setQuota_14 tw339 ?_
  refine g_cS C dX5_setQuota_17 (met_X5_isWithin C.st hw) (gc_X5_isWithin _ (Nat.le_of_ble_eq_true rfl) (Nat.le_of_ble_eq_true rfl)) (Or.inl tw336) tw337 rfl (Nat.le_of_ble_eq_true rfl) (c2 := 2) (s2 := 12) rfl rfl (Nat.le_of_ble_eq_true rfl) (Nat.le_of_ble_eq_true rfl) rfl (kIp (fun r_5 hw => ?_)) tNo
  refine g_cS C dX5_setQuota_20 (met_X5_needRange C.st hw) (gc_X5_needRange _ (Nat.le_of_ble_eq_true rfl) (Nat.le_of_ble_eq_true rfl)) (Or.inl tw341) tw342 rfl (Nat.le_of_ble_eq_true rfl) (c2 := 3) (s2 := 18) rfl rfl (Nat.le_of_ble_eq_true rfl) (Nat.le_of_ble_eq_true rfl) rfl (kVp (fun hw => ?_)) (fun En M9 hx => g_out C (noTab _) (Nat.le_of_ble_eq_true rfl) (Nat.le_of_ble_eq_true rfl) (by obtain ⟨rfl, hx⟩ := hx; exact hx))
  refine g_aload C (j := 0) dX5_setQuota_23 0 rfl ?_
  refine g_cS C dX5_setQuota_25 (met_X5_needFilled C.st hw) (gc_X5_needFilled _ (Nat.le_of_ble_eq_true rfl) (Nat.le_of_ble_eq_true rfl)) (Or.inl tw405) tw406 rfl (Nat.le_of_ble_eq_true rfl) (c2 := 4) (s2 := 24) rfl rfl (Nat.le_of_ble_eq_true rfl) (Nat.le_of_ble_eq_true rfl) rfl (kVp (fun hw => ?_)) (fun En M9 hx => g_out C (noTab _) (Nat.le_of_ble_eq_true rfl) (Nat.le_of_ble_eq_true rfl) (by obtain ⟨rfl, hx⟩ := hx; exact hx))
  refine g_aload C (j := 0) dX5_setQuota_28 0 rfl ?_
  refine g_iload_n C dX5_setQuota_30 3 rfl rfl ?_
  obtain ⟨hk_13, hw⟩ := hw
  refine g_cV C dX5_setQuota_31 (met_X4_quotaOf C.st hw) (gc_X4_quotaOf _ (Nat.le_of_ble_eq_true rfl) (Nat.le_of_ble_eq_true rfl)) tw546 tw519 tw520 (ci := 4) rfl (by decide) hk_13 rfl (Nat.le_of_ble_eq_true rfl) (c2 := 4) (s2 := 24) rfl rfl (Nat.le_of_ble_eq_true rfl) (Nat.le_of_ble_eq_true rfl) rfl (kIp (fun r_11 hw => ?_)) tNo
  refine g_istore C dX5_setQuota_34 (Nat.le_of_ble_eq_true rfl) (loc' := [(5, .int r_11), (4, gR E r_1), (0, gR E o), (1, .int p1), (2, .int p2), (3, .int p3)]) rfl ?_
  refine g_aload_n C dX5_setQuota_36 2 rfl rfl ?_
  refine gf_RX5_22 C hk0 dX5_setQuota_37 ?_
  refine g_iload_n C dX5_setQuota_40 3 rfl rfl ?_
  refine g_aload C (j := 0) dX5_setQuota_41 1 rfl ?_
  refine g_aload_n C dX5_setQuota_43 2 rfl rfl ?_
  refine gf_RX5_82 C hk0 dX5_setQuota_44 ?_
  obtain ⟨hk_16, hw⟩ := hw
  refine g_cV C dX5_setQuota_47 (met_X0_remember C.st hw) (gc_X0_remember _ (Nat.le_of_ble_eq_true rfl) (Nat.le_of_ble_eq_true rfl)) tw364 tw365 tw366 (ci := 0) rfl (by decide) hk_16 rfl (Nat.le_of_ble_eq_true rfl) (c2 := 4) (s2 := 24) rfl rfl (Nat.le_of_ble_eq_true rfl) (Nat.le_of_ble_eq_true rfl) rfl (kV (fun M_15 hw => ?_)) tNo
  refine g_aload C (j := 0) dX5_setQuota_50 1 rfl ?_
  refine g_iload_n C dX5_setQuota_52 4 rfl rfl ?_
  refine g_iload_n C dX5_setQuota_53 5 rfl rfl ?_
  refine g_cV C dX5_setQuota_54 (met_X4_putQuota C.st hw) (gc_X4_putQuota _ (Nat.le_of_ble_eq_true rfl) (Nat.le_of_ble_eq_true rfl)) tw547 tw548 tw549 (ci := 4) rfl (by decide) hk_13 rfl (Nat.le_of_ble_eq_true rfl) (c2 := 4) (s2 := 24) rfl rfl (Nat.le_of_ble_eq_true rfl) (Nat.le_of_ble_eq_true rfl) rfl (kV (fun M_18 hw => ?_)) tNo
  refine g_iload C (j := 0) dX5_setQuota_57 0 rfl ?_
  exact g_iret C dX5_setQuota_59 (Nat.le_of_ble_eq_true rfl) (Nat.le_of_ble_eq_true rfl) ⟨_, rfl, hw⟩
theorem gc_X5_setQuota : ∀ rm : Room, rmX5_setQuota.frames + 1 ≤ rm.frames → 8 + (6 + 11) + rmX5_setQuota.locals ≤ rm.locals → gCall yX5_setQuota 6 3 rmX5_setQuota rm := fun rm a b => ⟨Or.inl ⟨_, _, tw541⟩, tw1, ⟨by decide, by decide⟩, by decide, a, b⟩
abbrev rmX5_findAmounts : Room := { frames := 1, cells := 0, slots := 0, locals := 22 }
def wp_X5_findAmounts_L22 (o : Nat) (p1 : Nat) (p2 : Int32) (K5 : Int32 → Int32 → MEM → Prop) (x3_1 : Int32) (x4_2 : Int32) : Nat → Int32 → MEM → Prop
  | 0, _, _ => False
  | n22 + 1, x5_7, M_8 => KD p1 = (14, 0) ∧ wp_X4_count p1 M_8 (fun r_9 => (r_9 ≤ x5_7 → (vp_in x4_2 4 ∧ (∀ x3_13 : Int32, x3_13 = x3_1 + (mI M_8 (RF o 12) x4_2.toNatClampNeg) → (∀ x4_14 : Int32, x4_14 = x4_2 + 1 → (K5 x3_13 x4_14 M_8))))) ∧ (¬ r_9 ≤ x5_7 → (wp_X4_partAt p1 x5_7 2 M_8 (fun r_15 => (¬ r_15 = x4_2 → (∀ x5_17 : Int32, x5_17 = x5_7 + 1 → ((wp_X5_findAmounts_L22 o p1 p2 K5 x3_1 x4_2 n22) x5_17 M_8))) ∧ (r_15 = x4_2 → (vp_in x4_2 4 ∧ ((p2 = 0 → ((vp_in x4_2 4 ∧ (∀ M_20 : MEM, M_20 = uI M_8 (RF o 12) x4_2.toNatClampNeg ((mI M_8 (RF o 12) x4_2.toNatClampNeg) + 1) → (∀ x5_21 : Int32, x5_21 = x5_7 + 1 → ((wp_X5_findAmounts_L22 o p1 p2 K5 x3_1 x4_2 n22) x5_21 M_20)))))) ∧ (¬ p2 = 0 → (wp_X4_partAt p1 x5_7 3 M_8 (fun r_22 => (vp_in x4_2 4 ∧ (∀ M_25 : MEM, M_25 = uI M_8 (RF o 12) x4_2.toNatClampNeg ((mI M_8 (RF o 12) x4_2.toNatClampNeg) + r_22) → (∀ x5_26 : Int32, x5_26 = x5_7 + 1 → ((wp_X5_findAmounts_L22 o p1 p2 K5 x3_1 x4_2 n22) x5_26 M_25))))))))))))))
def wp_X5_findAmounts_L5 (o : Nat) (p1 : Nat) (p2 : Int32) (Q : Int32 → MEM → Prop) : Nat → Int32 → Int32 → MEM → Prop
  | 0, _, _, _ => False
  | n5 + 1, x3_1, x4_2, M_3 => (4 ≤ x4_2 → (Q x3_1 M_3)) ∧ (¬ 4 ≤ x4_2 → ((KD (RF o 12) = (0, 4) ∧ (vp_in x4_2 4 ∧ (∀ M_6 : MEM, M_6 = uI M_3 (RF o 12) x4_2.toNatClampNeg 0 → (∃ m22 : Nat, wp_X5_findAmounts_L22 o p1 p2 (wp_X5_findAmounts_L5 o p1 p2 Q n5) x3_1 x4_2 m22 0 M_6))))))
def wp_X5_findAmounts (o : Nat) (p1 : Nat) (p2 : Int32) (M : MEM) (Q : Int32 → MEM → Prop) : Prop := KD o = (15, 0) ∧ (∃ m5 : Nat, wp_X5_findAmounts_L5 o p1 p2 Q m5 0 0 M)
set_option maxRecDepth 100000 in
set_option maxHeartbeats 4000000 in
theorem met_X5_findAmounts {l : Launch} (hl : l.stackTraces = false) {E : MK} {o : Nat} {p1 : Nat} {p2 : Int32} {M : MEM} {Q : Int32 → MEM → Prop} (hw : wp_X5_findAmounts o p1 p2 M Q) : gMet l E yX5_findAmounts rmX5_findAmounts [gR E o, gR E p1, .int p2] M (qI Q) gNo := by
  obtain ⟨hk0, hw⟩ := hw
  refine g_met hl (cc := cX5_findAmounts) (maxL := 6) (ret := (some .int)) (hh := []) (loc := [(0, gR E o), (1, gR E p1), (2, .int p2)]) (by decide +kernel) (Or.inl ⟨tw575, rfl⟩) (Nat.le_of_ble_eq_true rfl) rfl (fun K hK C => ?_)
  have C : GC K E cX5_findAmounts RX5 6 (some .int) [] rmX5_findAmounts := C
  refine g_iconst C dX5_findAmounts_0 (v := 0) rfl ?_
  refine g_istore_n C dX5_findAmounts_1 rfl (Nat.le_of_ble_eq_true rfl) (loc' := [(3, .int 0), (0, gR E o), (1, gR E p1), (2, .int p2)]) rfl ?_
  refine g_iconst C dX5_findAmounts_2 (v := 0) rfl ?_
  refine g_istore C dX5_findAmounts_3 (Nat.le_of_ble_eq_true rfl) (loc' := [(4, .int 0), (3, .int 0), (0, gR E o), (1, gR E p1), (2, .int p2)]) rfl ?_
  obtain ⟨m5, hw⟩ := hw
  have hL5 : ∀ (n5 : Nat) (x3_1 : Int32) (x4_2 : Int32) (M_3 : MEM), wp_X5_findAmounts_L5 o p1 p2 Q n5 x3_1 x4_2 M_3 → GX K E 6 M_3 [(0, gR E o), (1, gR E p1), (2, .int p2), (3, .int x3_1), (4, .int x4_2)] [] 5 0 0 (gEnd K E (qI Q) gNo rmX5_findAmounts.cells rmX5_findAmounts.slots) := by
    intro n5
    induction n5 with
    | zero => intro _ _ _ hw; exact False.elim hw
    | succ n5 ih5 =>
      intro x3_1 x4_2 M_3 hw
      refine g_iload C (j := 0) dX5_findAmounts_5 4 rfl ?_
      refine g_iconst C dX5_findAmounts_7 (v := 4) rfl ?_
      refine g_icmp_ge C dX5_findAmounts_8 (tgt := 90) (by decide) (fun c8 => ?_) (fun c8 => ?_)
      · have hw := hw.1 c8
        refine g_iload_n C dX5_findAmounts_90 3 rfl rfl ?_
        exact g_iret C dX5_findAmounts_91 (Nat.le_of_ble_eq_true rfl) (Nat.le_of_ble_eq_true rfl) ⟨_, rfl, hw⟩
      · have hw := hw.2 c8
        refine g_aload_n C dX5_findAmounts_11 0 rfl rfl ?_
        refine gf_RX5_59 C hk0 dX5_findAmounts_12 ?_
        refine g_iload C (j := 0) dX5_findAmounts_15 4 rfl ?_
        refine g_iconst C dX5_findAmounts_17 (v := 0) rfl ?_
        obtain ⟨hk_4, hw⟩ := hw
        obtain ⟨hi_5, hw⟩ := hw
        refine g_iastore C hk_4 hi_5 dX5_findAmounts_18 ?_
        refine g_nmM (fun M_6 eM_6 => ?_)
        have hw := hw M_6 eM_6
        refine g_iconst C dX5_findAmounts_19 (v := 0) rfl ?_
        refine g_istore C dX5_findAmounts_20 (Nat.le_of_ble_eq_true rfl) (loc' := [(5, .int 0), (0, gR E o), (1, gR E p1), (2, .int p2), (3, .int x3_1), (4, .int x4_2)]) rfl ?_
        obtain ⟨m22, hw⟩ := hw
        have hL22 : ∀ (n22 : Nat) (x5_7 : Int32) (M_8 : MEM), wp_X5_findAmounts_L22 o p1 p2 (wp_X5_findAmounts_L5 o p1 p2 Q n5) x3_1 x4_2 n22 x5_7 M_8 → GX K E 6 M_8 [(0, gR E o), (1, gR E p1), (2, .int p2), (3, .int x3_1), (4, .int x4_2), (5, .int x5_7)] [] 22 0 0 (gEnd K E (qI Q) gNo rmX5_findAmounts.cells rmX5_findAmounts.slots) := by
          intro n22
          induction n22 with
          | zero => intro _ _ hw; exact False.elim hw
          | succ n22 ih22 =>
            intro x5_7 M_8 hw
            refine g_iload C (j := 0) dX5_findAmounts_22 5 rfl ?_
            refine g_aload_n C dX5_findAmounts_24 1 rfl rfl ?_
            obtain ⟨hk_11, hw⟩ := hw
            refine g_cV C dX5_findAmounts_25 (met_X4_count C.st hw) (gc_X4_count _ (Nat.le_of_ble_eq_true rfl) (Nat.le_of_ble_eq_true rfl)) tw360 tw361 tw362 (ci := 4) rfl (by decide) hk_11 rfl (Nat.le_of_ble_eq_true rfl) (c2 := 0) (s2 := 0) rfl rfl (Nat.le_of_ble_eq_true rfl) (Nat.le_of_ble_eq_true rfl) rfl (kIp (fun r_9 hw => ?_)) tNo
            refine g_icmp_ge C dX5_findAmounts_28 (tgt := 74) (by decide) (fun c28 => ?_) (fun c28 => ?_)
            · have hw := hw.1 c28
              refine g_iload_n C dX5_findAmounts_74 3 rfl rfl ?_
              refine g_aload_n C dX5_findAmounts_75 0 rfl rfl ?_
              refine gf_RX5_59 C hk0 dX5_findAmounts_76 ?_
              refine g_iload C (j := 0) dX5_findAmounts_79 4 rfl ?_
              obtain ⟨hi_12, hw⟩ := hw
              refine g_iaload C hk_4 hi_12 dX5_findAmounts_81 ?_
              refine g_iadd C dX5_findAmounts_82 ?_
              refine g_nmI (fun x3_13 ex3_13 => ?_)
              have hw := hw x3_13 ex3_13
              refine g_istore_n C dX5_findAmounts_83 rfl (Nat.le_of_ble_eq_true rfl) (loc' := [(3, .int x3_13), (0, gR E o), (1, gR E p1), (2, .int p2), (4, .int x4_2), (5, .int x5_7)]) rfl ?_
              obtain ⟨x4_14, ex4_14⟩ : ∃ y : Int32, y = x4_2 + 1 := ⟨_, rfl⟩
              have hw := hw x4_14 ex4_14
              refine g_iinc C (j := 0) dX5_findAmounts_84 4 rfl (v := x4_14) (by rw [ex4_14]; rfl) (Nat.le_of_ble_eq_true rfl) (loc' := [(4, .int x4_14), (3, .int x3_13), (0, gR E o), (1, gR E p1), (2, .int p2), (5, .int x5_7)]) rfl ?_
              refine g_goto C dX5_findAmounts_87 (tgt := 5) (by decide) ?_
              refine g_sub [2, 3, 4, 1, 0] rfl ?_
              exact ih5 _ _ _ hw
            · have hw := hw.2 c28
              refine g_aload_n C dX5_findAmounts_31 1 rfl rfl ?_
              refine g_iload C (j := 0) dX5_findAmounts_32 5 rfl ?_
              refine g_iconst C dX5_findAmounts_34 (v := 2) rfl ?_
              refine g_cV C dX5_findAmounts_35 (met_X4_partAt C.st hw) (gc_X4_partAt _ (Nat.le_of_ble_eq_true rfl) (Nat.le_of_ble_eq_true rfl)) tw576 tw475 tw476 (ci := 4) rfl (by decide) hk_11 rfl (Nat.le_of_ble_eq_true rfl) (c2 := 0) (s2 := 0) rfl rfl (Nat.le_of_ble_eq_true rfl) (Nat.le_of_ble_eq_true rfl) rfl (kIp (fun r_15 hw => ?_)) tNo
              refine g_iload C (j := 0) dX5_findAmounts_38 4 rfl ?_
              refine g_icmp_ne C dX5_findAmounts_40 (tgt := 68) (by decide) (fun c40 => ?_) (fun c40 => ?_)
              · have hw := hw.1 c40
                obtain ⟨x5_17, ex5_17⟩ : ∃ y : Int32, y = x5_7 + 1 := ⟨_, rfl⟩
                have hw := hw x5_17 ex5_17
                refine g_iinc C (j := 0) dX5_findAmounts_68 5 rfl (v := x5_17) (by rw [ex5_17]; rfl) (Nat.le_of_ble_eq_true rfl) (loc' := [(5, .int x5_17), (0, gR E o), (1, gR E p1), (2, .int p2), (3, .int x3_1), (4, .int x4_2)]) rfl ?_
                refine g_goto C dX5_findAmounts_71 (tgt := 22) (by decide) ?_
                refine g_sub [1, 2, 3, 4, 5, 0] rfl ?_
                exact ih22 _ _ hw
              · have hw := hw.2 c40
                refine g_aload_n C dX5_findAmounts_43 0 rfl rfl ?_
                refine gf_RX5_59 C hk0 dX5_findAmounts_44 ?_
                refine g_iload C (j := 0) dX5_findAmounts_47 4 rfl ?_
                refine g_dup2 C dX5_findAmounts_49 rfl rfl ?_
                obtain ⟨hi_18, hw⟩ := hw
                refine g_iaload C hk_4 hi_18 dX5_findAmounts_50 ?_
                refine g_iload_n C dX5_findAmounts_51 2 rfl rfl ?_
                refine g_if_eq C dX5_findAmounts_52 (tgt := 65) (by decide) (fun c52 => ?_) (fun c52 => ?_)
                · have hw := hw.1 c52
                  refine g_iconst C dX5_findAmounts_65 (v := 1) rfl ?_
                  refine g_iadd C dX5_findAmounts_66 ?_
                  obtain ⟨hi_19, hw⟩ := hw
                  refine g_iastore C hk_4 hi_19 dX5_findAmounts_67 ?_
                  refine g_nmM (fun M_20 eM_20 => ?_)
                  have hw := hw M_20 eM_20
                  obtain ⟨x5_21, ex5_21⟩ : ∃ y : Int32, y = x5_7 + 1 := ⟨_, rfl⟩
                  have hw := hw x5_21 ex5_21
                  refine g_iinc C (j := 0) dX5_findAmounts_68 5 rfl (v := x5_21) (by rw [ex5_21]; rfl) (Nat.le_of_ble_eq_true rfl) (loc' := [(5, .int x5_21), (0, gR E o), (1, gR E p1), (2, .int p2), (3, .int x3_1), (4, .int x4_2)]) rfl ?_
                  refine g_goto C dX5_findAmounts_71 (tgt := 22) (by decide) ?_
                  refine g_sub [1, 2, 3, 4, 5, 0] rfl ?_
                  exact ih22 _ _ hw
                · have hw := hw.2 c52
                  refine g_aload_n C dX5_findAmounts_55 1 rfl rfl ?_
                  refine g_iload C (j := 0) dX5_findAmounts_56 5 rfl ?_
                  refine g_iconst C dX5_findAmounts_58 (v := 3) rfl ?_
                  refine g_cV C dX5_findAmounts_59 (met_X4_partAt C.st hw) (gc_X4_partAt _ (Nat.le_of_ble_eq_true rfl) (Nat.le_of_ble_eq_true rfl)) tw576 tw475 tw476 (ci := 4) rfl (by decide) hk_11 rfl (Nat.le_of_ble_eq_true rfl) (c2 := 0) (s2 := 0) rfl rfl (Nat.le_of_ble_eq_true rfl) (Nat.le_of_ble_eq_true rfl) rfl (kIp (fun r_22 hw => ?_)) tNo
                  refine g_goto C dX5_findAmounts_62 (tgt := 66) (by decide) ?_
                  refine g_iadd C dX5_findAmounts_66 ?_
                  obtain ⟨hi_24, hw⟩ := hw
                  refine g_iastore C hk_4 hi_24 dX5_findAmounts_67 ?_
                  refine g_nmM (fun M_25 eM_25 => ?_)
                  have hw := hw M_25 eM_25
                  obtain ⟨x5_26, ex5_26⟩ : ∃ y : Int32, y = x5_7 + 1 := ⟨_, rfl⟩
                  have hw := hw x5_26 ex5_26
                  refine g_iinc C (j := 0) dX5_findAmounts_68 5 rfl (v := x5_26) (by rw [ex5_26]; rfl) (Nat.le_of_ble_eq_true rfl) (loc' := [(5, .int x5_26), (0, gR E o), (1, gR E p1), (2, .int p2), (3, .int x3_1), (4, .int x4_2)]) rfl ?_
                  refine g_goto C dX5_findAmounts_71 (tgt := 22) (by decide) ?_
                  refine g_sub [1, 2, 3, 4, 5, 0] rfl ?_
                  exact ih22 _ _ hw
        refine g_sub [1, 2, 3, 4, 5, 0] rfl ?_
        exact hL22 m22 _ _ hw
  refine g_sub [2, 3, 4, 1, 0] rfl ?_
  exact hL5 m5 _ _ _ hw
theorem gc_X5_findAmounts : ∀ rm : Room, rmX5_findAmounts.frames + 1 ≤ rm.frames → 8 + (6 + 11) + rmX5_findAmounts.locals ≤ rm.locals → gCall yX5_findAmounts 6 2 rmX5_findAmounts rm := fun rm a b => ⟨Or.inl ⟨_, _, tw575⟩, tw1, ⟨by decide, by decide⟩, by decide, a, b⟩
abbrev rmX5_takeGreatestRemainder : Room := { frames := 0, cells := 0, slots := 0, locals := 0 }
def wp_X5_takeGreatestRemainder_L4 (o : Nat) (M : MEM) (Q : Int32 → MEM → Prop) : Nat → Int32 → Int32 → Prop
  | 0, _, _ => False
  | n4 + 1, x1_1, x2_2 => (4 ≤ x2_2 → ((KD (RF o 13) = (0, 4) ∧ (vp_in x1_1 4 ∧ (∀ M_5 : MEM, M_5 = uI M (RF o 13) x1_1.toNatClampNeg (-1) → (Q x1_1 M_5)))))) ∧ (¬ 4 ≤ x2_2 → (KD (RF o 13) = (0, 4) ∧ vp_in x2_2 4 ∧ (vp_in x1_1 4 ∧ (((mI M (RF o 13) x2_2.toNatClampNeg) ≤ (mI M (RF o 13) x1_1.toNatClampNeg) → (∀ x2_9 : Int32, x2_9 = x2_2 + 1 → ((wp_X5_takeGreatestRemainder_L4 o M Q n4) x1_1 x2_9))) ∧ (¬ (mI M (RF o 13) x2_2.toNatClampNeg) ≤ (mI M (RF o 13) x1_1.toNatClampNeg) → (∀ x2_10 : Int32, x2_10 = x2_2 + 1 → ((wp_X5_takeGreatestRemainder_L4 o M Q n4) x2_2 x2_10)))))))
def wp_X5_takeGreatestRemainder (o : Nat) (M : MEM) (Q : Int32 → MEM → Prop) : Prop := KD o = (15, 0) ∧ (∃ m4 : Nat, wp_X5_takeGreatestRemainder_L4 o M Q m4 0 1)
set_option maxRecDepth 100000 in
set_option maxHeartbeats 4000000 in
theorem met_X5_takeGreatestRemainder {l : Launch} (hl : l.stackTraces = false) {E : MK} {o : Nat} {M : MEM} {Q : Int32 → MEM → Prop} (hw : wp_X5_takeGreatestRemainder o M Q) : gMet l E yX5_takeGreatestRemainder rmX5_takeGreatestRemainder [gR E o] M (qI Q) gNo := by
  obtain ⟨hk0, hw⟩ := hw
  refine g_met hl (cc := cX5_takeGreatestRemainder) (maxL := 3) (ret := (some .int)) (hh := []) (loc := [(0, gR E o)]) (by decide +kernel) (Or.inl ⟨tw583, rfl⟩) (Nat.le_of_ble_eq_true rfl) rfl (fun K hK C => ?_)
  have C : GC K E cX5_takeGreatestRemainder RX5 3 (some .int) [] rmX5_takeGreatestRemainder := C
  refine g_iconst C dX5_takeGreatestRemainder_0 (v := 0) rfl ?_
  refine g_istore_n C dX5_takeGreatestRemainder_1 rfl (Nat.le_of_ble_eq_true rfl) (loc' := [(1, .int 0), (0, gR E o)]) rfl ?_
  refine g_iconst C dX5_takeGreatestRemainder_2 (v := 1) rfl ?_
  refine g_istore_n C dX5_takeGreatestRemainder_3 rfl (Nat.le_of_ble_eq_true rfl) (loc' := [(2, .int 1), (1, .int 0), (0, gR E o)]) rfl ?_
  obtain ⟨m4, hw⟩ := hw
  have hL4 : ∀ (n4 : Nat) (x1_1 : Int32) (x2_2 : Int32), wp_X5_takeGreatestRemainder_L4 o M Q n4 x1_1 x2_2 → GX K E 3 M [(0, gR E o), (1, .int x1_1), (2, .int x2_2)] [] 4 0 0 (gEnd K E (qI Q) gNo rmX5_takeGreatestRemainder.cells rmX5_takeGreatestRemainder.slots) := by
    intro n4
    induction n4 with
    | zero => intro _ _ hw; exact False.elim hw
    | succ n4 ih4 =>
      intro x1_1 x2_2 hw
      refine g_iload_n C dX5_takeGreatestRemainder_4 2 rfl rfl ?_
      refine g_iconst C dX5_takeGreatestRemainder_5 (v := 4) rfl ?_
      refine g_icmp_ge C dX5_takeGreatestRemainder_6 (tgt := 32) (by decide) (fun c6 => ?_) (fun c6 => ?_)
      · have hw := hw.1 c6
        refine g_aload_n C dX5_takeGreatestRemainder_32 0 rfl rfl ?_
        refine gf_RX5_63 C hk0 dX5_takeGreatestRemainder_33 ?_
        refine g_iload_n C dX5_takeGreatestRemainder_36 1 rfl rfl ?_
        refine g_iconst C dX5_takeGreatestRemainder_37 (v := (-1)) rfl ?_
        obtain ⟨hk_3, hw⟩ := hw
        obtain ⟨hi_4, hw⟩ := hw
        refine g_iastore C hk_3 hi_4 dX5_takeGreatestRemainder_38 ?_
        refine g_nmM (fun M_5 eM_5 => ?_)
        have hw := hw M_5 eM_5
        refine g_iload_n C dX5_takeGreatestRemainder_39 1 rfl rfl ?_
        exact g_iret C dX5_takeGreatestRemainder_40 (Nat.le_of_ble_eq_true rfl) (Nat.le_of_ble_eq_true rfl) ⟨_, rfl, hw⟩
      · have hw := hw.2 c6
        refine g_aload_n C dX5_takeGreatestRemainder_9 0 rfl rfl ?_
        refine gf_RX5_63 C hk0 dX5_takeGreatestRemainder_10 ?_
        refine g_iload_n C dX5_takeGreatestRemainder_13 2 rfl rfl ?_
        obtain ⟨hk_6, hw⟩ := hw
        obtain ⟨hi_7, hw⟩ := hw
        refine g_iaload C hk_6 hi_7 dX5_takeGreatestRemainder_14 ?_
        refine g_aload_n C dX5_takeGreatestRemainder_15 0 rfl rfl ?_
        refine gf_RX5_63 C hk0 dX5_takeGreatestRemainder_16 ?_
        refine g_iload_n C dX5_takeGreatestRemainder_19 1 rfl rfl ?_
        obtain ⟨hi_8, hw⟩ := hw
        refine g_iaload C hk_6 hi_8 dX5_takeGreatestRemainder_20 ?_
        refine g_icmp_le C dX5_takeGreatestRemainder_21 (tgt := 26) (by decide) (fun c21 => ?_) (fun c21 => ?_)
        · have hw := hw.1 c21
          obtain ⟨x2_9, ex2_9⟩ : ∃ y : Int32, y = x2_2 + 1 := ⟨_, rfl⟩
          have hw := hw x2_9 ex2_9
          refine g_iinc C (j := 0) dX5_takeGreatestRemainder_26 2 rfl (v := x2_9) (by rw [ex2_9]; rfl) (Nat.le_of_ble_eq_true rfl) (loc' := [(2, .int x2_9), (0, gR E o), (1, .int x1_1)]) rfl ?_
          refine g_goto C dX5_takeGreatestRemainder_29 (tgt := 4) (by decide) ?_
          refine g_sub [1, 2, 0] rfl ?_
          exact ih4 _ _ hw
        · have hw := hw.2 c21
          refine g_iload_n C dX5_takeGreatestRemainder_24 2 rfl rfl ?_
          refine g_istore_n C dX5_takeGreatestRemainder_25 rfl (Nat.le_of_ble_eq_true rfl) (loc' := [(1, .int x2_2), (0, gR E o), (2, .int x2_2)]) rfl ?_
          obtain ⟨x2_10, ex2_10⟩ : ∃ y : Int32, y = x2_2 + 1 := ⟨_, rfl⟩
          have hw := hw x2_10 ex2_10
          refine g_iinc C (j := 0) dX5_takeGreatestRemainder_26 2 rfl (v := x2_10) (by rw [ex2_10]; rfl) (Nat.le_of_ble_eq_true rfl) (loc' := [(2, .int x2_10), (1, .int x2_2), (0, gR E o)]) rfl ?_
          refine g_goto C dX5_takeGreatestRemainder_29 (tgt := 4) (by decide) ?_
          refine g_sub [2, 1, 0] rfl ?_
          exact ih4 _ _ hw
  refine g_sub [2, 1, 0] rfl ?_
  exact hL4 m4 _ _ hw
theorem gc_X5_takeGreatestRemainder : ∀ rm : Room, rmX5_takeGreatestRemainder.frames + 1 ≤ rm.frames → 8 + (3 + 11) + rmX5_takeGreatestRemainder.locals ≤ rm.locals → gCall yX5_takeGreatestRemainder 3 0 rmX5_takeGreatestRemainder rm := fun rm a b => ⟨Or.inl ⟨_, _, tw583⟩, tw1, ⟨by decide, by decide⟩, by decide, a, b⟩
abbrev rmX5_allocate : Room := { frames := 7, cells := 4, slots := 24, locals := 103 }
def wp_X5_allocate_L128 (o : Nat) (Q : Int32 → MEM → Prop) (r_1 : Nat) (x6_14 : Int32) : Nat → Int32 → MEM → Prop
  | 0, _, _ => False
  | n128 + 1, x7_17, M_18 => (x6_14 ≤ x7_17 → (KD r_1 = (14, 0) ∧ wp_X4_quotaOf r_1 0 M_18 (fun r_19 => Q r_19 M_18))) ∧ (¬ x6_14 ≤ x7_17 → (wp_X5_takeGreatestRemainder o M_18 (fun r_22 M_23 => KD r_1 = (14, 0) ∧ wp_X4_quotaOf r_1 r_22 M_23 (fun r_24 => wp_X4_putQuota r_1 r_22 (r_24 + 1) M_23 (fun M_28 => ∀ x7_29 : Int32, x7_29 = x7_17 + 1 → ((wp_X5_allocate_L128 o Q r_1 x6_14 n128) x7_29 M_28))))))
def wp_X5_allocate_L68 (o : Nat) (p2 : Int32) (Q : Int32 → MEM → Prop) (r_1 : Nat) (r_9 : Int32) : Nat → Int32 → Int32 → MEM → Prop
  | 0, _, _, _ => False
  | n68 + 1, x6_14, x7_15, M_16 => (4 ≤ x7_15 → (∃ m128 : Nat, wp_X5_allocate_L128 o Q r_1 x6_14 m128 0 M_16)) ∧ (¬ 4 ≤ x7_15 → (KD (RF o 12) = (0, 4) ∧ vp_in x7_15 4 ∧ (∀ x8_32 : Int32, x8_32 = p2 * (mI M_16 (RF o 12) x7_15.toNatClampNeg) → (¬ r_9 = 0 ∧ (KD r_1 = (14, 0) ∧ wp_X4_putQuota r_1 x7_15 (x8_32 / r_9) M_16 (fun M_35 => ¬ r_9 = 0 ∧ ((KD (RF o 13) = (0, 4) ∧ (vp_in x7_15 4 ∧ (∀ M_40 : MEM, M_40 = uI M_35 (RF o 13) x7_15.toNatClampNeg (x8_32 - x8_32 / r_9 * r_9) → (¬ r_9 = 0 ∧ (∀ x6_42 : Int32, x6_42 = x6_14 - (x8_32 / r_9) → (∀ x7_43 : Int32, x7_43 = x7_15 + 1 → ((wp_X5_allocate_L68 o p2 Q r_1 r_9 n68) x6_42 x7_43 M_40))))))))))))))
def wp_X5_allocate (o : Nat) (p1 : Int32) (p2 : Int32) (p3 : Int32) (M : MEM) (Q : Int32 → MEM → Prop) (X : String → MEM → Prop) : Prop := KD o = (15, 0) ∧ (wp_X5_slotAt o p1 M (fun r_1 => wp_X5_isWithin p2.toInt64 0 12 M (fun r_3 => wp_X5_needRange r_3 M (wp_X5_needFilled r_1 M (wp_X5_findAmounts o r_1 p3 M (fun r_9 M_10 => (0 < r_9 → (KD (RF o 5) = (10, 0) ∧ wp_X0_remember (RF o 5) p1 r_1 (mI M_10 o 4) M_10 (fun M_12 => ∃ m68 : Nat, wp_X5_allocate_L68 o p2 Q r_1 r_9 m68 p2 0 M_12))) ∧ (¬ 0 < r_9 → (X "java/lang/ArithmeticException" M_10)))) (fun En => X En M)) (fun En => X En M))) (fun En => X En M))
set_option maxRecDepth 100000 in
set_option maxHeartbeats 4000000 in
theorem met_X5_allocate {l : Launch} (hl : l.stackTraces = false) {E : MK} {o : Nat} {p1 : Int32} {p2 : Int32} {p3 : Int32} {M : MEM} {Q : Int32 → MEM → Prop} {X : String → MEM → Prop} (hw : wp_X5_allocate o p1 p2 p3 M Q X) : gMet l E yX5_allocate rmX5_allocate [gR E o, .int p1, .int p2, .int p3] M (qI Q) (qE X) := by
  obtain ⟨hk0, hw⟩ := hw
  refine g_met hl (cc := cX5_allocate) (maxL := 9) (ret := (some .int)) (hh := []) (loc := [(0, gR E o), (1, .int p1), (2, .int p2), (3, .int p3)]) (by decide +kernel) (Or.inl ⟨tw571, rfl⟩) (Nat.le_of_ble_eq_true rfl) rfl (fun K hK C => ?_)
  have C : GC K E cX5_allocate RX5 9 (some .int) [] rmX5_allocate := C
  refine g_aload_n C dX5_allocate_0 0 rfl rfl ?_
  refine g_iload_n C dX5_allocate_1 1 rfl rfl ?_
  refine g_cV C dX5_allocate_2 (met_X5_slotAt C.st hw) (gc_X5_slotAt _ (Nat.le_of_ble_eq_true rfl) (Nat.le_of_ble_eq_true rfl)) tw315 tw317 twp3 (ci := 5) rfl (by decide) hk0 rfl (Nat.le_of_ble_eq_true rfl) (c2 := 1) (s2 := 6) rfl rfl (Nat.le_of_ble_eq_true rfl) (Nat.le_of_ble_eq_true rfl) rfl (kRp (fun r_1 hw => ?_)) (fun En M9 hx => g_out C (noTab _) (Nat.le_of_ble_eq_true rfl) (Nat.le_of_ble_eq_true rfl) (by obtain ⟨rfl, hx⟩ := hx; exact hx))
  refine g_astore C dX5_allocate_5 (Nat.le_of_ble_eq_true rfl) (loc' := [(4, gR E r_1), (0, gR E o), (1, .int p1), (2, .int p2), (3, .int p3)]) rfl ?_
  refine g_iload_n C dX5_allocate_7 3 rfl rfl ?_
  refine g_i2l C dX5_allocate_8 ?_
  refine g_lconst C dX5_allocate_9 (v := 0) rfl ?_
  refine g_ldc2 C dX5_allocate_10 tw339 ?_
  refine g_cS C dX5_allocate_13 (met_X5_isWithin C.st hw) (gc_X5_isWithin _ (Nat.le_of_ble_eq_true rfl) (Nat.le_of_ble_eq_true rfl)) (Or.inl tw336) tw337 rfl (Nat.le_of_ble_eq_true rfl) (c2 := 1) (s2 := 6) rfl rfl (Nat.le_of_ble_eq_true rfl) (Nat.le_of_ble_eq_true rfl) rfl (kIp (fun r_3 hw => ?_)) tNo
  refine g_cS C dX5_allocate_16 (met_X5_needRange C.st hw) (gc_X5_needRange _ (Nat.le_of_ble_eq_true rfl) (Nat.le_of_ble_eq_true rfl)) (Or.inl tw341) tw342 rfl (Nat.le_of_ble_eq_true rfl) (c2 := 2) (s2 := 12) rfl rfl (Nat.le_of_ble_eq_true rfl) (Nat.le_of_ble_eq_true rfl) rfl (kVp (fun hw => ?_)) (fun En M9 hx => g_out C (noTab _) (Nat.le_of_ble_eq_true rfl) (Nat.le_of_ble_eq_true rfl) (by obtain ⟨rfl, hx⟩ := hx; exact hx))
  refine g_aload C (j := 0) dX5_allocate_19 0 rfl ?_
  refine g_cS C dX5_allocate_21 (met_X5_needFilled C.st hw) (gc_X5_needFilled _ (Nat.le_of_ble_eq_true rfl) (Nat.le_of_ble_eq_true rfl)) (Or.inl tw405) tw406 rfl (Nat.le_of_ble_eq_true rfl) (c2 := 3) (s2 := 18) rfl rfl (Nat.le_of_ble_eq_true rfl) (Nat.le_of_ble_eq_true rfl) rfl (kVp (fun hw => ?_)) (fun En M9 hx => g_out C (noTab _) (Nat.le_of_ble_eq_true rfl) (Nat.le_of_ble_eq_true rfl) (by obtain ⟨rfl, hx⟩ := hx; exact hx))
  refine g_aload_n C dX5_allocate_24 1 rfl rfl ?_
  refine g_aload C (j := 0) dX5_allocate_25 0 rfl ?_
  refine g_iload_n C dX5_allocate_27 4 rfl rfl ?_
  refine g_cV C dX5_allocate_28 (met_X5_findAmounts C.st hw) (gc_X5_findAmounts _ (Nat.le_of_ble_eq_true rfl) (Nat.le_of_ble_eq_true rfl)) tw572 tw574 twp13 (ci := 5) rfl (by decide) hk0 rfl (Nat.le_of_ble_eq_true rfl) (c2 := 3) (s2 := 18) rfl rfl (Nat.le_of_ble_eq_true rfl) (Nat.le_of_ble_eq_true rfl) rfl (kI (fun r_9 M_10 hw => ?_)) tNo
  refine g_istore C dX5_allocate_31 (Nat.le_of_ble_eq_true rfl) (loc' := [(5, .int r_9), (4, gR E r_1), (0, gR E o), (1, .int p1), (2, .int p2), (3, .int p3)]) rfl ?_
  refine g_iload C (j := 0) dX5_allocate_33 0 rfl ?_
  refine g_if_gt C dX5_allocate_35 (tgt := 48) (by decide) (fun c35 => ?_) (fun c35 => ?_)
  · have hw := hw.1 c35
    refine g_aload_n C dX5_allocate_48 2 rfl rfl ?_
    refine gf_RX5_22 C hk0 dX5_allocate_49 ?_
    refine g_iload_n C dX5_allocate_52 3 rfl rfl ?_
    refine g_aload C (j := 0) dX5_allocate_53 1 rfl ?_
    refine g_aload_n C dX5_allocate_55 2 rfl rfl ?_
    refine gf_RX5_82 C hk0 dX5_allocate_56 ?_
    obtain ⟨hk_13, hw⟩ := hw
    refine g_cV C dX5_allocate_59 (met_X0_remember C.st hw) (gc_X0_remember _ (Nat.le_of_ble_eq_true rfl) (Nat.le_of_ble_eq_true rfl)) tw364 tw365 tw366 (ci := 0) rfl (by decide) hk_13 rfl (Nat.le_of_ble_eq_true rfl) (c2 := 3) (s2 := 18) rfl rfl (Nat.le_of_ble_eq_true rfl) (Nat.le_of_ble_eq_true rfl) rfl (kV (fun M_12 hw => ?_)) tNo
    refine g_iload_n C dX5_allocate_62 4 rfl rfl ?_
    refine g_istore C dX5_allocate_63 (Nat.le_of_ble_eq_true rfl) (loc' := [(6, .int p2), (5, .int r_9), (4, gR E r_1), (0, gR E o), (1, .int p1), (2, .int p2), (3, .int p3)]) rfl ?_
    refine g_iconst C dX5_allocate_65 (v := 0) rfl ?_
    refine g_istore C dX5_allocate_66 (Nat.le_of_ble_eq_true rfl) (loc' := [(7, .int 0), (6, .int p2), (5, .int r_9), (4, gR E r_1), (0, gR E o), (1, .int p1), (2, .int p2), (3, .int p3)]) rfl ?_
    obtain ⟨m68, hw⟩ := hw
    have hL68 : ∀ (n68 : Nat) (x6_14 : Int32) (x7_15 : Int32) (M_16 : MEM), wp_X5_allocate_L68 o p2 Q r_1 r_9 n68 x6_14 x7_15 M_16 → GX K E 9 M_16 [(0, gR E o), (2, .int p2), (4, gR E r_1), (5, .int r_9), (6, .int x6_14), (7, .int x7_15)] [] 68 3 18 (gEnd K E (qI Q) (qE X) rmX5_allocate.cells rmX5_allocate.slots) := by
      intro n68
      induction n68 with
      | zero => intro _ _ _ hw; exact False.elim hw
      | succ n68 ih68 =>
        intro x6_14 x7_15 M_16 hw
        refine g_iload C (j := 0) dX5_allocate_68 5 rfl ?_
        refine g_iconst C dX5_allocate_70 (v := 4) rfl ?_
        refine g_icmp_ge C dX5_allocate_71 (tgt := 125) (by decide) (fun c71 => ?_) (fun c71 => ?_)
        · have hw := hw.1 c71
          refine g_iconst C dX5_allocate_125 (v := 0) rfl ?_
          refine g_istore C dX5_allocate_126 (Nat.le_of_ble_eq_true rfl) (loc' := [(7, .int 0), (0, gR E o), (2, .int p2), (4, gR E r_1), (5, .int r_9), (6, .int x6_14)]) rfl ?_
          obtain ⟨m128, hw⟩ := hw
          have hL128 : ∀ (n128 : Nat) (x7_17 : Int32) (M_18 : MEM), wp_X5_allocate_L128 o Q r_1 x6_14 n128 x7_17 M_18 → GX K E 9 M_18 [(0, gR E o), (4, gR E r_1), (6, .int x6_14), (7, .int x7_17)] [] 128 3 18 (gEnd K E (qI Q) (qE X) rmX5_allocate.cells rmX5_allocate.slots) := by
            intro n128
            induction n128 with
            | zero => intro _ _ hw; exact False.elim hw
            | succ n128 ih128 =>
              intro x7_17 M_18 hw
              refine g_iload C (j := 0) dX5_allocate_128 3 rfl ?_
              refine g_iload C (j := 0) dX5_allocate_130 2 rfl ?_
              refine g_icmp_ge C dX5_allocate_132 (tgt := 163) (by decide) (fun c132 => ?_) (fun c132 => ?_)
              · have hw := hw.1 c132
                refine g_aload C (j := 0) dX5_allocate_163 1 rfl ?_
                refine g_iconst C dX5_allocate_165 (v := 0) rfl ?_
                obtain ⟨hk_21, hw⟩ := hw
                refine g_cV C dX5_allocate_166 (met_X4_quotaOf C.st hw) (gc_X4_quotaOf _ (Nat.le_of_ble_eq_true rfl) (Nat.le_of_ble_eq_true rfl)) tw546 tw519 tw520 (ci := 4) rfl (by decide) hk_21 rfl (Nat.le_of_ble_eq_true rfl) (c2 := 3) (s2 := 18) rfl rfl (Nat.le_of_ble_eq_true rfl) (Nat.le_of_ble_eq_true rfl) rfl (kIp (fun r_19 hw => ?_)) tNo
                exact g_iret C dX5_allocate_169 (Nat.le_of_ble_eq_true rfl) (Nat.le_of_ble_eq_true rfl) ⟨_, rfl, hw⟩
              · have hw := hw.2 c132
                refine g_aload_n C dX5_allocate_135 0 rfl rfl ?_
                refine g_cV C dX5_allocate_136 (met_X5_takeGreatestRemainder C.st hw) (gc_X5_takeGreatestRemainder _ (Nat.le_of_ble_eq_true rfl) (Nat.le_of_ble_eq_true rfl)) tw580 tw582 twp14 (ci := 5) rfl (by decide) hk0 rfl (Nat.le_of_ble_eq_true rfl) (c2 := 3) (s2 := 18) rfl rfl (Nat.le_of_ble_eq_true rfl) (Nat.le_of_ble_eq_true rfl) rfl (kI (fun r_22 M_23 hw => ?_)) tNo
                refine g_istore C dX5_allocate_139 (Nat.le_of_ble_eq_true rfl) (loc' := [(8, .int r_22), (0, gR E o), (4, gR E r_1), (6, .int x6_14), (7, .int x7_17)]) rfl ?_
                refine g_aload C (j := 0) dX5_allocate_141 2 rfl ?_
                refine g_iload C (j := 0) dX5_allocate_143 0 rfl ?_
                refine g_aload C (j := 0) dX5_allocate_145 2 rfl ?_
                refine g_iload C (j := 0) dX5_allocate_147 0 rfl ?_
                obtain ⟨hk_26, hw⟩ := hw
                refine g_cV C dX5_allocate_149 (met_X4_quotaOf C.st hw) (gc_X4_quotaOf _ (Nat.le_of_ble_eq_true rfl) (Nat.le_of_ble_eq_true rfl)) tw546 tw519 tw520 (ci := 4) rfl (by decide) hk_26 rfl (Nat.le_of_ble_eq_true rfl) (c2 := 3) (s2 := 18) rfl rfl (Nat.le_of_ble_eq_true rfl) (Nat.le_of_ble_eq_true rfl) rfl (kIp (fun r_24 hw => ?_)) tNo
                refine g_iconst C dX5_allocate_152 (v := 1) rfl ?_
                refine g_iadd C dX5_allocate_153 ?_
                refine g_cV C dX5_allocate_154 (met_X4_putQuota C.st hw) (gc_X4_putQuota _ (Nat.le_of_ble_eq_true rfl) (Nat.le_of_ble_eq_true rfl)) tw547 tw548 tw549 (ci := 4) rfl (by decide) hk_26 rfl (Nat.le_of_ble_eq_true rfl) (c2 := 3) (s2 := 18) rfl rfl (Nat.le_of_ble_eq_true rfl) (Nat.le_of_ble_eq_true rfl) rfl (kV (fun M_28 hw => ?_)) tNo
                obtain ⟨x7_29, ex7_29⟩ : ∃ y : Int32, y = x7_17 + 1 := ⟨_, rfl⟩
                have hw := hw x7_29 ex7_29
                refine g_iinc C (j := 0) dX5_allocate_157 4 rfl (v := x7_29) (by rw [ex7_29]; rfl) (Nat.le_of_ble_eq_true rfl) (loc' := [(7, .int x7_29), (8, .int r_22), (0, gR E o), (4, gR E r_1), (6, .int x6_14)]) rfl ?_
                refine g_goto C dX5_allocate_160 (tgt := 128) (by decide) ?_
                refine g_sub [2, 3, 4, 0] rfl ?_
                exact ih128 _ _ hw
          refine g_sub [1, 3, 5, 0] rfl ?_
          exact hL128 m128 _ _ hw
        · have hw := hw.2 c71
          refine g_iload_n C dX5_allocate_74 1 rfl rfl ?_
          refine g_aload_n C dX5_allocate_75 0 rfl rfl ?_
          refine gf_RX5_59 C hk0 dX5_allocate_76 ?_
          refine g_iload C (j := 0) dX5_allocate_79 5 rfl ?_
          obtain ⟨hk_30, hw⟩ := hw
          obtain ⟨hi_31, hw⟩ := hw
          refine g_iaload C hk_30 hi_31 dX5_allocate_81 ?_
          refine g_imul C dX5_allocate_82 ?_
          refine g_nmI (fun x8_32 ex8_32 => ?_)
          have hw := hw x8_32 ex8_32
          refine g_istore C dX5_allocate_83 (Nat.le_of_ble_eq_true rfl) (loc' := [(8, .int x8_32), (0, gR E o), (2, .int p2), (4, gR E r_1), (5, .int r_9), (6, .int x6_14), (7, .int x7_15)]) rfl ?_
          refine g_aload C (j := 0) dX5_allocate_85 3 rfl ?_
          refine g_iload C (j := 0) dX5_allocate_87 6 rfl ?_
          refine g_iload C (j := 0) dX5_allocate_89 0 rfl ?_
          refine g_iload C (j := 0) dX5_allocate_91 4 rfl ?_
          obtain ⟨hz_33, hw⟩ := hw
          refine g_idiv C dX5_allocate_93 hz_33 ?_
          obtain ⟨hk_36, hw⟩ := hw
          refine g_cV C dX5_allocate_94 (met_X4_putQuota C.st hw) (gc_X4_putQuota _ (Nat.le_of_ble_eq_true rfl) (Nat.le_of_ble_eq_true rfl)) tw547 tw548 tw549 (ci := 4) rfl (by decide) hk_36 rfl (Nat.le_of_ble_eq_true rfl) (c2 := 3) (s2 := 18) rfl rfl (Nat.le_of_ble_eq_true rfl) (Nat.le_of_ble_eq_true rfl) rfl (kV (fun M_35 hw => ?_)) tNo
          refine g_aload_n C dX5_allocate_97 1 rfl rfl ?_
          refine gf_RX5_63 C hk0 dX5_allocate_98 ?_
          refine g_iload C (j := 0) dX5_allocate_101 6 rfl ?_
          refine g_iload C (j := 0) dX5_allocate_103 0 rfl ?_
          refine g_iload C (j := 0) dX5_allocate_105 4 rfl ?_
          obtain ⟨hz_37, hw⟩ := hw
          refine g_irem C dX5_allocate_107 hz_37 ?_
          obtain ⟨hk_38, hw⟩ := hw
          obtain ⟨hi_39, hw⟩ := hw
          refine g_iastore C hk_38 hi_39 dX5_allocate_108 ?_
          refine g_nmM (fun M_40 eM_40 => ?_)
          have hw := hw M_40 eM_40
          refine g_iload C (j := 0) dX5_allocate_109 5 rfl ?_
          refine g_iload C (j := 0) dX5_allocate_111 0 rfl ?_
          refine g_iload C (j := 0) dX5_allocate_113 4 rfl ?_
          obtain ⟨hz_41, hw⟩ := hw
          refine g_idiv C dX5_allocate_115 hz_41 ?_
          refine g_isub C dX5_allocate_116 ?_
          refine g_nmI (fun x6_42 ex6_42 => ?_)
          have hw := hw x6_42 ex6_42
          refine g_istore C dX5_allocate_117 (Nat.le_of_ble_eq_true rfl) (loc' := [(6, .int x6_42), (8, .int x8_32), (0, gR E o), (2, .int p2), (4, gR E r_1), (5, .int r_9), (7, .int x7_15)]) rfl ?_
          obtain ⟨x7_43, ex7_43⟩ : ∃ y : Int32, y = x7_15 + 1 := ⟨_, rfl⟩
          have hw := hw x7_43 ex7_43
          refine g_iinc C (j := 0) dX5_allocate_119 6 rfl (v := x7_43) (by rw [ex7_43]; rfl) (Nat.le_of_ble_eq_true rfl) (loc' := [(7, .int x7_43), (6, .int x6_42), (8, .int x8_32), (0, gR E o), (2, .int p2), (4, gR E r_1), (5, .int r_9)]) rfl ?_
          refine g_goto C dX5_allocate_122 (tgt := 68) (by decide) ?_
          refine g_sub [3, 4, 5, 6, 1, 0] rfl ?_
          exact ih68 _ _ _ hw
    refine g_sub [4, 6, 3, 2, 1, 0] rfl ?_
    exact hL68 m68 _ _ _ hw
  · have hw := hw.2 c35
    exact g_throwS C fit_ArithmeticException fit_N tw577 tw18 (List.mem_of_getElem? (i := 5) rfl) (List.mem_of_getElem? (i := 3) rfl) at_RX5_169 dX5_allocate_38 dX5_allocate_41 dX5_allocate_42 dX5_allocate_44 dX5_allocate_47 (noTab _) (Nat.le_of_ble_eq_true rfl) (Nat.le_of_ble_eq_true rfl) (Nat.le_of_ble_eq_true rfl) (Nat.le_of_ble_eq_true rfl) (Nat.le_of_ble_eq_true rfl) (Nat.le_of_ble_eq_true rfl) hw
theorem gc_X5_allocate : ∀ rm : Room, rmX5_allocate.frames + 1 ≤ rm.frames → 8 + (9 + 11) + rmX5_allocate.locals ≤ rm.locals → gCall yX5_allocate 9 3 rmX5_allocate rm := fun rm a b => ⟨Or.inl ⟨_, _, tw571⟩, tw1, ⟨by decide, by decide⟩, by decide, a, b⟩
abbrev rmX5_quota : Room := { frames := 7, cells := 3, slots := 18, locals := 103 }
def wp_X5_quota (o : Nat) (p1 : Int32) (p2 : Int32) (M : MEM) (Q : Int32 → Prop) (X : String → Prop) : Prop := KD o = (15, 0) ∧ (wp_X5_slotAt o p1 M (fun r_1 => wp_X5_needStratum p2 M (wp_X5_needFilled r_1 M (KD r_1 = (14, 0) ∧ wp_X4_quotaOf r_1 p2 M (fun r_7 => Q r_7)) X) X) X)
set_option maxRecDepth 100000 in
set_option maxHeartbeats 4000000 in
theorem met_X5_quota {l : Launch} (hl : l.stackTraces = false) {E : MK} {o : Nat} {p1 : Int32} {p2 : Int32} {M : MEM} {Q : Int32 → Prop} {X : String → Prop} (hw : wp_X5_quota o p1 p2 M Q X) : gMet l E yX5_quota rmX5_quota [gR E o, .int p1, .int p2] M (qIp M Q) (gXp M X) := by
  obtain ⟨hk0, hw⟩ := hw
  refine g_met hl (cc := cX5_quota) (maxL := 4) (ret := (some .int)) (hh := []) (loc := [(0, gR E o), (1, .int p1), (2, .int p2)]) (by decide +kernel) (Or.inl ⟨tw590, rfl⟩) (Nat.le_of_ble_eq_true rfl) rfl (fun K hK C => ?_)
  have C : GC K E cX5_quota RX5 4 (some .int) [] rmX5_quota := C
  refine g_aload_n C dX5_quota_0 0 rfl rfl ?_
  refine g_iload_n C dX5_quota_1 1 rfl rfl ?_
  refine g_cV C dX5_quota_2 (met_X5_slotAt C.st hw) (gc_X5_slotAt _ (Nat.le_of_ble_eq_true rfl) (Nat.le_of_ble_eq_true rfl)) tw315 tw317 twp3 (ci := 5) rfl (by decide) hk0 rfl (Nat.le_of_ble_eq_true rfl) (c2 := 1) (s2 := 6) rfl rfl (Nat.le_of_ble_eq_true rfl) (Nat.le_of_ble_eq_true rfl) rfl (kRp (fun r_1 hw => ?_)) (fun En M9 hx => g_out C (noTab _) (Nat.le_of_ble_eq_true rfl) (Nat.le_of_ble_eq_true rfl) hx)
  refine g_astore_n C dX5_quota_5 rfl (Nat.le_of_ble_eq_true rfl) (loc' := [(3, gR E r_1), (0, gR E o), (1, .int p1), (2, .int p2)]) rfl ?_
  refine g_iload_n C dX5_quota_6 3 rfl rfl ?_
  refine g_cS C dX5_quota_7 (met_X5_needStratum C.st hw) (gc_X5_needStratum _ (Nat.le_of_ble_eq_true rfl) (Nat.le_of_ble_eq_true rfl)) (Or.inl tw542) tw543 rfl (Nat.le_of_ble_eq_true rfl) (c2 := 2) (s2 := 12) rfl rfl (Nat.le_of_ble_eq_true rfl) (Nat.le_of_ble_eq_true rfl) rfl (kVp (fun hw => ?_)) (fun En M9 hx => g_out C (noTab _) (Nat.le_of_ble_eq_true rfl) (Nat.le_of_ble_eq_true rfl) hx)
  refine g_aload_n C dX5_quota_10 0 rfl rfl ?_
  refine g_cS C dX5_quota_11 (met_X5_needFilled C.st hw) (gc_X5_needFilled _ (Nat.le_of_ble_eq_true rfl) (Nat.le_of_ble_eq_true rfl)) (Or.inl tw405) tw406 rfl (Nat.le_of_ble_eq_true rfl) (c2 := 3) (s2 := 18) rfl rfl (Nat.le_of_ble_eq_true rfl) (Nat.le_of_ble_eq_true rfl) rfl (kVp (fun hw => ?_)) (fun En M9 hx => g_out C (noTab _) (Nat.le_of_ble_eq_true rfl) (Nat.le_of_ble_eq_true rfl) hx)
  refine g_aload_n C dX5_quota_14 0 rfl rfl ?_
  refine g_iload_n C dX5_quota_15 3 rfl rfl ?_
  obtain ⟨hk_9, hw⟩ := hw
  refine g_cV C dX5_quota_16 (met_X4_quotaOf C.st hw) (gc_X4_quotaOf _ (Nat.le_of_ble_eq_true rfl) (Nat.le_of_ble_eq_true rfl)) tw546 tw519 tw520 (ci := 4) rfl (by decide) hk_9 rfl (Nat.le_of_ble_eq_true rfl) (c2 := 3) (s2 := 18) rfl rfl (Nat.le_of_ble_eq_true rfl) (Nat.le_of_ble_eq_true rfl) rfl (kIp (fun r_7 hw => ?_)) tNo
  exact g_iret C dX5_quota_19 (Nat.le_of_ble_eq_true rfl) (Nat.le_of_ble_eq_true rfl) ⟨_, rfl, rfl, hw⟩
theorem gc_X5_quota : ∀ rm : Room, rmX5_quota.frames + 1 ≤ rm.frames → 8 + (4 + 11) + rmX5_quota.locals ≤ rm.locals → gCall yX5_quota 4 2 rmX5_quota rm := fun rm a b => ⟨Or.inl ⟨_, _, tw590⟩, tw1, ⟨by decide, by decide⟩, by decide, a, b⟩
abbrev rmX5_merge : Room := { frames := 7, cells := 5, slots := 30, locals := 111 }
def wp_X5_merge (o : Nat) (p1 : Int32) (p2 : Int32) (M : MEM) (Q : Int32 → MEM → Prop) (X : String → MEM → Prop) : Prop := KD o = (15, 0) ∧ (wp_X5_slotAt o p1 M (fun r_1 => wp_X5_slotAt o p2 M (fun r_3 => wp_X5_needFilled r_1 M (wp_X5_needFilled r_3 M (KD r_3 = (14, 0) ∧ wp_X4_isLike r_3 r_1 M (fun r_9 => (¬ r_9 = 0 → (wp_X4_missingOf r_3 r_1 M (fun r_12 => wp_X4_hasRoomFor r_3 r_12 M (fun r_14 => (¬ r_14 = 0 → (KD (RF o 6) = (14, 0) ∧ wp_X4_join (RF o 6) r_1 r_3 M (fun M_17 => KD (RF o 5) = (10, 0) ∧ wp_X0_remember (RF o 5) p2 r_3 (mI M_17 o 4) M_17 (fun M_20 => wp_X4_become r_3 (RF o 6) M_20 (fun M_23 => wp_X4_count r_3 M_23 (fun r_24 => Q r_24 M_23)))))) ∧ (r_14 = 0 → (X "java/lang/UnsupportedOperationException" M)))))) ∧ (r_9 = 0 → (X "java/lang/UnsupportedOperationException" M)))) (fun En => X En M)) (fun En => X En M)) (fun En => X En M)) (fun En => X En M))
set_option maxRecDepth 100000 in
set_option maxHeartbeats 4000000 in
theorem met_X5_merge {l : Launch} (hl : l.stackTraces = false) {E : MK} {o : Nat} {p1 : Int32} {p2 : Int32} {M : MEM} {Q : Int32 → MEM → Prop} {X : String → MEM → Prop} (hw : wp_X5_merge o p1 p2 M Q X) : gMet l E yX5_merge rmX5_merge [gR E o, .int p1, .int p2] M (qI Q) (qE X) := by
  obtain ⟨hk0, hw⟩ := hw
  refine g_met hl (cc := cX5_merge) (maxL := 5) (ret := (some .int)) (hh := []) (loc := [(0, gR E o), (1, .int p1), (2, .int p2)]) (by decide +kernel) (Or.inl ⟨tw598, rfl⟩) (Nat.le_of_ble_eq_true rfl) rfl (fun K hK C => ?_)
  have C : GC K E cX5_merge RX5 5 (some .int) [] rmX5_merge := C
  refine g_aload_n C dX5_merge_0 0 rfl rfl ?_
  refine g_iload_n C dX5_merge_1 1 rfl rfl ?_
  refine g_cV C dX5_merge_2 (met_X5_slotAt C.st hw) (gc_X5_slotAt _ (Nat.le_of_ble_eq_true rfl) (Nat.le_of_ble_eq_true rfl)) tw315 tw317 twp3 (ci := 5) rfl (by decide) hk0 rfl (Nat.le_of_ble_eq_true rfl) (c2 := 1) (s2 := 6) rfl rfl (Nat.le_of_ble_eq_true rfl) (Nat.le_of_ble_eq_true rfl) rfl (kRp (fun r_1 hw => ?_)) (fun En M9 hx => g_out C (noTab _) (Nat.le_of_ble_eq_true rfl) (Nat.le_of_ble_eq_true rfl) (by obtain ⟨rfl, hx⟩ := hx; exact hx))
  refine g_astore_n C dX5_merge_5 rfl (Nat.le_of_ble_eq_true rfl) (loc' := [(3, gR E r_1), (0, gR E o), (1, .int p1), (2, .int p2)]) rfl ?_
  refine g_aload_n C dX5_merge_6 1 rfl rfl ?_
  refine g_iload_n C dX5_merge_7 3 rfl rfl ?_
  refine g_cV C dX5_merge_8 (met_X5_slotAt C.st hw) (gc_X5_slotAt _ (Nat.le_of_ble_eq_true rfl) (Nat.le_of_ble_eq_true rfl)) tw315 tw317 twp3 (ci := 5) rfl (by decide) hk0 rfl (Nat.le_of_ble_eq_true rfl) (c2 := 2) (s2 := 12) rfl rfl (Nat.le_of_ble_eq_true rfl) (Nat.le_of_ble_eq_true rfl) rfl (kRp (fun r_3 hw => ?_)) (fun En M9 hx => g_out C (noTab _) (Nat.le_of_ble_eq_true rfl) (Nat.le_of_ble_eq_true rfl) (by obtain ⟨rfl, hx⟩ := hx; exact hx))
  refine g_astore C dX5_merge_11 (Nat.le_of_ble_eq_true rfl) (loc' := [(4, gR E r_3), (3, gR E r_1), (0, gR E o), (1, .int p1), (2, .int p2)]) rfl ?_
  refine g_aload_n C dX5_merge_13 1 rfl rfl ?_
  refine g_cS C dX5_merge_14 (met_X5_needFilled C.st hw) (gc_X5_needFilled _ (Nat.le_of_ble_eq_true rfl) (Nat.le_of_ble_eq_true rfl)) (Or.inl tw405) tw406 rfl (Nat.le_of_ble_eq_true rfl) (c2 := 3) (s2 := 18) rfl rfl (Nat.le_of_ble_eq_true rfl) (Nat.le_of_ble_eq_true rfl) rfl (kVp (fun hw => ?_)) (fun En M9 hx => g_out C (noTab _) (Nat.le_of_ble_eq_true rfl) (Nat.le_of_ble_eq_true rfl) (by obtain ⟨rfl, hx⟩ := hx; exact hx))
  refine g_aload C (j := 0) dX5_merge_17 0 rfl ?_
  refine g_cS C dX5_merge_19 (met_X5_needFilled C.st hw) (gc_X5_needFilled _ (Nat.le_of_ble_eq_true rfl) (Nat.le_of_ble_eq_true rfl)) (Or.inl tw405) tw406 rfl (Nat.le_of_ble_eq_true rfl) (c2 := 4) (s2 := 24) rfl rfl (Nat.le_of_ble_eq_true rfl) (Nat.le_of_ble_eq_true rfl) rfl (kVp (fun hw => ?_)) (fun En M9 hx => g_out C (noTab _) (Nat.le_of_ble_eq_true rfl) (Nat.le_of_ble_eq_true rfl) (by obtain ⟨rfl, hx⟩ := hx; exact hx))
  refine g_aload C (j := 0) dX5_merge_22 0 rfl ?_
  refine g_aload_n C dX5_merge_24 1 rfl rfl ?_
  obtain ⟨hk_11, hw⟩ := hw
  refine g_cV C dX5_merge_25 (met_X4_isLike C.st hw) (gc_X4_isLike _ (Nat.le_of_ble_eq_true rfl) (Nat.le_of_ble_eq_true rfl)) tw599 tw600 tw601 (ci := 4) rfl (by decide) hk_11 rfl (Nat.le_of_ble_eq_true rfl) (c2 := 4) (s2 := 24) rfl rfl (Nat.le_of_ble_eq_true rfl) (Nat.le_of_ble_eq_true rfl) rfl (kIp (fun r_9 hw => ?_)) tNo
  refine g_if_ne C dX5_merge_28 (tgt := 41) (by decide) (fun c28 => ?_) (fun c28 => ?_)
  · have hw := hw.1 c28
    refine g_aload C (j := 0) dX5_merge_41 0 rfl ?_
    refine g_aload C (j := 0) dX5_merge_43 0 rfl ?_
    refine g_aload_n C dX5_merge_45 1 rfl rfl ?_
    refine g_cV C dX5_merge_46 (met_X4_missingOf C.st hw) (gc_X4_missingOf _ (Nat.le_of_ble_eq_true rfl) (Nat.le_of_ble_eq_true rfl)) tw619 tw620 tw621 (ci := 4) rfl (by decide) hk_11 rfl (Nat.le_of_ble_eq_true rfl) (c2 := 4) (s2 := 24) rfl rfl (Nat.le_of_ble_eq_true rfl) (Nat.le_of_ble_eq_true rfl) rfl (kIp (fun r_12 hw => ?_)) tNo
    refine g_cV C dX5_merge_49 (met_X4_hasRoomFor C.st hw) (gc_X4_hasRoomFor _ (Nat.le_of_ble_eq_true rfl) (Nat.le_of_ble_eq_true rfl)) tw427 tw428 tw429 (ci := 4) rfl (by decide) hk_11 rfl (Nat.le_of_ble_eq_true rfl) (c2 := 4) (s2 := 24) rfl rfl (Nat.le_of_ble_eq_true rfl) (Nat.le_of_ble_eq_true rfl) rfl (kIp (fun r_14 hw => ?_)) tNo
    refine g_if_ne C dX5_merge_52 (tgt := 65) (by decide) (fun c52 => ?_) (fun c52 => ?_)
    · have hw := hw.1 c52
      refine g_aload_n C dX5_merge_65 2 rfl rfl ?_
      refine gf_RX5_26 C hk0 dX5_merge_66 ?_
      refine g_aload_n C dX5_merge_69 1 rfl rfl ?_
      refine g_aload C (j := 0) dX5_merge_70 0 rfl ?_
      obtain ⟨hk_18, hw⟩ := hw
      refine g_cV C dX5_merge_72 (met_X4_join C.st hw) (gc_X4_join _ (Nat.le_of_ble_eq_true rfl) (Nat.le_of_ble_eq_true rfl)) tw627 tw628 tw629 (ci := 4) rfl (by decide) hk_18 rfl (Nat.le_of_ble_eq_true rfl) (c2 := 4) (s2 := 24) rfl rfl (Nat.le_of_ble_eq_true rfl) (Nat.le_of_ble_eq_true rfl) rfl (kV (fun M_17 hw => ?_)) tNo
      refine g_aload_n C dX5_merge_75 2 rfl rfl ?_
      refine gf_RX5_22 C hk0 dX5_merge_76 ?_
      refine g_iload_n C dX5_merge_79 4 rfl rfl ?_
      refine g_aload C (j := 0) dX5_merge_80 0 rfl ?_
      refine g_aload_n C dX5_merge_82 2 rfl rfl ?_
      refine gf_RX5_82 C hk0 dX5_merge_83 ?_
      obtain ⟨hk_21, hw⟩ := hw
      refine g_cV C dX5_merge_86 (met_X0_remember C.st hw) (gc_X0_remember _ (Nat.le_of_ble_eq_true rfl) (Nat.le_of_ble_eq_true rfl)) tw364 tw365 tw366 (ci := 0) rfl (by decide) hk_21 rfl (Nat.le_of_ble_eq_true rfl) (c2 := 4) (s2 := 24) rfl rfl (Nat.le_of_ble_eq_true rfl) (Nat.le_of_ble_eq_true rfl) rfl (kV (fun M_20 hw => ?_)) tNo
      refine g_aload C (j := 0) dX5_merge_89 0 rfl ?_
      refine g_aload_n C dX5_merge_91 2 rfl rfl ?_
      refine gf_RX5_26 C hk0 dX5_merge_92 ?_
      refine g_cV C dX5_merge_95 (met_X4_become C.st hw) (gc_X4_become _ (Nat.le_of_ble_eq_true rfl) (Nat.le_of_ble_eq_true rfl)) tw208 tw209 tw210 (ci := 4) rfl (by decide) hk_11 rfl (Nat.le_of_ble_eq_true rfl) (c2 := 4) (s2 := 24) rfl rfl (Nat.le_of_ble_eq_true rfl) (Nat.le_of_ble_eq_true rfl) rfl (kV (fun M_23 hw => ?_)) tNo
      refine g_aload C (j := 0) dX5_merge_98 0 rfl ?_
      refine g_cV C dX5_merge_100 (met_X4_count C.st hw) (gc_X4_count _ (Nat.le_of_ble_eq_true rfl) (Nat.le_of_ble_eq_true rfl)) tw360 tw361 tw362 (ci := 4) rfl (by decide) hk_11 rfl (Nat.le_of_ble_eq_true rfl) (c2 := 4) (s2 := 24) rfl rfl (Nat.le_of_ble_eq_true rfl) (Nat.le_of_ble_eq_true rfl) rfl (kIp (fun r_24 hw => ?_)) tNo
      exact g_iret C dX5_merge_103 (Nat.le_of_ble_eq_true rfl) (Nat.le_of_ble_eq_true rfl) ⟨_, rfl, hw⟩
    · have hw := hw.2 c52
      exact g_throwS C fit_UnsupportedOperationException fit_N tw603 tw19 (List.mem_of_getElem? (i := 3) rfl) (List.mem_of_getElem? (i := 4) rfl) at_RX5_183 dX5_merge_55 dX5_merge_58 dX5_merge_59 dX5_merge_61 dX5_merge_64 (noTab _) (Nat.le_of_ble_eq_true rfl) (Nat.le_of_ble_eq_true rfl) (Nat.le_of_ble_eq_true rfl) (Nat.le_of_ble_eq_true rfl) (Nat.le_of_ble_eq_true rfl) (Nat.le_of_ble_eq_true rfl) hw
  · have hw := hw.2 c28
    exact g_throwS C fit_UnsupportedOperationException fit_N tw603 tw19 (List.mem_of_getElem? (i := 6) rfl) (List.mem_of_getElem? (i := 4) rfl) at_RX5_183 dX5_merge_31 dX5_merge_34 dX5_merge_35 dX5_merge_37 dX5_merge_40 (noTab _) (Nat.le_of_ble_eq_true rfl) (Nat.le_of_ble_eq_true rfl) (Nat.le_of_ble_eq_true rfl) (Nat.le_of_ble_eq_true rfl) (Nat.le_of_ble_eq_true rfl) (Nat.le_of_ble_eq_true rfl) hw
theorem gc_X5_merge : ∀ rm : Room, rmX5_merge.frames + 1 ≤ rm.frames → 8 + (5 + 11) + rmX5_merge.locals ≤ rm.locals → gCall yX5_merge 5 2 rmX5_merge rm := fun rm a b => ⟨Or.inl ⟨_, _, tw598⟩, tw1, ⟨by decide, by decide⟩, by decide, a, b⟩
