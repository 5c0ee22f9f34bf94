abbrev rmX6_isComplete : Room := { frames := 0, cells := 0, slots := 0, locals := 0 }
def wp_X6_isComplete (o : Nat) (M : MEM) (Q : Int32 → Prop) : Prop := KD o = (16, 0) ∧ ((¬ (mI M o 6) = (mI M o 5) → (Q 0)) ∧ ((mI M o 6) = (mI M o 5) → (Q 1)))
set_option maxRecDepth 100000 in
set_option maxHeartbeats 4000000 in
theorem met_X6_isComplete {l : Launch} (hl : l.stackTraces = false) {E : MK} {o : Nat} {M : MEM} {Q : Int32 → Prop} (hw : wp_X6_isComplete o M Q) : gMet l E yX6_isComplete rmX6_isComplete [gR E o] M (qIp M Q) gNo := by
  obtain ⟨hk0, hw⟩ := hw
  refine g_met hl (cc := cX6_isComplete) (maxL := 1) (ret := (some .boolean)) (hh := []) (loc := [(0, gR E o)]) (by decide +kernel) (Or.inl ⟨tw1250, rfl⟩) (Nat.le_of_ble_eq_true rfl) rfl (fun K hK C => ?_)
  have C : GC K E cX6_isComplete RX6 1 (some .boolean) [] rmX6_isComplete := C
  refine g_aload_n C dX6_isComplete_0 0 rfl rfl ?_
  refine gf_RX6_160 C hk0 dX6_isComplete_1 ?_
  refine g_aload_n C dX6_isComplete_4 0 rfl rfl ?_
  refine gf_RX6_150 C hk0 dX6_isComplete_5 ?_
  refine g_icmp_ne C dX6_isComplete_8 (tgt := 15) (by decide) (fun c8 => ?_) (fun c8 => ?_)
  · have hw := hw.1 c8
    refine g_iconst C dX6_isComplete_15 (v := 0) rfl ?_
    exact g_zret C dX6_isComplete_16 gB0.1 (Nat.le_of_ble_eq_true rfl) (Nat.le_of_ble_eq_true rfl) ⟨_, rfl, rfl, hw⟩
  · have hw := hw.2 c8
    refine g_iconst C dX6_isComplete_11 (v := 1) rfl ?_
    refine g_goto C dX6_isComplete_12 (tgt := 16) (by decide) ?_
    exact g_zret C dX6_isComplete_16 gB1.1 (Nat.le_of_ble_eq_true rfl) (Nat.le_of_ble_eq_true rfl) ⟨_, rfl, rfl, hw⟩
theorem gc_X6_isComplete : ∀ rm : Room, rmX6_isComplete.frames + 1 ≤ rm.frames → 8 + (1 + 11) + rmX6_isComplete.locals ≤ rm.locals → gCall yX6_isComplete 1 0 rmX6_isComplete rm := fun rm a b => ⟨Or.inl ⟨_, _, tw1250⟩, tw8, ⟨by decide, by decide⟩, by decide, a, b⟩
abbrev rmX6_keys : Room := { frames := 2, cells := 0, slots := 0, locals := 43 }
def wp_X6_keys_L19 (o : Nat) (p1 : Int32) (M : MEM) (K4 : Int32 → Int32 → Prop) (x2_1 : Int32) (x3_2 : Int32) : Nat → Int32 → Int32 → Prop
  | 0, _, _ => False
  | n19 + 1, x4_5, x5_6 => (x3_2 ≤ x5_6 → ((x4_5 = 0 → (∀ x2_7 : Int32, x2_7 = x2_1 + 0 → (∀ x3_8 : Int32, x3_8 = x3_2 + 1 → (K4 x2_7 x3_8)))) ∧ (¬ x4_5 = 0 → (∀ x2_9 : Int32, x2_9 = x2_1 + 1 → (∀ x3_10 : Int32, x3_10 = x3_2 + 1 → (K4 x2_9 x3_10)))))) ∧ (¬ x3_2 ≤ x5_6 → ((x4_5 = 0 → (∀ x5_11 : Int32, x5_11 = x5_6 + 1 → ((wp_X6_keys_L19 o p1 M K4 x2_1 x3_2 n19) 0 x5_11))) ∧ (¬ x4_5 = 0 → (wp_X6_item o p1 x5_6 1 M (fun r_12 => wp_X6_item o p1 x3_2 1 M (fun r_14 => (r_12 = r_14 → (∀ x5_16 : Int32, x5_16 = x5_6 + 1 → ((wp_X6_keys_L19 o p1 M K4 x2_1 x3_2 n19) 0 x5_16))) ∧ (¬ r_12 = r_14 → (∀ x5_17 : Int32, x5_17 = x5_6 + 1 → ((wp_X6_keys_L19 o p1 M K4 x2_1 x3_2 n19) 1 x5_17)))))))))
def wp_X6_keys_L4 (o : Nat) (p1 : Int32) (M : MEM) (Q : Int32 → Prop) : Nat → Int32 → Int32 → Prop
  | 0, _, _ => False
  | n4 + 1, x2_1, x3_2 => wp_X6_many o p1 M (fun r_3 => (r_3 ≤ x3_2 → (Q x2_1)) ∧ (¬ r_3 ≤ x3_2 → (∃ m19 : Nat, wp_X6_keys_L19 o p1 M (wp_X6_keys_L4 o p1 M Q n4) x2_1 x3_2 m19 1 0)))
def wp_X6_keys (o : Nat) (p1 : Int32) (M : MEM) (Q : Int32 → Prop) : Prop := KD o = (16, 0) ∧ (∃ m4 : Nat, wp_X6_keys_L4 o p1 M Q m4 0 0)
set_option maxRecDepth 100000 in
set_option maxHeartbeats 4000000 in
theorem met_X6_keys {l : Launch} (hl : l.stackTraces = false) {E : MK} {o : Nat} {p1 : Int32} {M : MEM} {Q : Int32 → Prop} (hw : wp_X6_keys o p1 M Q) : gMet l E yX6_keys rmX6_keys [gR E o, .int p1] M (qIp M Q) gNo := by
  obtain ⟨hk0, hw⟩ := hw
  refine g_met hl (cc := cX6_keys) (maxL := 6) (ret := (some .int)) (hh := []) (loc := [(0, gR E o), (1, .int p1)]) (by decide +kernel) (Or.inl ⟨tw1254, rfl⟩) (Nat.le_of_ble_eq_true rfl) rfl (fun K hK C => ?_)
  have C : GC K E cX6_keys RX6 6 (some .int) [] rmX6_keys := C
  refine g_iconst C dX6_keys_0 (v := 0) rfl ?_
  refine g_istore_n C dX6_keys_1 rfl (Nat.le_of_ble_eq_true rfl) (loc' := [(2, .int 0), (0, gR E o), (1, .int p1)]) rfl ?_
  refine g_iconst C dX6_keys_2 (v := 0) rfl ?_
  refine g_istore_n C dX6_keys_3 rfl (Nat.le_of_ble_eq_true rfl) (loc' := [(3, .int 0), (2, .int 0), (0, gR E o), (1, .int p1)]) rfl ?_
  obtain ⟨m4, hw⟩ := hw
  have hL4 : ∀ (n4 : Nat) (x2_1 : Int32) (x3_2 : Int32), wp_X6_keys_L4 o p1 M Q n4 x2_1 x3_2 → GX K E 6 M [(0, gR E o), (1, .int p1), (2, .int x2_1), (3, .int x3_2)] [] 4 0 0 (gEnd K E (qIp M Q) gNo rmX6_keys.cells rmX6_keys.slots) := by
    intro n4
    induction n4 with
    | zero => intro _ _ hw; exact False.elim hw
    | succ n4 ih4 =>
      intro x2_1 x3_2 hw
      refine g_iload_n C dX6_keys_4 3 rfl rfl ?_
      refine g_aload_n C dX6_keys_5 0 rfl rfl ?_
      refine g_iload_n C dX6_keys_6 1 rfl rfl ?_
      refine g_cV C dX6_keys_7 (met_X6_many C.st hw) (gc_X6_many _ (Nat.le_of_ble_eq_true rfl) (Nat.le_of_ble_eq_true rfl)) tw1156 tw1158 twp32 (ci := 6) rfl (by decide) hk0 rfl (Nat.le_of_ble_eq_true rfl) (c2 := 0) (s2 := 0) rfl rfl (Nat.le_of_ble_eq_true rfl) (Nat.le_of_ble_eq_true rfl) rfl (kIp (fun r_3 hw => ?_)) tNo
      refine g_icmp_ge C dX6_keys_10 (tgt := 80) (by decide) (fun c10 => ?_) (fun c10 => ?_)
      · have hw := hw.1 c10
        refine g_iload_n C dX6_keys_80 2 rfl rfl ?_
        exact g_iret C dX6_keys_81 (Nat.le_of_ble_eq_true rfl) (Nat.le_of_ble_eq_true rfl) ⟨_, rfl, rfl, hw⟩
      · have hw := hw.2 c10
        refine g_iconst C dX6_keys_13 (v := 1) rfl ?_
        refine g_istore C dX6_keys_14 (Nat.le_of_ble_eq_true rfl) (loc' := [(4, .int 1), (0, gR E o), (1, .int p1), (2, .int x2_1), (3, .int x3_2)]) rfl ?_
        refine g_iconst C dX6_keys_16 (v := 0) rfl ?_
        refine g_istore C dX6_keys_17 (Nat.le_of_ble_eq_true rfl) (loc' := [(5, .int 0), (4, .int 1), (0, gR E o), (1, .int p1), (2, .int x2_1), (3, .int x3_2)]) rfl ?_
        obtain ⟨m19, hw⟩ := hw
        have hL19 : ∀ (n19 : Nat) (x4_5 : Int32) (x5_6 : Int32), wp_X6_keys_L19 o p1 M (wp_X6_keys_L4 o p1 M Q n4) x2_1 x3_2 n19 x4_5 x5_6 → GX K E 6 M [(0, gR E o), (1, .int p1), (2, .int x2_1), (3, .int x3_2), (4, .int x4_5), (5, .int x5_6)] [] 19 0 0 (gEnd K E (qIp M Q) gNo rmX6_keys.cells rmX6_keys.slots) := by
          intro n19
          induction n19 with
          | zero => intro _ _ hw; exact False.elim hw
          | succ n19 ih19 =>
            intro x4_5 x5_6 hw
            refine g_iload C (j := 0) dX6_keys_19 5 rfl ?_
            refine g_iload_n C dX6_keys_21 3 rfl rfl ?_
            refine g_icmp_ge C dX6_keys_22 (tgt := 61) (by decide) (fun c22 => ?_) (fun c22 => ?_)
            · have hw := hw.1 c22
              refine g_iload_n C dX6_keys_61 2 rfl rfl ?_
              refine g_iload C (j := 0) dX6_keys_62 4 rfl ?_
              refine g_if_eq C dX6_keys_64 (tgt := 71) (by decide) (fun c64 => ?_) (fun c64 => ?_)
              · have hw := hw.1 c64
                refine g_iconst C dX6_keys_71 (v := 0) rfl ?_
                refine g_iadd C dX6_keys_72 ?_
                refine g_nmI (fun x2_7 ex2_7 => ?_)
                have hw := hw x2_7 ex2_7
                refine g_istore_n C dX6_keys_73 rfl (Nat.le_of_ble_eq_true rfl) (loc' := [(2, .int x2_7), (0, gR E o), (1, .int p1), (3, .int x3_2), (4, .int x4_5), (5, .int x5_6)]) rfl ?_
                obtain ⟨x3_8, ex3_8⟩ : ∃ y : Int32, y = x3_2 + 1 := ⟨_, rfl⟩
                have hw := hw x3_8 ex3_8
                refine g_iinc C (j := 0) dX6_keys_74 3 rfl (v := x3_8) (by rw [ex3_8]; rfl) (Nat.le_of_ble_eq_true rfl) (loc' := [(3, .int x3_8), (2, .int x2_7), (0, gR E o), (1, .int p1), (4, .int x4_5), (5, .int x5_6)]) rfl ?_
                refine g_goto C dX6_keys_77 (tgt := 4) (by decide) ?_
                refine g_sub [2, 3, 1, 0] rfl ?_
                exact ih4 _ _ hw
              · have hw := hw.2 c64
                refine g_iconst C dX6_keys_67 (v := 1) rfl ?_
                refine g_goto C dX6_keys_68 (tgt := 72) (by decide) ?_
                refine g_iadd C dX6_keys_72 ?_
                refine g_nmI (fun x2_9 ex2_9 => ?_)
                have hw := hw x2_9 ex2_9
                refine g_istore_n C dX6_keys_73 rfl (Nat.le_of_ble_eq_true rfl) (loc' := [(2, .int x2_9), (0, gR E o), (1, .int p1), (3, .int x3_2), (4, .int x4_5), (5, .int x5_6)]) rfl ?_
                obtain ⟨x3_10, ex3_10⟩ : ∃ y : Int32, y = x3_2 + 1 := ⟨_, rfl⟩
                have hw := hw x3_10 ex3_10
                refine g_iinc C (j := 0) dX6_keys_74 3 rfl (v := x3_10) (by rw [ex3_10]; rfl) (Nat.le_of_ble_eq_true rfl) (loc' := [(3, .int x3_10), (2, .int x2_9), (0, gR E o), (1, .int p1), (4, .int x4_5), (5, .int x5_6)]) rfl ?_
                refine g_goto C dX6_keys_77 (tgt := 4) (by decide) ?_
                refine g_sub [2, 3, 1, 0] rfl ?_
                exact ih4 _ _ hw
            · have hw := hw.2 c22
              refine g_iload C (j := 0) dX6_keys_25 4 rfl ?_
              refine g_if_eq C dX6_keys_27 (tgt := 52) (by decide) (fun c27 => ?_) (fun c27 => ?_)
              · have hw := hw.1 c27
                refine g_iconst C dX6_keys_52 (v := 0) rfl ?_
                refine g_istore C dX6_keys_53 (Nat.le_of_ble_eq_true rfl) (loc' := [(4, .int 0), (0, gR E o), (1, .int p1), (2, .int x2_1), (3, .int x3_2), (5, .int x5_6)]) rfl ?_
                obtain ⟨x5_11, ex5_11⟩ : ∃ y : Int32, y = x5_6 + 1 := ⟨_, rfl⟩
                have hw := hw x5_11 ex5_11
                refine g_iinc C (j := 0) dX6_keys_55 5 rfl (v := x5_11) (by rw [ex5_11]; rfl) (Nat.le_of_ble_eq_true rfl) (loc' := [(5, .int x5_11), (4, .int 0), (0, gR E o), (1, .int p1), (2, .int x2_1), (3, .int x3_2)]) rfl ?_
                refine g_goto C dX6_keys_58 (tgt := 19) (by decide) ?_
                refine g_sub [2, 3, 4, 5, 1, 0] rfl ?_
                exact ih19 _ _ hw
              · have hw := hw.2 c27
                refine g_aload_n C dX6_keys_30 0 rfl rfl ?_
                refine g_iload_n C dX6_keys_31 1 rfl rfl ?_
                refine g_iload C (j := 0) dX6_keys_32 5 rfl ?_
                refine g_iconst C dX6_keys_34 (v := 1) rfl ?_
                refine g_cV C dX6_keys_35 (met_X6_item C.st hw) (gc_X6_item _ (Nat.le_of_ble_eq_true rfl) (Nat.le_of_ble_eq_true rfl)) tw1197 tw1199 twp38 (ci := 6) rfl (by decide) hk0 rfl (Nat.le_of_ble_eq_true rfl) (c2 := 0) (s2 := 0) rfl rfl (Nat.le_of_ble_eq_true rfl) (Nat.le_of_ble_eq_true rfl) rfl (kIp (fun r_12 hw => ?_)) tNo
                refine g_aload_n C dX6_keys_38 0 rfl rfl ?_
                refine g_iload_n C dX6_keys_39 1 rfl rfl ?_
                refine g_iload_n C dX6_keys_40 3 rfl rfl ?_
                refine g_iconst C dX6_keys_41 (v := 1) rfl ?_
                refine g_cV C dX6_keys_42 (met_X6_item C.st hw) (gc_X6_item _ (Nat.le_of_ble_eq_true rfl) (Nat.le_of_ble_eq_true rfl)) tw1197 tw1199 twp38 (ci := 6) rfl (by decide) hk0 rfl (Nat.le_of_ble_eq_true rfl) (c2 := 0) (s2 := 0) rfl rfl (Nat.le_of_ble_eq_true rfl) (Nat.le_of_ble_eq_true rfl) rfl (kIp (fun r_14 hw => ?_)) tNo
                refine g_icmp_eq C dX6_keys_45 (tgt := 52) (by decide) (fun c45 => ?_) (fun c45 => ?_)
                · have hw := hw.1 c45
                  refine g_iconst C dX6_keys_52 (v := 0) rfl ?_
                  refine g_istore C dX6_keys_53 (Nat.le_of_ble_eq_true rfl) (loc' := [(4, .int 0), (0, gR E o), (1, .int p1), (2, .int x2_1), (3, .int x3_2), (5, .int x5_6)]) rfl ?_
                  obtain ⟨x5_16, ex5_16⟩ : ∃ y : Int32, y = x5_6 + 1 := ⟨_, rfl⟩
                  have hw := hw x5_16 ex5_16
                  refine g_iinc C (j := 0) dX6_keys_55 5 rfl (v := x5_16) (by rw [ex5_16]; rfl) (Nat.le_of_ble_eq_true rfl) (loc' := [(5, .int x5_16), (4, .int 0), (0, gR E o), (1, .int p1), (2, .int x2_1), (3, .int x3_2)]) rfl ?_
                  refine g_goto C dX6_keys_58 (tgt := 19) (by decide) ?_
                  refine g_sub [2, 3, 4, 5, 1, 0] rfl ?_
                  exact ih19 _ _ hw
                · have hw := hw.2 c45
                  refine g_iconst C dX6_keys_48 (v := 1) rfl ?_
                  refine g_goto C dX6_keys_49 (tgt := 53) (by decide) ?_
                  refine g_istore C dX6_keys_53 (Nat.le_of_ble_eq_true rfl) (loc' := [(4, .int 1), (0, gR E o), (1, .int p1), (2, .int x2_1), (3, .int x3_2), (5, .int x5_6)]) rfl ?_
                  obtain ⟨x5_17, ex5_17⟩ : ∃ y : Int32, y = x5_6 + 1 := ⟨_, rfl⟩
                  have hw := hw x5_17 ex5_17
                  refine g_iinc C (j := 0) dX6_keys_55 5 rfl (v := x5_17) (by rw [ex5_17]; rfl) (Nat.le_of_ble_eq_true rfl) (loc' := [(5, .int x5_17), (4, .int 1), (0, gR E o), (1, .int p1), (2, .int x2_1), (3, .int x3_2)]) rfl ?_
                  refine g_goto C dX6_keys_58 (tgt := 19) (by decide) ?_
                  refine g_sub [2, 3, 4, 5, 1, 0] rfl ?_
                  exact ih19 _ _ hw
        refine g_sub [2, 3, 4, 5, 1, 0] rfl ?_
        exact hL19 m19 _ _ hw
  refine g_sub [2, 3, 1, 0] rfl ?_
  exact hL4 m4 _ _ hw
theorem gc_X6_keys : ∀ rm : Room, rmX6_keys.frames + 1 ≤ rm.frames → 8 + (6 + 11) + rmX6_keys.locals ≤ rm.locals → gCall yX6_keys 6 1 rmX6_keys rm := fun rm a b => ⟨Or.inl ⟨_, _, tw1254⟩, tw8, ⟨by decide, by decide⟩, by decide, a, b⟩
abbrev rmX6_summary : Room := { frames := 5, cells := 0, slots := 0, locals := 118 }
def wp_X6_summary (o : Nat) (p1 : Int32) (p2 : Int32) (M : MEM) (Q : Int32 → MEM → Prop) : Prop := KD o = (16, 0) ∧ (wp_X6_isSlot p1 M (fun r_1 => (¬ r_1 = 0 → (wp_X6_isBetween p2.toInt64 0 7 M (fun r_3 => (¬ r_3 = 0 → (wp_X6_isThere o p1 M (fun r_5 => (¬ r_5 = 0 → ((∀ M_7 : MEM, M_7 = uI M o 0 0 → (wp_X6_finds o p1 M_7 (fun M_9 => ((p2.toInt < 0 ∨ 6 < p2.toInt) → (wp_X6_keys o p1 M_9 (fun r_10 => Q r_10 M_9))) ∧ (p2 = nI 0 → (wp_X6_of o p1 1 M_9 (fun r_12 => Q r_12 M_9))) ∧ (p2 = nI 1 → (wp_X6_of o p1 2 M_9 (fun r_14 => Q r_14 M_9))) ∧ (p2 = nI 2 → (wp_X6_of o p1 3 M_9 (fun r_16 => Q r_16 M_9))) ∧ (p2 = nI 3 → (wp_X6_of o p1 4 M_9 (fun r_18 => Q r_18 M_9))) ∧ (p2 = nI 4 → (wp_X6_many o p1 M_9 (fun r_20 => Q r_20 M_9))) ∧ (p2 = nI 5 → (Q (mI M_9 o 6) M_9)) ∧ (p2 = nI 6 → (wp_X6_isComplete o M_9 (fun r_22 => (r_22 = 0 → (Q 0 M_9)) ∧ (¬ r_22 = 0 → (Q 1 M_9)))))))))) ∧ (r_5 = 0 → (wp_X6_fails o 3 M (fun r_24 M_25 => Q r_24 M_25)))))) ∧ (r_3 = 0 → (wp_X6_fails o 2 M (fun r_26 M_27 => Q r_26 M_27)))))) ∧ (r_1 = 0 → (wp_X6_fails o 1 M (fun r_28 M_29 => Q r_28 M_29)))))
set_option maxRecDepth 100000 in
set_option maxHeartbeats 4000000 in
theorem met_X6_summary {l : Launch} (hl : l.stackTraces = false) {E : MK} {o : Nat} {p1 : Int32} {p2 : Int32} {M : MEM} {Q : Int32 → MEM → Prop} (hw : wp_X6_summary o p1 p2 M Q) : gMet l E yX6_summary rmX6_summary [gR E o, .int p1, .int p2] M (qI Q) gNo := by
  obtain ⟨hk0, hw⟩ := hw
  refine g_met hl (cc := cX6_summary) (maxL := 3) (ret := (some .int)) (hh := []) (loc := [(0, gR E o), (1, .int p1), (2, .int p2)]) (by decide +kernel) (Or.inl ⟨tw1214, rfl⟩) (Nat.le_of_ble_eq_true rfl) rfl (fun K hK C => ?_)
  have C : GC K E cX6_summary RX6 3 (some .int) [] rmX6_summary := C
  refine g_iload_n C dX6_summary_0 1 rfl rfl ?_
  refine g_cS C dX6_summary_1 (met_X6_isSlot C.st hw) (gc_X6_isSlot _ (Nat.le_of_ble_eq_true rfl) (Nat.le_of_ble_eq_true rfl)) (Or.inl tw1128) tw1129 rfl (Nat.le_of_ble_eq_true rfl) (c2 := 0) (s2 := 0) rfl rfl (Nat.le_of_ble_eq_true rfl) (Nat.le_of_ble_eq_true rfl) rfl (kIp (fun r_1 hw => ?_)) tNo
  refine g_if_ne C dX6_summary_4 (tgt := 13) (by decide) (fun c4 => ?_) (fun c4 => ?_)
  · have hw := hw.1 c4
    refine g_iload_n C dX6_summary_13 2 rfl rfl ?_
    refine g_i2l C dX6_summary_14 ?_
    refine g_lconst C dX6_summary_15 (v := 0) rfl ?_
    refine g_ldc2 C dX6_summary_16 tw1215 ?_
    refine g_cS C dX6_summary_19 (met_X6_isBetween C.st hw) (gc_X6_isBetween _ (Nat.le_of_ble_eq_true rfl) (Nat.le_of_ble_eq_true rfl)) (Or.inl tw1139) tw1140 rfl (Nat.le_of_ble_eq_true rfl) (c2 := 0) (s2 := 0) rfl rfl (Nat.le_of_ble_eq_true rfl) (Nat.le_of_ble_eq_true rfl) rfl (kIp (fun r_3 hw => ?_)) tNo
    refine g_if_ne C dX6_summary_22 (tgt := 31) (by decide) (fun c22 => ?_) (fun c22 => ?_)
    · have hw := hw.1 c22
      refine g_aload_n C dX6_summary_31 0 rfl rfl ?_
      refine g_iload_n C dX6_summary_32 1 rfl rfl ?_
      refine g_cV C dX6_summary_33 (met_X6_isThere C.st hw) (gc_X6_isThere _ (Nat.le_of_ble_eq_true rfl) (Nat.le_of_ble_eq_true rfl)) tw1152 tw1154 twp31 (ci := 6) rfl (by decide) hk0 rfl (Nat.le_of_ble_eq_true rfl) (c2 := 0) (s2 := 0) rfl rfl (Nat.le_of_ble_eq_true rfl) (Nat.le_of_ble_eq_true rfl) rfl (kIp (fun r_5 hw => ?_)) tNo
      refine g_if_ne C dX6_summary_36 (tgt := 45) (by decide) (fun c36 => ?_) (fun c36 => ?_)
      · have hw := hw.1 c36
        refine g_aload_n C dX6_summary_45 0 rfl rfl ?_
        refine g_iconst C dX6_summary_46 (v := 0) rfl ?_
        refine pf_RX6_57 C hk0 dX6_summary_47 ?_
        refine g_nmM (fun M_7 eM_7 => ?_)
        have hw := hw M_7 eM_7
        refine g_aload_n C dX6_summary_50 0 rfl rfl ?_
        refine g_iload_n C dX6_summary_51 1 rfl rfl ?_
        refine g_cV C dX6_summary_52 (met_X6_finds C.st hw) (gc_X6_finds _ (Nat.le_of_ble_eq_true rfl) (Nat.le_of_ble_eq_true rfl)) tw1216 tw1218 twp40 (ci := 6) rfl (by decide) hk0 rfl (Nat.le_of_ble_eq_true rfl) (c2 := 0) (s2 := 0) rfl rfl (Nat.le_of_ble_eq_true rfl) (Nat.le_of_ble_eq_true rfl) rfl (kV (fun M_9 hw => ?_)) tNo
        refine g_iload_n C dX6_summary_55 2 rfl rfl ?_
        rcases sw_cases p2 7 (by decide) with c56 | ⟨i56, hi56, c56⟩
        · have hw := hw.1 c56
          refine g_tableOut C dX6_summary_56 c56 (tgt := 152) (by decide) ?_
          refine g_aload_n C dX6_summary_152 0 rfl rfl ?_
          refine g_iload_n C dX6_summary_153 1 rfl rfl ?_
          refine g_cV C dX6_summary_154 (met_X6_keys C.st hw) (gc_X6_keys _ (Nat.le_of_ble_eq_true rfl) (Nat.le_of_ble_eq_true rfl)) tw1251 tw1253 twp47 (ci := 6) rfl (by decide) hk0 rfl (Nat.le_of_ble_eq_true rfl) (c2 := 0) (s2 := 0) rfl rfl (Nat.le_of_ble_eq_true rfl) (Nat.le_of_ble_eq_true rfl) rfl (kIp (fun r_10 hw => ?_)) tNo
          exact g_iret C dX6_summary_157 (Nat.le_of_ble_eq_true rfl) (Nat.le_of_ble_eq_true rfl) ⟨_, rfl, hw⟩
        · rcases (show i56 = 0 ∨ i56 = 1 ∨ i56 = 2 ∨ i56 = 3 ∨ i56 = 4 ∨ i56 = 5 ∨ i56 = 6 by omega) with rfl | rfl | rfl | rfl | rfl | rfl | rfl
          · have hw := hw.2.1 c56
            refine g_tableIn C dX6_summary_56 (by rw [c56]; decide) (by rw [c56]; decide) (off := 44) (by rw [c56]; rfl) (tgt := 100) (by decide) ?_
            refine g_aload_n C dX6_summary_100 0 rfl rfl ?_
            refine g_iload_n C dX6_summary_101 1 rfl rfl ?_
            refine g_iconst C dX6_summary_102 (v := 1) rfl ?_
            refine g_cV C dX6_summary_103 (met_X6_of C.st hw) (gc_X6_of _ (Nat.le_of_ble_eq_true rfl) (Nat.le_of_ble_eq_true rfl)) tw1160 tw1162 twp33 (ci := 6) rfl (by decide) hk0 rfl (Nat.le_of_ble_eq_true rfl) (c2 := 0) (s2 := 0) rfl rfl (Nat.le_of_ble_eq_true rfl) (Nat.le_of_ble_eq_true rfl) rfl (kIp (fun r_12 hw => ?_)) tNo
            exact g_iret C dX6_summary_106 (Nat.le_of_ble_eq_true rfl) (Nat.le_of_ble_eq_true rfl) ⟨_, rfl, hw⟩
          · have hw := hw.2.2.1 c56
            refine g_tableIn C dX6_summary_56 (by rw [c56]; decide) (by rw [c56]; decide) (off := 51) (by rw [c56]; rfl) (tgt := 107) (by decide) ?_
            refine g_aload_n C dX6_summary_107 0 rfl rfl ?_
            refine g_iload_n C dX6_summary_108 1 rfl rfl ?_
            refine g_iconst C dX6_summary_109 (v := 2) rfl ?_
            refine g_cV C dX6_summary_110 (met_X6_of C.st hw) (gc_X6_of _ (Nat.le_of_ble_eq_true rfl) (Nat.le_of_ble_eq_true rfl)) tw1160 tw1162 twp33 (ci := 6) rfl (by decide) hk0 rfl (Nat.le_of_ble_eq_true rfl) (c2 := 0) (s2 := 0) rfl rfl (Nat.le_of_ble_eq_true rfl) (Nat.le_of_ble_eq_true rfl) rfl (kIp (fun r_14 hw => ?_)) tNo
            exact g_iret C dX6_summary_113 (Nat.le_of_ble_eq_true rfl) (Nat.le_of_ble_eq_true rfl) ⟨_, rfl, hw⟩
          · have hw := hw.2.2.2.1 c56
            refine g_tableIn C dX6_summary_56 (by rw [c56]; decide) (by rw [c56]; decide) (off := 58) (by rw [c56]; rfl) (tgt := 114) (by decide) ?_
            refine g_aload_n C dX6_summary_114 0 rfl rfl ?_
            refine g_iload_n C dX6_summary_115 1 rfl rfl ?_
            refine g_iconst C dX6_summary_116 (v := 3) rfl ?_
            refine g_cV C dX6_summary_117 (met_X6_of C.st hw) (gc_X6_of _ (Nat.le_of_ble_eq_true rfl) (Nat.le_of_ble_eq_true rfl)) tw1160 tw1162 twp33 (ci := 6) rfl (by decide) hk0 rfl (Nat.le_of_ble_eq_true rfl) (c2 := 0) (s2 := 0) rfl rfl (Nat.le_of_ble_eq_true rfl) (Nat.le_of_ble_eq_true rfl) rfl (kIp (fun r_16 hw => ?_)) tNo
            exact g_iret C dX6_summary_120 (Nat.le_of_ble_eq_true rfl) (Nat.le_of_ble_eq_true rfl) ⟨_, rfl, hw⟩
          · have hw := hw.2.2.2.2.1 c56
            refine g_tableIn C dX6_summary_56 (by rw [c56]; decide) (by rw [c56]; decide) (off := 65) (by rw [c56]; rfl) (tgt := 121) (by decide) ?_
            refine g_aload_n C dX6_summary_121 0 rfl rfl ?_
            refine g_iload_n C dX6_summary_122 1 rfl rfl ?_
            refine g_iconst C dX6_summary_123 (v := 4) rfl ?_
            refine g_cV C dX6_summary_124 (met_X6_of C.st hw) (gc_X6_of _ (Nat.le_of_ble_eq_true rfl) (Nat.le_of_ble_eq_true rfl)) tw1160 tw1162 twp33 (ci := 6) rfl (by decide) hk0 rfl (Nat.le_of_ble_eq_true rfl) (c2 := 0) (s2 := 0) rfl rfl (Nat.le_of_ble_eq_true rfl) (Nat.le_of_ble_eq_true rfl) rfl (kIp (fun r_18 hw => ?_)) tNo
            exact g_iret C dX6_summary_127 (Nat.le_of_ble_eq_true rfl) (Nat.le_of_ble_eq_true rfl) ⟨_, rfl, hw⟩
          · have hw := hw.2.2.2.2.2.1 c56
            refine g_tableIn C dX6_summary_56 (by rw [c56]; decide) (by rw [c56]; decide) (off := 72) (by rw [c56]; rfl) (tgt := 128) (by decide) ?_
            refine g_aload_n C dX6_summary_128 0 rfl rfl ?_
            refine g_iload_n C dX6_summary_129 1 rfl rfl ?_
            refine g_cV C dX6_summary_130 (met_X6_many C.st hw) (gc_X6_many _ (Nat.le_of_ble_eq_true rfl) (Nat.le_of_ble_eq_true rfl)) tw1156 tw1158 twp32 (ci := 6) rfl (by decide) hk0 rfl (Nat.le_of_ble_eq_true rfl) (c2 := 0) (s2 := 0) rfl rfl (Nat.le_of_ble_eq_true rfl) (Nat.le_of_ble_eq_true rfl) rfl (kIp (fun r_20 hw => ?_)) tNo
            exact g_iret C dX6_summary_133 (Nat.le_of_ble_eq_true rfl) (Nat.le_of_ble_eq_true rfl) ⟨_, rfl, hw⟩
          · have hw := hw.2.2.2.2.2.2.1 c56
            refine g_tableIn C dX6_summary_56 (by rw [c56]; decide) (by rw [c56]; decide) (off := 78) (by rw [c56]; rfl) (tgt := 134) (by decide) ?_
            refine g_aload_n C dX6_summary_134 0 rfl rfl ?_
            refine gf_RX6_160 C hk0 dX6_summary_135 ?_
            exact g_iret C dX6_summary_138 (Nat.le_of_ble_eq_true rfl) (Nat.le_of_ble_eq_true rfl) ⟨_, rfl, hw⟩
          · have hw := hw.2.2.2.2.2.2.2 c56
            refine g_tableIn C dX6_summary_56 (by rw [c56]; decide) (by rw [c56]; decide) (off := 83) (by rw [c56]; rfl) (tgt := 139) (by decide) ?_
            refine g_aload_n C dX6_summary_139 0 rfl rfl ?_
            refine g_cV C dX6_summary_140 (met_X6_isComplete C.st hw) (gc_X6_isComplete _ (Nat.le_of_ble_eq_true rfl) (Nat.le_of_ble_eq_true rfl)) tw1247 tw1249 twp46 (ci := 6) rfl (by decide) hk0 rfl (Nat.le_of_ble_eq_true rfl) (c2 := 0) (s2 := 0) rfl rfl (Nat.le_of_ble_eq_true rfl) (Nat.le_of_ble_eq_true rfl) rfl (kIp (fun r_22 hw => ?_)) tNo
            refine g_if_eq C dX6_summary_143 (tgt := 150) (by decide) (fun c143 => ?_) (fun c143 => ?_)
            · have hw := hw.1 c143
              refine g_iconst C dX6_summary_150 (v := 0) rfl ?_
              exact g_iret C dX6_summary_151 (Nat.le_of_ble_eq_true rfl) (Nat.le_of_ble_eq_true rfl) ⟨_, rfl, hw⟩
            · have hw := hw.2 c143
              refine g_iconst C dX6_summary_146 (v := 1) rfl ?_
              refine g_goto C dX6_summary_147 (tgt := 151) (by decide) ?_
              exact g_iret C dX6_summary_151 (Nat.le_of_ble_eq_true rfl) (Nat.le_of_ble_eq_true rfl) ⟨_, rfl, hw⟩
      · have hw := hw.2 c36
        refine g_aload_n C dX6_summary_39 0 rfl rfl ?_
        refine g_iconst C dX6_summary_40 (v := 3) rfl ?_
        refine g_cV C dX6_summary_41 (met_X6_fails C.st hw) (gc_X6_fails _ (Nat.le_of_ble_eq_true rfl) (Nat.le_of_ble_eq_true rfl)) tw1131 tw1133 twp28 (ci := 6) rfl (by decide) hk0 rfl (Nat.le_of_ble_eq_true rfl) (c2 := 0) (s2 := 0) rfl rfl (Nat.le_of_ble_eq_true rfl) (Nat.le_of_ble_eq_true rfl) rfl (kI (fun r_24 M_25 hw => ?_)) tNo
        exact g_iret C dX6_summary_44 (Nat.le_of_ble_eq_true rfl) (Nat.le_of_ble_eq_true rfl) ⟨_, rfl, hw⟩
    · have hw := hw.2 c22
      refine g_aload_n C dX6_summary_25 0 rfl rfl ?_
      refine g_iconst C dX6_summary_26 (v := 2) rfl ?_
      refine g_cV C dX6_summary_27 (met_X6_fails C.st hw) (gc_X6_fails _ (Nat.le_of_ble_eq_true rfl) (Nat.le_of_ble_eq_true rfl)) tw1131 tw1133 twp28 (ci := 6) rfl (by decide) hk0 rfl (Nat.le_of_ble_eq_true rfl) (c2 := 0) (s2 := 0) rfl rfl (Nat.le_of_ble_eq_true rfl) (Nat.le_of_ble_eq_true rfl) rfl (kI (fun r_26 M_27 hw => ?_)) tNo
      exact g_iret C dX6_summary_30 (Nat.le_of_ble_eq_true rfl) (Nat.le_of_ble_eq_true rfl) ⟨_, rfl, hw⟩
  · have hw := hw.2 c4
    refine g_aload_n C dX6_summary_7 0 rfl rfl ?_
    refine g_iconst C dX6_summary_8 (v := 1) rfl ?_
    refine g_cV C dX6_summary_9 (met_X6_fails C.st hw) (gc_X6_fails _ (Nat.le_of_ble_eq_true rfl) (Nat.le_of_ble_eq_true rfl)) tw1131 tw1133 twp28 (ci := 6) rfl (by decide) hk0 rfl (Nat.le_of_ble_eq_true rfl) (c2 := 0) (s2 := 0) rfl rfl (Nat.le_of_ble_eq_true rfl) (Nat.le_of_ble_eq_true rfl) rfl (kI (fun r_28 M_29 hw => ?_)) tNo
    exact g_iret C dX6_summary_12 (Nat.le_of_ble_eq_true rfl) (Nat.le_of_ble_eq_true rfl) ⟨_, rfl, hw⟩
theorem gc_X6_summary : ∀ rm : Room, rmX6_summary.frames + 1 ≤ rm.frames → 8 + (3 + 11) + rmX6_summary.locals ≤ rm.locals → gCall yX6_summary 3 2 rmX6_summary rm := fun rm a b => ⟨Or.inl ⟨_, _, tw1214⟩, tw8, ⟨by decide, by decide⟩, by decide, a, b⟩
abbrev rmX6_setQuota : Room := { frames := 1, cells := 0, slots := 0, locals := 25 }
def wp_X6_setQuota (o : Nat) (p1 : Int32) (p2 : Int32) (p3 : Int32) (M : MEM) (Q : Int32 → MEM → Prop) : Prop := KD o = (16, 0) ∧ (wp_X6_isSlot p1 M (fun r_1 => (r_1 = 0 → (wp_X6_fails o 1 M (fun r_3 M_4 => Q r_3 M_4))) ∧ (¬ r_1 = 0 → (wp_X6_isStratum p2 M (fun r_5 => (¬ r_5 = 0 → (wp_X6_isBetween p3.toInt64 0 12 M (fun r_7 => (¬ r_7 = 0 → (wp_X6_isThere o p1 M (fun r_9 => (¬ r_9 = 0 → ((∀ M_11 : MEM, M_11 = uI M o 0 0 → (wp_X6_remembers o M_11 (fun M_13 => wp_X6_of o p1 (5 + p2) M_13 (fun r_14 => wp_X6_sets o p1 (5 + p2) p3 M_13 (fun M_17 => Q r_14 M_17))))))) ∧ (r_9 = 0 → (wp_X6_fails o 3 M (fun r_18 M_19 => Q r_18 M_19)))))) ∧ (r_7 = 0 → (wp_X6_fails o 2 M (fun r_20 M_21 => Q r_20 M_21)))))) ∧ (r_5 = 0 → (wp_X6_fails o 1 M (fun r_22 M_23 => Q r_22 M_23))))))))
set_option maxRecDepth 100000 in
set_option maxHeartbeats 4000000 in
theorem met_X6_setQuota {l : Launch} (hl : l.stackTraces = false) {E : MK} {o : Nat} {p1 : Int32} {p2 : Int32} {p3 : Int32} {M : MEM} {Q : Int32 → MEM → Prop} (hw : wp_X6_setQuota o p1 p2 p3 M Q) : gMet l E yX6_setQuota rmX6_setQuota [gR E o, .int p1, .int p2, .int p3] M (qI Q) gNo := by
  obtain ⟨hk0, hw⟩ := hw
  refine g_met hl (cc := cX6_setQuota) (maxL := 5) (ret := (some .int)) (hh := []) (loc := [(0, gR E o), (1, .int p1), (2, .int p2), (3, .int p3)]) (by decide +kernel) (Or.inl ⟨tw1258, rfl⟩) (Nat.le_of_ble_eq_true rfl) rfl (fun K hK C => ?_)
  have C : GC K E cX6_setQuota RX6 5 (some .int) [] rmX6_setQuota := C
  refine g_iload_n C dX6_setQuota_0 1 rfl rfl ?_
  refine g_cS C dX6_setQuota_1 (met_X6_isSlot C.st hw) (gc_X6_isSlot _ (Nat.le_of_ble_eq_true rfl) (Nat.le_of_ble_eq_true rfl)) (Or.inl tw1128) tw1129 rfl (Nat.le_of_ble_eq_true rfl) (c2 := 0) (s2 := 0) rfl rfl (Nat.le_of_ble_eq_true rfl) (Nat.le_of_ble_eq_true rfl) rfl (kIp (fun r_1 hw => ?_)) tNo
  refine g_if_eq C dX6_setQuota_4 (tgt := 14) (by decide) (fun c4 => ?_) (fun c4 => ?_)
  · have hw := hw.1 c4
    refine g_aload_n C dX6_setQuota_14 0 rfl rfl ?_
    refine g_iconst C dX6_setQuota_15 (v := 1) rfl ?_
    refine g_cV C dX6_setQuota_16 (met_X6_fails C.st hw) (gc_X6_fails _ (Nat.le_of_ble_eq_true rfl) (Nat.le_of_ble_eq_true rfl)) tw1131 tw1133 twp28 (ci := 6) rfl (by decide) hk0 rfl (Nat.le_of_ble_eq_true rfl) (c2 := 0) (s2 := 0) rfl rfl (Nat.le_of_ble_eq_true rfl) (Nat.le_of_ble_eq_true rfl) rfl (kI (fun r_3 M_4 hw => ?_)) tNo
    exact g_iret C dX6_setQuota_19 (Nat.le_of_ble_eq_true rfl) (Nat.le_of_ble_eq_true rfl) ⟨_, rfl, hw⟩
  · have hw := hw.2 c4
    refine g_iload_n C dX6_setQuota_7 2 rfl rfl ?_
    refine g_cS C dX6_setQuota_8 (met_X6_isStratum C.st hw) (gc_X6_isStratum _ (Nat.le_of_ble_eq_true rfl) (Nat.le_of_ble_eq_true rfl)) (Or.inl tw1184) tw1185 rfl (Nat.le_of_ble_eq_true rfl) (c2 := 0) (s2 := 0) rfl rfl (Nat.le_of_ble_eq_true rfl) (Nat.le_of_ble_eq_true rfl) rfl (kIp (fun r_5 hw => ?_)) tNo
    refine g_if_ne C dX6_setQuota_11 (tgt := 20) (by decide) (fun c11 => ?_) (fun c11 => ?_)
    · have hw := hw.1 c11
      refine g_iload_n C dX6_setQuota_20 3 rfl rfl ?_
      refine g_i2l C dX6_setQuota_21 ?_
      refine g_lconst C dX6_setQuota_22 (v := 0) rfl ?_
      refine g_ldc2 C dX6_setQuota_23 tw1142 ?_
      refine g_cS C dX6_setQuota_26 (met_X6_isBetween C.st hw) (gc_X6_isBetween _ (Nat.le_of_ble_eq_true rfl) (Nat.le_of_ble_eq_true rfl)) (Or.inl tw1139) tw1140 rfl (Nat.le_of_ble_eq_true rfl) (c2 := 0) (s2 := 0) rfl rfl (Nat.le_of_ble_eq_true rfl) (Nat.le_of_ble_eq_true rfl) rfl (kIp (fun r_7 hw => ?_)) tNo
      refine g_if_ne C dX6_setQuota_29 (tgt := 38) (by decide) (fun c29 => ?_) (fun c29 => ?_)
      · have hw := hw.1 c29
        refine g_aload_n C dX6_setQuota_38 0 rfl rfl ?_
        refine g_iload_n C dX6_setQuota_39 1 rfl rfl ?_
        refine g_cV C dX6_setQuota_40 (met_X6_isThere C.st hw) (gc_X6_isThere _ (Nat.le_of_ble_eq_true rfl) (Nat.le_of_ble_eq_true rfl)) tw1152 tw1154 twp31 (ci := 6) rfl (by decide) hk0 rfl (Nat.le_of_ble_eq_true rfl) (c2 := 0) (s2 := 0) rfl rfl (Nat.le_of_ble_eq_true rfl) (Nat.le_of_ble_eq_true rfl) rfl (kIp (fun r_9 hw => ?_)) tNo
        refine g_if_ne C dX6_setQuota_43 (tgt := 52) (by decide) (fun c43 => ?_) (fun c43 => ?_)
        · have hw := hw.1 c43
          refine g_aload_n C dX6_setQuota_52 0 rfl rfl ?_
          refine g_iconst C dX6_setQuota_53 (v := 0) rfl ?_
          refine pf_RX6_57 C hk0 dX6_setQuota_54 ?_
          refine g_nmM (fun M_11 eM_11 => ?_)
          have hw := hw M_11 eM_11
          refine g_aload_n C dX6_setQuota_57 0 rfl rfl ?_
          refine g_cV C dX6_setQuota_58 (met_X6_remembers C.st hw) (gc_X6_remembers _ (Nat.le_of_ble_eq_true rfl) (Nat.le_of_ble_eq_true rfl)) tw1144 tw1146 twp29 (ci := 6) rfl (by decide) hk0 rfl (Nat.le_of_ble_eq_true rfl) (c2 := 0) (s2 := 0) rfl rfl (Nat.le_of_ble_eq_true rfl) (Nat.le_of_ble_eq_true rfl) rfl (kV (fun M_13 hw => ?_)) tNo
          refine g_aload_n C dX6_setQuota_61 0 rfl rfl ?_
          refine g_iload_n C dX6_setQuota_62 1 rfl rfl ?_
          refine g_iconst C dX6_setQuota_63 (v := 5) rfl ?_
          refine g_iload_n C dX6_setQuota_64 2 rfl rfl ?_
          refine g_iadd C dX6_setQuota_65 ?_
          refine g_cV C dX6_setQuota_66 (met_X6_of C.st hw) (gc_X6_of _ (Nat.le_of_ble_eq_true rfl) (Nat.le_of_ble_eq_true rfl)) tw1160 tw1162 twp33 (ci := 6) rfl (by decide) hk0 rfl (Nat.le_of_ble_eq_true rfl) (c2 := 0) (s2 := 0) rfl rfl (Nat.le_of_ble_eq_true rfl) (Nat.le_of_ble_eq_true rfl) rfl (kIp (fun r_14 hw => ?_)) tNo
          refine g_istore C dX6_setQuota_69 (Nat.le_of_ble_eq_true rfl) (loc' := [(4, .int r_14), (0, gR E o), (1, .int p1), (2, .int p2), (3, .int p3)]) rfl ?_
          refine g_aload_n C dX6_setQuota_71 1 rfl rfl ?_
          refine g_iload_n C dX6_setQuota_72 2 rfl rfl ?_
          refine g_iconst C dX6_setQuota_73 (v := 5) rfl ?_
          refine g_iload_n C dX6_setQuota_74 3 rfl rfl ?_
          refine g_iadd C dX6_setQuota_75 ?_
          refine g_iload_n C dX6_setQuota_76 4 rfl rfl ?_
          refine g_cV C dX6_setQuota_77 (met_X6_sets C.st hw) (gc_X6_sets _ (Nat.le_of_ble_eq_true rfl) (Nat.le_of_ble_eq_true rfl)) tw1168 tw1170 twp35 (ci := 6) rfl (by decide) hk0 rfl (Nat.le_of_ble_eq_true rfl) (c2 := 0) (s2 := 0) rfl rfl (Nat.le_of_ble_eq_true rfl) (Nat.le_of_ble_eq_true rfl) rfl (kV (fun M_17 hw => ?_)) tNo
          refine g_iload C (j := 0) dX6_setQuota_80 0 rfl ?_
          exact g_iret C dX6_setQuota_82 (Nat.le_of_ble_eq_true rfl) (Nat.le_of_ble_eq_true rfl) ⟨_, rfl, hw⟩
        · have hw := hw.2 c43
          refine g_aload_n C dX6_setQuota_46 0 rfl rfl ?_
          refine g_iconst C dX6_setQuota_47 (v := 3) rfl ?_
          refine g_cV C dX6_setQuota_48 (met_X6_fails C.st hw) (gc_X6_fails _ (Nat.le_of_ble_eq_true rfl) (Nat.le_of_ble_eq_true rfl)) tw1131 tw1133 twp28 (ci := 6) rfl (by decide) hk0 rfl (Nat.le_of_ble_eq_true rfl) (c2 := 0) (s2 := 0) rfl rfl (Nat.le_of_ble_eq_true rfl) (Nat.le_of_ble_eq_true rfl) rfl (kI (fun r_18 M_19 hw => ?_)) tNo
          exact g_iret C dX6_setQuota_51 (Nat.le_of_ble_eq_true rfl) (Nat.le_of_ble_eq_true rfl) ⟨_, rfl, hw⟩
      · have hw := hw.2 c29
        refine g_aload_n C dX6_setQuota_32 0 rfl rfl ?_
        refine g_iconst C dX6_setQuota_33 (v := 2) rfl ?_
        refine g_cV C dX6_setQuota_34 (met_X6_fails C.st hw) (gc_X6_fails _ (Nat.le_of_ble_eq_true rfl) (Nat.le_of_ble_eq_true rfl)) tw1131 tw1133 twp28 (ci := 6) rfl (by decide) hk0 rfl (Nat.le_of_ble_eq_true rfl) (c2 := 0) (s2 := 0) rfl rfl (Nat.le_of_ble_eq_true rfl) (Nat.le_of_ble_eq_true rfl) rfl (kI (fun r_20 M_21 hw => ?_)) tNo
        exact g_iret C dX6_setQuota_37 (Nat.le_of_ble_eq_true rfl) (Nat.le_of_ble_eq_true rfl) ⟨_, rfl, hw⟩
    · have hw := hw.2 c11
      refine g_aload_n C dX6_setQuota_14 0 rfl rfl ?_
      refine g_iconst C dX6_setQuota_15 (v := 1) rfl ?_
      refine g_cV C dX6_setQuota_16 (met_X6_fails C.st hw) (gc_X6_fails _ (Nat.le_of_ble_eq_true rfl) (Nat.le_of_ble_eq_true rfl)) tw1131 tw1133 twp28 (ci := 6) rfl (by decide) hk0 rfl (Nat.le_of_ble_eq_true rfl) (c2 := 0) (s2 := 0) rfl rfl (Nat.le_of_ble_eq_true rfl) (Nat.le_of_ble_eq_true rfl) rfl (kI (fun r_22 M_23 hw => ?_)) tNo
      exact g_iret C dX6_setQuota_19 (Nat.le_of_ble_eq_true rfl) (Nat.le_of_ble_eq_true rfl) ⟨_, rfl, hw⟩
theorem gc_X6_setQuota : ∀ rm : Room, rmX6_setQuota.frames + 1 ≤ rm.frames → 8 + (5 + 11) + rmX6_setQuota.locals ≤ rm.locals → gCall yX6_setQuota 5 3 rmX6_setQuota rm := fun rm a b => ⟨Or.inl ⟨_, _, tw1258⟩, tw8, ⟨by decide, by decide⟩, by decide, a, b⟩
abbrev rmX6_allocate : Room := { frames := 2, cells := 0, slots := 0, locals := 43 }
def wp_X6_allocate_L243 (o : Nat) (p1 : Int32) (K231 : Int32 → MEM → Prop) (x5_22 : Int32) (M_23 : MEM) : Nat → Int32 → Int32 → Prop
  | 0, _, _ => False
  | n243 + 1, x6_26, x7_27 => (4 ≤ x7_27 → (wp_X6_of o p1 (5 + x6_26) M_23 (fun r_28 => wp_X6_sets o p1 (5 + x6_26) (r_28 + 1) M_23 (fun M_31 => (KD (RF o 8) = (0, 4) ∧ (vp_in x6_26 4 ∧ (∀ M_34 : MEM, M_34 = uI M_31 (RF o 8) x6_26.toNatClampNeg (-1) → (∀ x5_35 : Int32, x5_35 = x5_22 + 1 → (K231 x5_35 M_34))))))))) ∧ (¬ 4 ≤ x7_27 → (KD (RF o 8) = (0, 4) ∧ vp_in x7_27 4 ∧ (vp_in x6_26 4 ∧ (((mI M_23 (RF o 8) x7_27.toNatClampNeg) ≤ (mI M_23 (RF o 8) x6_26.toNatClampNeg) → (∀ x7_39 : Int32, x7_39 = x7_27 + 1 → ((wp_X6_allocate_L243 o p1 K231 x5_22 M_23 n243) x6_26 x7_39))) ∧ (¬ (mI M_23 (RF o 8) x7_27.toNatClampNeg) ≤ (mI M_23 (RF o 8) x6_26.toNatClampNeg) → (∀ x7_40 : Int32, x7_40 = x7_27 + 1 → ((wp_X6_allocate_L243 o p1 K231 x5_22 M_23 n243) x7_27 x7_40)))))))
def wp_X6_allocate_L231 (o : Nat) (p1 : Int32) (p2 : Int32) (Q : Int32 → MEM → Prop) : Nat → Int32 → MEM → Prop
  | 0, _, _ => False
  | n231 + 1, x5_22, M_23 => (p2 ≤ x5_22 → (wp_X6_of o p1 5 M_23 (fun r_24 => Q r_24 M_23))) ∧ (¬ p2 ≤ x5_22 → (∃ m243 : Nat, wp_X6_allocate_L243 o p1 (wp_X6_allocate_L231 o p1 p2 Q n231) x5_22 M_23 m243 0 1))
def wp_X6_allocate_L162 (o : Nat) (p1 : Int32) (p2 : Int32) (Q : Int32 → MEM → Prop) (x4_14 : Int32) : Nat → Int32 → Int32 → MEM → Prop
  | 0, _, _, _ => False
  | n162 + 1, x5_19, x6_20, M_21 => (4 ≤ x6_20 → (∃ m231 : Nat, wp_X6_allocate_L231 o p1 p2 Q m231 x5_19 M_21)) ∧ (¬ 4 ≤ x6_20 → (KD (RF o 7) = (0, 4) ∧ vp_in x6_20 4 ∧ (¬ x4_14 = 0 ∧ ((KD (RF o 8) = (0, 4) ∧ (vp_in x6_20 4 ∧ (∀ M_46 : MEM, M_46 = uI M_21 (RF o 8) x6_20.toNatClampNeg ((p2 * (mI M_21 (RF o 7) x6_20.toNatClampNeg)) - (p2 * (mI M_21 (RF o 7) x6_20.toNatClampNeg)) / x4_14 * x4_14) → (vp_in x6_20 4 ∧ (¬ x4_14 = 0 ∧ (wp_X6_sets o p1 (5 + x6_20) ((p2 * (mI M_46 (RF o 7) x6_20.toNatClampNeg)) / x4_14) M_46 (fun M_50 => vp_in x6_20 4 ∧ (¬ x4_14 = 0 ∧ (∀ x5_53 : Int32, x5_53 = x5_19 + ((p2 * (mI M_50 (RF o 7) x6_20.toNatClampNeg)) / x4_14) → (∀ x6_54 : Int32, x6_54 = x6_20 + 1 → ((wp_X6_allocate_L162 o p1 p2 Q x4_14 n162) x5_53 x6_54 M_50)))))))))))))))
def wp_X6_allocate_J123 (o : Nat) (p1 : Int32) (K97 : Int32 → Int32 → MEM → Prop) (x4_14 : Int32) (x5_15 : Int32) (M_16 : MEM) (s_55 : Int32) : Prop := wp_X6_item o p1 x5_15 2 M_16 (fun r_56 => KD (RF o 7) = (0, 4) ∧ vp_in r_56 4 ∧ ((vp_in r_56 4 ∧ (∀ M_61 : MEM, M_61 = uI M_16 (RF o 7) r_56.toNatClampNeg ((mI M_16 (RF o 7) r_56.toNatClampNeg) + s_55) → (∀ x4_62 : Int32, x4_62 = x4_14 + s_55 → (∀ x5_63 : Int32, x5_63 = x5_15 + 1 → (K97 x4_62 x5_63 M_61)))))))
def wp_X6_allocate_L97 (o : Nat) (p1 : Int32) (p2 : Int32) (p3 : Int32) (Q : Int32 → MEM → Prop) : Nat → Int32 → Int32 → MEM → Prop
  | 0, _, _, _ => False
  | n97 + 1, x4_14, x5_15, M_16 => wp_X6_many o p1 M_16 (fun r_17 => (r_17 ≤ x5_15 → (∃ m162 : Nat, wp_X6_allocate_L162 o p1 p2 Q x4_14 m162 0 0 M_16)) ∧ (¬ r_17 ≤ x5_15 → ((p3 = 0 → (wp_X6_allocate_J123 o p1 (wp_X6_allocate_L97 o p1 p2 p3 Q n97) x4_14 x5_15 M_16 1)) ∧ (¬ p3 = 0 → (wp_X6_item o p1 x5_15 3 M_16 (fun r_64 => wp_X6_allocate_J123 o p1 (wp_X6_allocate_L97 o p1 p2 p3 Q n97) x4_14 x5_15 M_16 r_64))))))
def wp_X6_allocate_L74 (o : Nat) (p1 : Int32) (p2 : Int32) (p3 : Int32) (Q : Int32 → MEM → Prop) : Nat → Int32 → MEM → Prop
  | 0, _, _ => False
  | n74 + 1, x5_12, M_13 => (4 ≤ x5_12 → (∃ m97 : Nat, wp_X6_allocate_L97 o p1 p2 p3 Q m97 0 0 M_13)) ∧ (¬ 4 ≤ x5_12 → ((KD (RF o 7) = (0, 4) ∧ (vp_in x5_12 4 ∧ (∀ M_68 : MEM, M_68 = uI M_13 (RF o 7) x5_12.toNatClampNeg 0 → (∀ x5_69 : Int32, x5_69 = x5_12 + 1 → ((wp_X6_allocate_L74 o p1 p2 p3 Q n74) x5_69 M_68)))))))
def wp_X6_allocate (o : Nat) (p1 : Int32) (p2 : Int32) (p3 : Int32) (M : MEM) (Q : Int32 → MEM → Prop) : Prop := KD o = (16, 0) ∧ (wp_X6_isSlot p1 M (fun r_1 => (¬ r_1 = 0 → (wp_X6_isBetween p2.toInt64 0 12 M (fun r_3 => (¬ r_3 = 0 → (wp_X6_isThere o p1 M (fun r_5 => (¬ r_5 = 0 → (wp_X6_many o p1 M (fun r_7 => (¬ r_7 = 0 → ((∀ M_9 : MEM, M_9 = uI M o 0 0 → (wp_X6_remembers o M_9 (fun M_11 => ∃ m74 : Nat, wp_X6_allocate_L74 o p1 p2 p3 Q m74 0 M_11))))) ∧ (r_7 = 0 → (wp_X6_fails o 4 M (fun r_70 M_71 => Q r_70 M_71)))))) ∧ (r_5 = 0 → (wp_X6_fails o 3 M (fun r_72 M_73 => Q r_72 M_73)))))) ∧ (r_3 = 0 → (wp_X6_fails o 2 M (fun r_74 M_75 => Q r_74 M_75)))))) ∧ (r_1 = 0 → (wp_X6_fails o 1 M (fun r_76 M_77 => Q r_76 M_77)))))
set_option maxRecDepth 100000 in
set_option maxHeartbeats 4000000 in
theorem met_X6_allocate {l : Launch} (hl : l.stackTraces = false) {E : MK} {o : Nat} {p1 : Int32} {p2 : Int32} {p3 : Int32} {M : MEM} {Q : Int32 → MEM → Prop} (hw : wp_X6_allocate o p1 p2 p3 M Q) : gMet l E yX6_allocate rmX6_allocate [gR E o, .int p1, .int p2, .int p3] M (qI Q) gNo := by
  obtain ⟨hk0, hw⟩ := hw
  refine g_met hl (cc := cX6_allocate) (maxL := 8) (ret := (some .int)) (hh := []) (loc := [(0, gR E o), (1, .int p1), (2, .int p2), (3, .int p3)]) (by decide +kernel) (Or.inl ⟨tw1262, rfl⟩) (Nat.le_of_ble_eq_true rfl) rfl (fun K hK C => ?_)
  have C : GC K E cX6_allocate RX6 8 (some .int) [] rmX6_allocate := C
  refine g_iload_n C dX6_allocate_0 1 rfl rfl ?_
  refine g_cS C dX6_allocate_1 (met_X6_isSlot C.st hw) (gc_X6_isSlot _ (Nat.le_of_ble_eq_true rfl) (Nat.le_of_ble_eq_true rfl)) (Or.inl tw1128) tw1129 rfl (Nat.le_of_ble_eq_true rfl) (c2 := 0) (s2 := 0) rfl rfl (Nat.le_of_ble_eq_true rfl) (Nat.le_of_ble_eq_true rfl) rfl (kIp (fun r_1 hw => ?_)) tNo
  refine g_if_ne C dX6_allocate_4 (tgt := 13) (by decide) (fun c4 => ?_) (fun c4 => ?_)
  · have hw := hw.1 c4
    refine g_iload_n C dX6_allocate_13 2 rfl rfl ?_
    refine g_i2l C dX6_allocate_14 ?_
    refine g_lconst C dX6_allocate_15 (v := 0) rfl ?_
    refine g_ldc2 C dX6_allocate_16 tw1142 ?_
    refine g_cS C dX6_allocate_19 (met_X6_isBetween C.st hw) (gc_X6_isBetween _ (Nat.le_of_ble_eq_true rfl) (Nat.le_of_ble_eq_true rfl)) (Or.inl tw1139) tw1140 rfl (Nat.le_of_ble_eq_true rfl) (c2 := 0) (s2 := 0) rfl rfl (Nat.le_of_ble_eq_true rfl) (Nat.le_of_ble_eq_true rfl) rfl (kIp (fun r_3 hw => ?_)) tNo
    refine g_if_ne C dX6_allocate_22 (tgt := 31) (by decide) (fun c22 => ?_) (fun c22 => ?_)
    · have hw := hw.1 c22
      refine g_aload_n C dX6_allocate_31 0 rfl rfl ?_
      refine g_iload_n C dX6_allocate_32 1 rfl rfl ?_
      refine g_cV C dX6_allocate_33 (met_X6_isThere C.st hw) (gc_X6_isThere _ (Nat.le_of_ble_eq_true rfl) (Nat.le_of_ble_eq_true rfl)) tw1152 tw1154 twp31 (ci := 6) rfl (by decide) hk0 rfl (Nat.le_of_ble_eq_true rfl) (c2 := 0) (s2 := 0) rfl rfl (Nat.le_of_ble_eq_true rfl) (Nat.le_of_ble_eq_true rfl) rfl (kIp (fun r_5 hw => ?_)) tNo
      refine g_if_ne C dX6_allocate_36 (tgt := 45) (by decide) (fun c36 => ?_) (fun c36 => ?_)
      · have hw := hw.1 c36
        refine g_aload_n C dX6_allocate_45 0 rfl rfl ?_
        refine g_iload_n C dX6_allocate_46 1 rfl rfl ?_
        refine g_cV C dX6_allocate_47 (met_X6_many C.st hw) (gc_X6_many _ (Nat.le_of_ble_eq_true rfl) (Nat.le_of_ble_eq_true rfl)) tw1156 tw1158 twp32 (ci := 6) rfl (by decide) hk0 rfl (Nat.le_of_ble_eq_true rfl) (c2 := 0) (s2 := 0) rfl rfl (Nat.le_of_ble_eq_true rfl) (Nat.le_of_ble_eq_true rfl) rfl (kIp (fun r_7 hw => ?_)) tNo
        refine g_if_ne C dX6_allocate_50 (tgt := 59) (by decide) (fun c50 => ?_) (fun c50 => ?_)
        · have hw := hw.1 c50
          refine g_aload_n C dX6_allocate_59 0 rfl rfl ?_
          refine g_iconst C dX6_allocate_60 (v := 0) rfl ?_
          refine pf_RX6_57 C hk0 dX6_allocate_61 ?_
          refine g_nmM (fun M_9 eM_9 => ?_)
          have hw := hw M_9 eM_9
          refine g_aload_n C dX6_allocate_64 0 rfl rfl ?_
          refine g_cV C dX6_allocate_65 (met_X6_remembers C.st hw) (gc_X6_remembers _ (Nat.le_of_ble_eq_true rfl) (Nat.le_of_ble_eq_true rfl)) tw1144 tw1146 twp29 (ci := 6) rfl (by decide) hk0 rfl (Nat.le_of_ble_eq_true rfl) (c2 := 0) (s2 := 0) rfl rfl (Nat.le_of_ble_eq_true rfl) (Nat.le_of_ble_eq_true rfl) rfl (kV (fun M_11 hw => ?_)) tNo
          refine g_iconst C dX6_allocate_68 (v := 0) rfl ?_
          refine g_istore C dX6_allocate_69 (Nat.le_of_ble_eq_true rfl) (loc' := [(4, .int 0), (0, gR E o), (1, .int p1), (2, .int p2), (3, .int p3)]) rfl ?_
          refine g_iconst C dX6_allocate_71 (v := 0) rfl ?_
          refine g_istore C dX6_allocate_72 (Nat.le_of_ble_eq_true rfl) (loc' := [(5, .int 0), (4, .int 0), (0, gR E o), (1, .int p1), (2, .int p2), (3, .int p3)]) rfl ?_
          obtain ⟨m74, hw⟩ := hw
          have hL74 : ∀ (n74 : Nat) (x5_12 : Int32) (M_13 : MEM), wp_X6_allocate_L74 o p1 p2 p3 Q n74 x5_12 M_13 → GX K E 8 M_13 [(0, gR E o), (1, .int p1), (2, .int p2), (3, .int p3), (4, .int 0), (5, .int x5_12)] [] 74 0 0 (gEnd K E (qI Q) gNo rmX6_allocate.cells rmX6_allocate.slots) := by
            intro n74
            induction n74 with
            | zero => intro _ _ hw; exact False.elim hw
            | succ n74 ih74 =>
              intro x5_12 M_13 hw
              refine g_iload C (j := 0) dX6_allocate_74 5 rfl ?_
              refine g_iconst C dX6_allocate_76 (v := 4) rfl ?_
              refine g_icmp_ge C dX6_allocate_77 (tgt := 94) (by decide) (fun c77 => ?_) (fun c77 => ?_)
              · have hw := hw.1 c77
                refine g_iconst C dX6_allocate_94 (v := 0) rfl ?_
                refine g_istore C dX6_allocate_95 (Nat.le_of_ble_eq_true rfl) (loc' := [(5, .int 0), (0, gR E o), (1, .int p1), (2, .int p2), (3, .int p3), (4, .int 0)]) rfl ?_
                obtain ⟨m97, hw⟩ := hw
                have hL97 : ∀ (n97 : Nat) (x4_14 : Int32) (x5_15 : Int32) (M_16 : MEM), wp_X6_allocate_L97 o p1 p2 p3 Q n97 x4_14 x5_15 M_16 → GX K E 8 M_16 [(0, gR E o), (1, .int p1), (2, .int p2), (3, .int p3), (4, .int x4_14), (5, .int x5_15)] [] 97 0 0 (gEnd K E (qI Q) gNo rmX6_allocate.cells rmX6_allocate.slots) := by
                  intro n97
                  induction n97 with
                  | zero => intro _ _ _ hw; exact False.elim hw
                  | succ n97 ih97 =>
                    intro x4_14 x5_15 M_16 hw
                    refine g_iload C (j := 0) dX6_allocate_97 5 rfl ?_
                    refine g_aload_n C dX6_allocate_99 0 rfl rfl ?_
                    refine g_iload_n C dX6_allocate_100 1 rfl rfl ?_
                    refine g_cV C dX6_allocate_101 (met_X6_many C.st hw) (gc_X6_many _ (Nat.le_of_ble_eq_true rfl) (Nat.le_of_ble_eq_true rfl)) tw1156 tw1158 twp32 (ci := 6) rfl (by decide) hk0 rfl (Nat.le_of_ble_eq_true rfl) (c2 := 0) (s2 := 0) rfl rfl (Nat.le_of_ble_eq_true rfl) (Nat.le_of_ble_eq_true rfl) rfl (kIp (fun r_17 hw => ?_)) tNo
                    refine g_icmp_ge C dX6_allocate_104 (tgt := 156) (by decide) (fun c104 => ?_) (fun c104 => ?_)
                    · have hw := hw.1 c104
                      refine g_iconst C dX6_allocate_156 (v := 0) rfl ?_
                      refine g_istore C dX6_allocate_157 (Nat.le_of_ble_eq_true rfl) (loc' := [(5, .int 0), (0, gR E o), (1, .int p1), (2, .int p2), (3, .int p3), (4, .int x4_14)]) rfl ?_
                      refine g_iconst C dX6_allocate_159 (v := 0) rfl ?_
                      refine g_istore C dX6_allocate_160 (Nat.le_of_ble_eq_true rfl) (loc' := [(6, .int 0), (5, .int 0), (0, gR E o), (1, .int p1), (2, .int p2), (3, .int p3), (4, .int x4_14)]) rfl ?_
                      obtain ⟨m162, hw⟩ := hw
                      have hL162 : ∀ (n162 : Nat) (x5_19 : Int32) (x6_20 : Int32) (M_21 : MEM), wp_X6_allocate_L162 o p1 p2 Q x4_14 n162 x5_19 x6_20 M_21 → GX K E 8 M_21 [(0, gR E o), (1, .int p1), (2, .int p2), (4, .int x4_14), (5, .int x5_19), (6, .int x6_20)] [] 162 0 0 (gEnd K E (qI Q) gNo rmX6_allocate.cells rmX6_allocate.slots) := by
                        intro n162
                        induction n162 with
                        | zero => intro _ _ _ hw; exact False.elim hw
                        | succ n162 ih162 =>
                          intro x5_19 x6_20 M_21 hw
                          refine g_iload C (j := 0) dX6_allocate_162 5 rfl ?_
                          refine g_iconst C dX6_allocate_164 (v := 4) rfl ?_
                          refine g_icmp_ge C dX6_allocate_165 (tgt := 231) (by decide) (fun c165 => ?_) (fun c165 => ?_)
                          · have hw := hw.1 c165
                            obtain ⟨m231, hw⟩ := hw
                            have hL231 : ∀ (n231 : Nat) (x5_22 : Int32) (M_23 : MEM), wp_X6_allocate_L231 o p1 p2 Q n231 x5_22 M_23 → GX K E 8 M_23 [(0, gR E o), (1, .int p1), (2, .int p2), (5, .int x5_22)] [] 231 0 0 (gEnd K E (qI Q) gNo rmX6_allocate.cells rmX6_allocate.slots) := by
                              intro n231
                              induction n231 with
                              | zero => intro _ _ hw; exact False.elim hw
                              | succ n231 ih231 =>
                                intro x5_22 M_23 hw
                                refine g_iload C (j := 0) dX6_allocate_231 3 rfl ?_
                                refine g_iload_n C dX6_allocate_233 2 rfl rfl ?_
                                refine g_icmp_ge C dX6_allocate_234 (tgt := 315) (by decide) (fun c234 => ?_) (fun c234 => ?_)
                                · have hw := hw.1 c234
                                  refine g_aload_n C dX6_allocate_315 0 rfl rfl ?_
                                  refine g_iload_n C dX6_allocate_316 1 rfl rfl ?_
                                  refine g_iconst C dX6_allocate_317 (v := 5) rfl ?_
                                  refine g_cV C dX6_allocate_318 (met_X6_of C.st hw) (gc_X6_of _ (Nat.le_of_ble_eq_true rfl) (Nat.le_of_ble_eq_true rfl)) tw1160 tw1162 twp33 (ci := 6) rfl (by decide) hk0 rfl (Nat.le_of_ble_eq_true rfl) (c2 := 0) (s2 := 0) rfl rfl (Nat.le_of_ble_eq_true rfl) (Nat.le_of_ble_eq_true rfl) rfl (kIp (fun r_24 hw => ?_)) tNo
                                  exact g_iret C dX6_allocate_321 (Nat.le_of_ble_eq_true rfl) (Nat.le_of_ble_eq_true rfl) ⟨_, rfl, hw⟩
                                · have hw := hw.2 c234
                                  refine g_iconst C dX6_allocate_237 (v := 0) rfl ?_
                                  refine g_istore C dX6_allocate_238 (Nat.le_of_ble_eq_true rfl) (loc' := [(6, .int 0), (0, gR E o), (1, .int p1), (2, .int p2), (5, .int x5_22)]) rfl ?_
                                  refine g_iconst C dX6_allocate_240 (v := 1) rfl ?_
                                  refine g_istore C dX6_allocate_241 (Nat.le_of_ble_eq_true rfl) (loc' := [(7, .int 1), (6, .int 0), (0, gR E o), (1, .int p1), (2, .int p2), (5, .int x5_22)]) rfl ?_
                                  obtain ⟨m243, hw⟩ := hw
                                  have hL243 : ∀ (n243 : Nat) (x6_26 : Int32) (x7_27 : Int32), wp_X6_allocate_L243 o p1 (wp_X6_allocate_L231 o p1 p2 Q n231) x5_22 M_23 n243 x6_26 x7_27 → GX K E 8 M_23 [(0, gR E o), (1, .int p1), (2, .int p2), (5, .int x5_22), (6, .int x6_26), (7, .int x7_27)] [] 243 0 0 (gEnd K E (qI Q) gNo rmX6_allocate.cells rmX6_allocate.slots) := by
                                    intro n243
                                    induction n243 with
                                    | zero => intro _ _ hw; exact False.elim hw
                                    | succ n243 ih243 =>
                                      intro x6_26 x7_27 hw
                                      refine g_iload C (j := 0) dX6_allocate_243 5 rfl ?_
                                      refine g_iconst C dX6_allocate_245 (v := 4) rfl ?_
                                      refine g_icmp_ge C dX6_allocate_246 (tgt := 281) (by decide) (fun c246 => ?_) (fun c246 => ?_)
                                      · have hw := hw.1 c246
                                        refine g_aload_n C dX6_allocate_281 0 rfl rfl ?_
                                        refine g_iload_n C dX6_allocate_282 1 rfl rfl ?_
                                        refine g_iconst C dX6_allocate_283 (v := 5) rfl ?_
                                        refine g_iload C (j := 0) dX6_allocate_284 4 rfl ?_
                                        refine g_iadd C dX6_allocate_286 ?_
                                        refine g_aload_n C dX6_allocate_287 0 rfl rfl ?_
                                        refine g_iload_n C dX6_allocate_288 1 rfl rfl ?_
                                        refine g_iconst C dX6_allocate_289 (v := 5) rfl ?_
                                        refine g_iload C (j := 0) dX6_allocate_290 4 rfl ?_
                                        refine g_iadd C dX6_allocate_292 ?_
                                        refine g_cV C dX6_allocate_293 (met_X6_of C.st hw) (gc_X6_of _ (Nat.le_of_ble_eq_true rfl) (Nat.le_of_ble_eq_true rfl)) tw1160 tw1162 twp33 (ci := 6) rfl (by decide) hk0 rfl (Nat.le_of_ble_eq_true rfl) (c2 := 0) (s2 := 0) rfl rfl (Nat.le_of_ble_eq_true rfl) (Nat.le_of_ble_eq_true rfl) rfl (kIp (fun r_28 hw => ?_)) tNo
                                        refine g_iconst C dX6_allocate_296 (v := 1) rfl ?_
                                        refine g_iadd C dX6_allocate_297 ?_
                                        refine g_cV C dX6_allocate_298 (met_X6_sets C.st hw) (gc_X6_sets _ (Nat.le_of_ble_eq_true rfl) (Nat.le_of_ble_eq_true rfl)) tw1168 tw1170 twp35 (ci := 6) rfl (by decide) hk0 rfl (Nat.le_of_ble_eq_true rfl) (c2 := 0) (s2 := 0) rfl rfl (Nat.le_of_ble_eq_true rfl) (Nat.le_of_ble_eq_true rfl) rfl (kV (fun M_31 hw => ?_)) tNo
                                        refine g_aload_n C dX6_allocate_301 0 rfl rfl ?_
                                        refine gf_RX6_25 C hk0 dX6_allocate_302 ?_
                                        refine g_iload C (j := 0) dX6_allocate_305 4 rfl ?_
                                        refine g_iconst C dX6_allocate_307 (v := (-1)) rfl ?_
                                        obtain ⟨hk_32, hw⟩ := hw
                                        obtain ⟨hi_33, hw⟩ := hw
                                        refine g_iastore C hk_32 hi_33 dX6_allocate_308 ?_
                                        refine g_nmM (fun M_34 eM_34 => ?_)
                                        have hw := hw M_34 eM_34
                                        obtain ⟨x5_35, ex5_35⟩ : ∃ y : Int32, y = x5_22 + 1 := ⟨_, rfl⟩
                                        have hw := hw x5_35 ex5_35
                                        refine g_iinc C (j := 0) dX6_allocate_309 3 rfl (v := x5_35) (by rw [ex5_35]; rfl) (Nat.le_of_ble_eq_true rfl) (loc' := [(5, .int x5_35), (0, gR E o), (1, .int p1), (2, .int p2), (6, .int x6_26), (7, .int x7_27)]) rfl ?_
                                        refine g_goto C dX6_allocate_312 (tgt := 231) (by decide) ?_
                                        refine g_sub [1, 2, 3, 0] rfl ?_
                                        exact ih231 _ _ hw
                                      · have hw := hw.2 c246
                                        refine g_aload_n C dX6_allocate_249 0 rfl rfl ?_
                                        refine gf_RX6_25 C hk0 dX6_allocate_250 ?_
                                        refine g_iload C (j := 0) dX6_allocate_253 5 rfl ?_
                                        obtain ⟨hk_36, hw⟩ := hw
                                        obtain ⟨hi_37, hw⟩ := hw
                                        refine g_iaload C hk_36 hi_37 dX6_allocate_255 ?_
                                        refine g_aload_n C dX6_allocate_256 0 rfl rfl ?_
                                        refine gf_RX6_25 C hk0 dX6_allocate_257 ?_
                                        refine g_iload C (j := 0) dX6_allocate_260 4 rfl ?_
                                        obtain ⟨hi_38, hw⟩ := hw
                                        refine g_iaload C hk_36 hi_38 dX6_allocate_262 ?_
                                        refine g_icmp_le C dX6_allocate_263 (tgt := 271) (by decide) (fun c263 => ?_) (fun c263 => ?_)
                                        · have hw := hw.1 c263
                                          refine g_iload C (j := 0) dX6_allocate_271 4 rfl ?_
                                          refine g_istore C dX6_allocate_273 (Nat.le_of_ble_eq_true rfl) (loc' := [(6, .int x6_26), (0, gR E o), (1, .int p1), (2, .int p2), (5, .int x5_22), (7, .int x7_27)]) rfl ?_
                                          obtain ⟨x7_39, ex7_39⟩ : ∃ y : Int32, y = x7_27 + 1 := ⟨_, rfl⟩
                                          have hw := hw x7_39 ex7_39
                                          refine g_iinc C (j := 0) dX6_allocate_275 5 rfl (v := x7_39) (by rw [ex7_39]; rfl) (Nat.le_of_ble_eq_true rfl) (loc' := [(7, .int x7_39), (6, .int x6_26), (0, gR E o), (1, .int p1), (2, .int p2), (5, .int x5_22)]) rfl ?_
                                          refine g_goto C dX6_allocate_278 (tgt := 243) (by decide) ?_
                                          refine g_sub [2, 3, 4, 5, 1, 0] rfl ?_
                                          exact ih243 _ _ hw
                                        · have hw := hw.2 c263
                                          refine g_iload C (j := 0) dX6_allocate_266 5 rfl ?_
                                          refine g_goto C dX6_allocate_268 (tgt := 273) (by decide) ?_
                                          refine g_istore C dX6_allocate_273 (Nat.le_of_ble_eq_true rfl) (loc' := [(6, .int x7_27), (0, gR E o), (1, .int p1), (2, .int p2), (5, .int x5_22), (7, .int x7_27)]) rfl ?_
                                          obtain ⟨x7_40, ex7_40⟩ : ∃ y : Int32, y = x7_27 + 1 := ⟨_, rfl⟩
                                          have hw := hw x7_40 ex7_40
                                          refine g_iinc C (j := 0) dX6_allocate_275 5 rfl (v := x7_40) (by rw [ex7_40]; rfl) (Nat.le_of_ble_eq_true rfl) (loc' := [(7, .int x7_40), (6, .int x7_27), (0, gR E o), (1, .int p1), (2, .int p2), (5, .int x5_22)]) rfl ?_
                                          refine g_goto C dX6_allocate_278 (tgt := 243) (by decide) ?_
                                          refine g_sub [2, 3, 4, 5, 1, 0] rfl ?_
                                          exact ih243 _ _ hw
                                  refine g_sub [2, 3, 4, 5, 1, 0] rfl ?_
                                  exact hL243 m243 _ _ hw
                            refine g_sub [0, 1, 2, 4] rfl ?_
                            exact hL231 m231 _ _ hw
                          · have hw := hw.2 c165
                            refine g_aload_n C dX6_allocate_168 0 rfl rfl ?_
                            refine gf_RX6_25 C hk0 dX6_allocate_169 ?_
                            refine g_iload C (j := 0) dX6_allocate_172 5 rfl ?_
                            refine g_iload_n C dX6_allocate_174 2 rfl rfl ?_
                            refine g_aload_n C dX6_allocate_175 0 rfl rfl ?_
                            refine gf_RX6_22 C hk0 dX6_allocate_176 ?_
                            refine g_iload C (j := 0) dX6_allocate_179 5 rfl ?_
                            obtain ⟨hk_41, hw⟩ := hw
                            obtain ⟨hi_42, hw⟩ := hw
                            refine g_iaload C hk_41 hi_42 dX6_allocate_181 ?_
                            refine g_imul C dX6_allocate_182 ?_
                            refine g_iload C (j := 0) dX6_allocate_183 3 rfl ?_
                            obtain ⟨hz_43, hw⟩ := hw
                            refine g_irem C dX6_allocate_185 hz_43 ?_
                            obtain ⟨hk_44, hw⟩ := hw
                            obtain ⟨hi_45, hw⟩ := hw
                            refine g_iastore C hk_44 hi_45 dX6_allocate_186 ?_
                            refine g_nmM (fun M_46 eM_46 => ?_)
                            have hw := hw M_46 eM_46
                            refine g_aload_n C dX6_allocate_187 0 rfl rfl ?_
                            refine g_iload_n C dX6_allocate_188 1 rfl rfl ?_
                            refine g_iconst C dX6_allocate_189 (v := 5) rfl ?_
                            refine g_iload C (j := 0) dX6_allocate_190 5 rfl ?_
                            refine g_iadd C dX6_allocate_192 ?_
                            refine g_iload_n C dX6_allocate_193 2 rfl rfl ?_
                            refine g_aload_n C dX6_allocate_194 0 rfl rfl ?_
                            refine gf_RX6_22 C hk0 dX6_allocate_195 ?_
                            refine g_iload C (j := 0) dX6_allocate_198 5 rfl ?_
                            obtain ⟨hi_47, hw⟩ := hw
                            refine g_iaload C hk_41 hi_47 dX6_allocate_200 ?_
                            refine g_imul C dX6_allocate_201 ?_
                            refine g_iload C (j := 0) dX6_allocate_202 3 rfl ?_
                            obtain ⟨hz_48, hw⟩ := hw
                            refine g_idiv C dX6_allocate_204 hz_48 ?_
                            refine g_cV C dX6_allocate_205 (met_X6_sets C.st hw) (gc_X6_sets _ (Nat.le_of_ble_eq_true rfl) (Nat.le_of_ble_eq_true rfl)) tw1168 tw1170 twp35 (ci := 6) rfl (by decide) hk0 rfl (Nat.le_of_ble_eq_true rfl) (c2 := 0) (s2 := 0) rfl rfl (Nat.le_of_ble_eq_true rfl) (Nat.le_of_ble_eq_true rfl) rfl (kV (fun M_50 hw => ?_)) tNo
                            refine g_iload C (j := 0) dX6_allocate_208 4 rfl ?_
                            refine g_iload_n C dX6_allocate_210 2 rfl rfl ?_
                            refine g_aload_n C dX6_allocate_211 0 rfl rfl ?_
                            refine gf_RX6_22 C hk0 dX6_allocate_212 ?_
                            refine g_iload C (j := 0) dX6_allocate_215 5 rfl ?_
                            obtain ⟨hi_51, hw⟩ := hw
                            refine g_iaload C hk_41 hi_51 dX6_allocate_217 ?_
                            refine g_imul C dX6_allocate_218 ?_
                            refine g_iload C (j := 0) dX6_allocate_219 3 rfl ?_
                            obtain ⟨hz_52, hw⟩ := hw
                            refine g_idiv C dX6_allocate_221 hz_52 ?_
                            refine g_iadd C dX6_allocate_222 ?_
                            refine g_nmI (fun x5_53 ex5_53 => ?_)
                            have hw := hw x5_53 ex5_53
                            refine g_istore C dX6_allocate_223 (Nat.le_of_ble_eq_true rfl) (loc' := [(5, .int x5_53), (0, gR E o), (1, .int p1), (2, .int p2), (4, .int x4_14), (6, .int x6_20)]) rfl ?_
                            obtain ⟨x6_54, ex6_54⟩ : ∃ y : Int32, y = x6_20 + 1 := ⟨_, rfl⟩
                            have hw := hw x6_54 ex6_54
                            refine g_iinc C (j := 0) dX6_allocate_225 5 rfl (v := x6_54) (by rw [ex6_54]; rfl) (Nat.le_of_ble_eq_true rfl) (loc' := [(6, .int x6_54), (5, .int x5_53), (0, gR E o), (1, .int p1), (2, .int p2), (4, .int x4_14)]) rfl ?_
                            refine g_goto C dX6_allocate_228 (tgt := 162) (by decide) ?_
                            refine g_sub [2, 3, 4, 5, 1, 0] rfl ?_
                            exact ih162 _ _ _ hw
                      refine g_sub [2, 3, 4, 6, 1, 0] rfl ?_
                      exact hL162 m162 _ _ _ hw
                    · have hw := hw.2 c104
                      refine g_iload_n C dX6_allocate_107 3 rfl rfl ?_
                      have hJ123 : ∀ (s_55 : Int32), wp_X6_allocate_J123 o p1 (wp_X6_allocate_L97 o p1 p2 p3 Q n97) x4_14 x5_15 M_16 s_55 → GX K E 8 M_16 [(0, gR E o), (1, .int p1), (2, .int p2), (3, .int p3), (4, .int x4_14), (5, .int x5_15)] [.int s_55] 123 0 0 (gEnd K E (qI Q) gNo rmX6_allocate.cells rmX6_allocate.slots) := by
                        intro s_55 hw
                        refine g_istore C dX6_allocate_123 (Nat.le_of_ble_eq_true rfl) (loc' := [(6, .int s_55), (0, gR E o), (1, .int p1), (2, .int p2), (3, .int p3), (4, .int x4_14), (5, .int x5_15)]) rfl ?_
                        refine g_aload_n C dX6_allocate_125 1 rfl rfl ?_
                        refine gf_RX6_22 C hk0 dX6_allocate_126 ?_
                        refine g_aload_n C dX6_allocate_129 1 rfl rfl ?_
                        refine g_iload_n C dX6_allocate_130 2 rfl rfl ?_
                        refine g_iload C (j := 0) dX6_allocate_131 6 rfl ?_
                        refine g_iconst C dX6_allocate_133 (v := 2) rfl ?_
                        refine g_cV C dX6_allocate_134 (met_X6_item C.st hw) (gc_X6_item _ (Nat.le_of_ble_eq_true rfl) (Nat.le_of_ble_eq_true rfl)) tw1197 tw1199 twp38 (ci := 6) rfl (by decide) hk0 rfl (Nat.le_of_ble_eq_true rfl) (c2 := 0) (s2 := 0) rfl rfl (Nat.le_of_ble_eq_true rfl) (Nat.le_of_ble_eq_true rfl) rfl (kIp (fun r_56 hw => ?_)) tNo
                        refine g_dup2 C dX6_allocate_137 rfl rfl ?_
                        obtain ⟨hk_58, hw⟩ := hw
                        obtain ⟨hi_59, hw⟩ := hw
                        refine g_iaload C hk_58 hi_59 dX6_allocate_138 ?_
                        refine g_iload C (j := 0) dX6_allocate_139 0 rfl ?_
                        refine g_iadd C dX6_allocate_141 ?_
                        obtain ⟨hi_60, hw⟩ := hw
                        refine g_iastore C hk_58 hi_60 dX6_allocate_142 ?_
                        refine g_nmM (fun M_61 eM_61 => ?_)
                        have hw := hw M_61 eM_61
                        refine g_iload C (j := 0) dX6_allocate_143 5 rfl ?_
                        refine g_iload C (j := 0) dX6_allocate_145 0 rfl ?_
                        refine g_iadd C dX6_allocate_147 ?_
                        refine g_nmI (fun x4_62 ex4_62 => ?_)
                        have hw := hw x4_62 ex4_62
                        refine g_istore C dX6_allocate_148 (Nat.le_of_ble_eq_true rfl) (loc' := [(4, .int x4_62), (6, .int s_55), (0, gR E o), (1, .int p1), (2, .int p2), (3, .int p3), (5, .int x5_15)]) rfl ?_
                        obtain ⟨x5_63, ex5_63⟩ : ∃ y : Int32, y = x5_15 + 1 := ⟨_, rfl⟩
                        have hw := hw x5_63 ex5_63
                        refine g_iinc C (j := 0) dX6_allocate_150 6 rfl (v := x5_63) (by rw [ex5_63]; rfl) (Nat.le_of_ble_eq_true rfl) (loc' := [(5, .int x5_63), (4, .int x4_62), (6, .int s_55), (0, gR E o), (1, .int p1), (2, .int p2), (3, .int p3)]) rfl ?_
                        refine g_goto C dX6_allocate_153 (tgt := 97) (by decide) ?_
                        refine g_sub [3, 4, 5, 6, 1, 0] rfl ?_
                        exact ih97 _ _ _ hw
                      refine g_if_eq C dX6_allocate_108 (tgt := 122) (by decide) (fun c108 => ?_) (fun c108 => ?_)
                      · have hw := hw.1 c108
                        refine g_iconst C dX6_allocate_122 (v := 1) rfl ?_
                        exact hJ123 _ hw
                      · have hw := hw.2 c108
                        refine g_aload_n C dX6_allocate_111 0 rfl rfl ?_
                        refine g_iload_n C dX6_allocate_112 1 rfl rfl ?_
                        refine g_iload C (j := 0) dX6_allocate_113 5 rfl ?_
                        refine g_iconst C dX6_allocate_115 (v := 3) rfl ?_
                        refine g_cV C dX6_allocate_116 (met_X6_item C.st hw) (gc_X6_item _ (Nat.le_of_ble_eq_true rfl) (Nat.le_of_ble_eq_true rfl)) tw1197 tw1199 twp38 (ci := 6) rfl (by decide) hk0 rfl (Nat.le_of_ble_eq_true rfl) (c2 := 0) (s2 := 0) rfl rfl (Nat.le_of_ble_eq_true rfl) (Nat.le_of_ble_eq_true rfl) rfl (kIp (fun r_64 hw => ?_)) tNo
                        refine g_goto C dX6_allocate_119 (tgt := 123) (by decide) ?_
                        exact hJ123 _ hw
                refine g_sub [1, 2, 3, 4, 5, 0] rfl ?_
                exact hL97 m97 _ _ _ hw
              · have hw := hw.2 c77
                refine g_aload_n C dX6_allocate_80 0 rfl rfl ?_
                refine gf_RX6_22 C hk0 dX6_allocate_81 ?_
                refine g_iload C (j := 0) dX6_allocate_84 5 rfl ?_
                refine g_iconst C dX6_allocate_86 (v := 0) rfl ?_
                obtain ⟨hk_66, hw⟩ := hw
                obtain ⟨hi_67, hw⟩ := hw
                refine g_iastore C hk_66 hi_67 dX6_allocate_87 ?_
                refine g_nmM (fun M_68 eM_68 => ?_)
                have hw := hw M_68 eM_68
                obtain ⟨x5_69, ex5_69⟩ : ∃ y : Int32, y = x5_12 + 1 := ⟨_, rfl⟩
                have hw := hw x5_69 ex5_69
                refine g_iinc C (j := 0) dX6_allocate_88 5 rfl (v := x5_69) (by rw [ex5_69]; rfl) (Nat.le_of_ble_eq_true rfl) (loc' := [(5, .int x5_69), (0, gR E o), (1, .int p1), (2, .int p2), (3, .int p3), (4, .int 0)]) rfl ?_
                refine g_goto C dX6_allocate_91 (tgt := 74) (by decide) ?_
                refine g_sub [1, 2, 3, 4, 5, 0] rfl ?_
                exact ih74 _ _ hw
          refine g_sub [2, 3, 4, 5, 1, 0] rfl ?_
          exact hL74 m74 _ _ hw
        · have hw := hw.2 c50
          refine g_aload_n C dX6_allocate_53 0 rfl rfl ?_
          refine g_iconst C dX6_allocate_54 (v := 4) rfl ?_
          refine g_cV C dX6_allocate_55 (met_X6_fails C.st hw) (gc_X6_fails _ (Nat.le_of_ble_eq_true rfl) (Nat.le_of_ble_eq_true rfl)) tw1131 tw1133 twp28 (ci := 6) rfl (by decide) hk0 rfl (Nat.le_of_ble_eq_true rfl) (c2 := 0) (s2 := 0) rfl rfl (Nat.le_of_ble_eq_true rfl) (Nat.le_of_ble_eq_true rfl) rfl (kI (fun r_70 M_71 hw => ?_)) tNo
          exact g_iret C dX6_allocate_58 (Nat.le_of_ble_eq_true rfl) (Nat.le_of_ble_eq_true rfl) ⟨_, rfl, hw⟩
      · have hw := hw.2 c36
        refine g_aload_n C dX6_allocate_39 0 rfl rfl ?_
        refine g_iconst C dX6_allocate_40 (v := 3) rfl ?_
        refine g_cV C dX6_allocate_41 (met_X6_fails C.st hw) (gc_X6_fails _ (Nat.le_of_ble_eq_true rfl) (Nat.le_of_ble_eq_true rfl)) tw1131 tw1133 twp28 (ci := 6) rfl (by decide) hk0 rfl (Nat.le_of_ble_eq_true rfl) (c2 := 0) (s2 := 0) rfl rfl (Nat.le_of_ble_eq_true rfl) (Nat.le_of_ble_eq_true rfl) rfl (kI (fun r_72 M_73 hw => ?_)) tNo
        exact g_iret C dX6_allocate_44 (Nat.le_of_ble_eq_true rfl) (Nat.le_of_ble_eq_true rfl) ⟨_, rfl, hw⟩
    · have hw := hw.2 c22
      refine g_aload_n C dX6_allocate_25 0 rfl rfl ?_
      refine g_iconst C dX6_allocate_26 (v := 2) rfl ?_
      refine g_cV C dX6_allocate_27 (met_X6_fails C.st hw) (gc_X6_fails _ (Nat.le_of_ble_eq_true rfl) (Nat.le_of_ble_eq_true rfl)) tw1131 tw1133 twp28 (ci := 6) rfl (by decide) hk0 rfl (Nat.le_of_ble_eq_true rfl) (c2 := 0) (s2 := 0) rfl rfl (Nat.le_of_ble_eq_true rfl) (Nat.le_of_ble_eq_true rfl) rfl (kI (fun r_74 M_75 hw => ?_)) tNo
      exact g_iret C dX6_allocate_30 (Nat.le_of_ble_eq_true rfl) (Nat.le_of_ble_eq_true rfl) ⟨_, rfl, hw⟩
  · have hw := hw.2 c4
    refine g_aload_n C dX6_allocate_7 0 rfl rfl ?_
    refine g_iconst C dX6_allocate_8 (v := 1) rfl ?_
    refine g_cV C dX6_allocate_9 (met_X6_fails C.st hw) (gc_X6_fails _ (Nat.le_of_ble_eq_true rfl) (Nat.le_of_ble_eq_true rfl)) tw1131 tw1133 twp28 (ci := 6) rfl (by decide) hk0 rfl (Nat.le_of_ble_eq_true rfl) (c2 := 0) (s2 := 0) rfl rfl (Nat.le_of_ble_eq_true rfl) (Nat.le_of_ble_eq_true rfl) rfl (kI (fun r_76 M_77 hw => ?_)) tNo
    exact g_iret C dX6_allocate_12 (Nat.le_of_ble_eq_true rfl) (Nat.le_of_ble_eq_true rfl) ⟨_, rfl, hw⟩
theorem gc_X6_allocate : ∀ rm : Room, rmX6_allocate.frames + 1 ≤ rm.frames → 8 + (8 + 11) + rmX6_allocate.locals ≤ rm.locals → gCall yX6_allocate 8 3 rmX6_allocate rm := fun rm a b => ⟨Or.inl ⟨_, _, tw1262⟩, tw8, ⟨by decide, by decide⟩, by decide, a, b⟩
abbrev rmX6_quota : Room := { frames := 1, cells := 0, slots := 0, locals := 22 }
def wp_X6_quota (o : Nat) (p1 : Int32) (p2 : Int32) (M : MEM) (Q : Int32 → MEM → Prop) : Prop := KD o = (16, 0) ∧ (wp_X6_isSlot p1 M (fun r_1 => (r_1 = 0 → (wp_X6_fails o 1 M (fun r_3 M_4 => Q r_3 M_4))) ∧ (¬ r_1 = 0 → (wp_X6_isStratum p2 M (fun r_5 => (¬ r_5 = 0 → (wp_X6_isThere o p1 M (fun r_7 => (¬ r_7 = 0 → ((∀ M_9 : MEM, M_9 = uI M o 0 0 → (wp_X6_of o p1 (5 + p2) M_9 (fun r_10 => Q r_10 M_9))))) ∧ (r_7 = 0 → (wp_X6_fails o 2 M (fun r_12 M_13 => Q r_12 M_13)))))) ∧ (r_5 = 0 → (wp_X6_fails o 1 M (fun r_14 M_15 => Q r_14 M_15))))))))
set_option maxRecDepth 100000 in
set_option maxHeartbeats 4000000 in
theorem met_X6_quota {l : Launch} (hl : l.stackTraces = false) {E : MK} {o : Nat} {p1 : Int32} {p2 : Int32} {M : MEM} {Q : Int32 → MEM → Prop} (hw : wp_X6_quota o p1 p2 M Q) : gMet l E yX6_quota rmX6_quota [gR E o, .int p1, .int p2] M (qI Q) gNo := by
  obtain ⟨hk0, hw⟩ := hw
  refine g_met hl (cc := cX6_quota) (maxL := 3) (ret := (some .int)) (hh := []) (loc := [(0, gR E o), (1, .int p1), (2, .int p2)]) (by decide +kernel) (Or.inl ⟨tw1266, rfl⟩) (Nat.le_of_ble_eq_true rfl) rfl (fun K hK C => ?_)
  have C : GC K E cX6_quota RX6 3 (some .int) [] rmX6_quota := C
  refine g_iload_n C dX6_quota_0 1 rfl rfl ?_
  refine g_cS C dX6_quota_1 (met_X6_isSlot C.st hw) (gc_X6_isSlot _ (Nat.le_of_ble_eq_true rfl) (Nat.le_of_ble_eq_true rfl)) (Or.inl tw1128) tw1129 rfl (Nat.le_of_ble_eq_true rfl) (c2 := 0) (s2 := 0) rfl rfl (Nat.le_of_ble_eq_true rfl) (Nat.le_of_ble_eq_true rfl) rfl (kIp (fun r_1 hw => ?_)) tNo
  refine g_if_eq C dX6_quota_4 (tgt := 14) (by decide) (fun c4 => ?_) (fun c4 => ?_)
  · have hw := hw.1 c4
    refine g_aload_n C dX6_quota_14 0 rfl rfl ?_
    refine g_iconst C dX6_quota_15 (v := 1) rfl ?_
    refine g_cV C dX6_quota_16 (met_X6_fails C.st hw) (gc_X6_fails _ (Nat.le_of_ble_eq_true rfl) (Nat.le_of_ble_eq_true rfl)) tw1131 tw1133 twp28 (ci := 6) rfl (by decide) hk0 rfl (Nat.le_of_ble_eq_true rfl) (c2 := 0) (s2 := 0) rfl rfl (Nat.le_of_ble_eq_true rfl) (Nat.le_of_ble_eq_true rfl) rfl (kI (fun r_3 M_4 hw => ?_)) tNo
    exact g_iret C dX6_quota_19 (Nat.le_of_ble_eq_true rfl) (Nat.le_of_ble_eq_true rfl) ⟨_, rfl, hw⟩
  · have hw := hw.2 c4
    refine g_iload_n C dX6_quota_7 2 rfl rfl ?_
    refine g_cS C dX6_quota_8 (met_X6_isStratum C.st hw) (gc_X6_isStratum _ (Nat.le_of_ble_eq_true rfl) (Nat.le_of_ble_eq_true rfl)) (Or.inl tw1184) tw1185 rfl (Nat.le_of_ble_eq_true rfl) (c2 := 0) (s2 := 0) rfl rfl (Nat.le_of_ble_eq_true rfl) (Nat.le_of_ble_eq_true rfl) rfl (kIp (fun r_5 hw => ?_)) tNo
    refine g_if_ne C dX6_quota_11 (tgt := 20) (by decide) (fun c11 => ?_) (fun c11 => ?_)
    · have hw := hw.1 c11
      refine g_aload_n C dX6_quota_20 0 rfl rfl ?_
      refine g_iload_n C dX6_quota_21 1 rfl rfl ?_
      refine g_cV C dX6_quota_22 (met_X6_isThere C.st hw) (gc_X6_isThere _ (Nat.le_of_ble_eq_true rfl) (Nat.le_of_ble_eq_true rfl)) tw1152 tw1154 twp31 (ci := 6) rfl (by decide) hk0 rfl (Nat.le_of_ble_eq_true rfl) (c2 := 0) (s2 := 0) rfl rfl (Nat.le_of_ble_eq_true rfl) (Nat.le_of_ble_eq_true rfl) rfl (kIp (fun r_7 hw => ?_)) tNo
      refine g_if_ne C dX6_quota_25 (tgt := 34) (by decide) (fun c25 => ?_) (fun c25 => ?_)
      · have hw := hw.1 c25
        refine g_aload_n C dX6_quota_34 0 rfl rfl ?_
        refine g_iconst C dX6_quota_35 (v := 0) rfl ?_
        refine pf_RX6_57 C hk0 dX6_quota_36 ?_
        refine g_nmM (fun M_9 eM_9 => ?_)
        have hw := hw M_9 eM_9
        refine g_aload_n C dX6_quota_39 0 rfl rfl ?_
        refine g_iload_n C dX6_quota_40 1 rfl rfl ?_
        refine g_iconst C dX6_quota_41 (v := 5) rfl ?_
        refine g_iload_n C dX6_quota_42 2 rfl rfl ?_
        refine g_iadd C dX6_quota_43 ?_
        refine g_cV C dX6_quota_44 (met_X6_of C.st hw) (gc_X6_of _ (Nat.le_of_ble_eq_true rfl) (Nat.le_of_ble_eq_true rfl)) tw1160 tw1162 twp33 (ci := 6) rfl (by decide) hk0 rfl (Nat.le_of_ble_eq_true rfl) (c2 := 0) (s2 := 0) rfl rfl (Nat.le_of_ble_eq_true rfl) (Nat.le_of_ble_eq_true rfl) rfl (kIp (fun r_10 hw => ?_)) tNo
        exact g_iret C dX6_quota_47 (Nat.le_of_ble_eq_true rfl) (Nat.le_of_ble_eq_true rfl) ⟨_, rfl, hw⟩
      · have hw := hw.2 c25
        refine g_aload_n C dX6_quota_28 0 rfl rfl ?_
        refine g_iconst C dX6_quota_29 (v := 2) rfl ?_
        refine g_cV C dX6_quota_30 (met_X6_fails C.st hw) (gc_X6_fails _ (Nat.le_of_ble_eq_true rfl) (Nat.le_of_ble_eq_true rfl)) tw1131 tw1133 twp28 (ci := 6) rfl (by decide) hk0 rfl (Nat.le_of_ble_eq_true rfl) (c2 := 0) (s2 := 0) rfl rfl (Nat.le_of_ble_eq_true rfl) (Nat.le_of_ble_eq_true rfl) rfl (kI (fun r_12 M_13 hw => ?_)) tNo
        exact g_iret C dX6_quota_33 (Nat.le_of_ble_eq_true rfl) (Nat.le_of_ble_eq_true rfl) ⟨_, rfl, hw⟩
    · have hw := hw.2 c11
      refine g_aload_n C dX6_quota_14 0 rfl rfl ?_
      refine g_iconst C dX6_quota_15 (v := 1) rfl ?_
      refine g_cV C dX6_quota_16 (met_X6_fails C.st hw) (gc_X6_fails _ (Nat.le_of_ble_eq_true rfl) (Nat.le_of_ble_eq_true rfl)) tw1131 tw1133 twp28 (ci := 6) rfl (by decide) hk0 rfl (Nat.le_of_ble_eq_true rfl) (c2 := 0) (s2 := 0) rfl rfl (Nat.le_of_ble_eq_true rfl) (Nat.le_of_ble_eq_true rfl) rfl (kI (fun r_14 M_15 hw => ?_)) tNo
      exact g_iret C dX6_quota_19 (Nat.le_of_ble_eq_true rfl) (Nat.le_of_ble_eq_true rfl) ⟨_, rfl, hw⟩
theorem gc_X6_quota : ∀ rm : Room, rmX6_quota.frames + 1 ≤ rm.frames → 8 + (3 + 11) + rmX6_quota.locals ≤ rm.locals → gCall yX6_quota 3 2 rmX6_quota rm := fun rm a b => ⟨Or.inl ⟨_, _, tw1266⟩, tw8, ⟨by decide, by decide⟩, by decide, a, b⟩
abbrev rmX6_comes : Room := { frames := 1, cells := 0, slots := 0, locals := 23 }
def wp_X6_comes_L2 (o : Nat) (p1 : Int32) (p2 : Int32) (Q : MEM → Prop) : Nat → Int32 → MEM → Prop
  | 0, _, _ => False
  | n2 + 1, x3_1, M_2 => (5 ≤ x3_1 → ((∀ M_3 : MEM, M_3 = uI M_2 o 10 ((mI M_2 o 10) + 1) → (Q M_3)))) ∧ (¬ 5 ≤ x3_1 → (wp_X6_item o p1 p2 x3_1 M_2 (fun r_4 => (KD (RF o 9) = (0, 600) ∧ (vp_in ((5 * (mI M_2 o 10)) + x3_1) 600 ∧ (∀ M_8 : MEM, M_8 = uI M_2 (RF o 9) ((5 * (mI M_2 o 10)) + x3_1).toNatClampNeg r_4 → (∀ x3_9 : Int32, x3_9 = x3_1 + 1 → ((wp_X6_comes_L2 o p1 p2 Q n2) x3_9 M_8))))))))
def wp_X6_comes (o : Nat) (p1 : Int32) (p2 : Int32) (M : MEM) (Q : MEM → Prop) : Prop := KD o = (16, 0) ∧ (∃ m2 : Nat, wp_X6_comes_L2 o p1 p2 Q m2 0 M)
set_option maxRecDepth 100000 in
set_option maxHeartbeats 4000000 in
theorem met_X6_comes {l : Launch} (hl : l.stackTraces = false) {E : MK} {o : Nat} {p1 : Int32} {p2 : Int32} {M : MEM} {Q : MEM → Prop} (hw : wp_X6_comes o p1 p2 M Q) : gMet l E yX6_comes rmX6_comes [gR E o, .int p1, .int p2] M (qV Q) gNo := by
  obtain ⟨hk0, hw⟩ := hw
  refine g_met hl (cc := cX6_comes) (maxL := 4) (ret := none) (hh := []) (loc := [(0, gR E o), (1, .int p1), (2, .int p2)]) (by decide +kernel) (Or.inl ⟨tw1278, rfl⟩) (Nat.le_of_ble_eq_true rfl) rfl (fun K hK C => ?_)
  have C : GC K E cX6_comes RX6 4 none [] rmX6_comes := C
  refine g_iconst C dX6_comes_0 (v := 0) rfl ?_
  refine g_istore_n C dX6_comes_1 rfl (Nat.le_of_ble_eq_true rfl) (loc' := [(3, .int 0), (0, gR E o), (1, .int p1), (2, .int p2)]) rfl ?_
  obtain ⟨m2, hw⟩ := hw
  have hL2 : ∀ (n2 : Nat) (x3_1 : Int32) (M_2 : MEM), wp_X6_comes_L2 o p1 p2 Q n2 x3_1 M_2 → GX K E 4 M_2 [(0, gR E o), (1, .int p1), (2, .int p2), (3, .int x3_1)] [] 2 0 0 (gEnd K E (qV Q) gNo rmX6_comes.cells rmX6_comes.slots) := by
    intro n2
    induction n2 with
    | zero => intro _ _ hw; exact False.elim hw
    | succ n2 ih2 =>
      intro x3_1 M_2 hw
      refine g_iload_n C dX6_comes_2 3 rfl rfl ?_
      refine g_iconst C dX6_comes_3 (v := 5) rfl ?_
      refine g_icmp_ge C dX6_comes_4 (tgt := 33) (by decide) (fun c4 => ?_) (fun c4 => ?_)
      · have hw := hw.1 c4
        refine g_aload_n C dX6_comes_33 0 rfl rfl ?_
        refine g_dup C dX6_comes_34 rfl ?_
        refine gf_RX6_182 C hk0 dX6_comes_35 ?_
        refine g_iconst C dX6_comes_38 (v := 1) rfl ?_
        refine g_iadd C dX6_comes_39 ?_
        refine pf_RX6_182 C hk0 dX6_comes_40 ?_
        refine g_nmM (fun M_3 eM_3 => ?_)
        have hw := hw M_3 eM_3
        exact g_vret C dX6_comes_43 (Nat.le_of_ble_eq_true rfl) (Nat.le_of_ble_eq_true rfl) ⟨rfl, hw⟩
      · have hw := hw.2 c4
        refine g_aload_n C dX6_comes_7 0 rfl rfl ?_
        refine gf_RX6_28 C hk0 dX6_comes_8 ?_
        refine g_iconst C dX6_comes_11 (v := 5) rfl ?_
        refine g_aload_n C dX6_comes_12 0 rfl rfl ?_
        refine gf_RX6_182 C hk0 dX6_comes_13 ?_
        refine g_imul C dX6_comes_16 ?_
        refine g_iload_n C dX6_comes_17 3 rfl rfl ?_
        refine g_iadd C dX6_comes_18 ?_
        refine g_aload_n C dX6_comes_19 0 rfl rfl ?_
        refine g_iload_n C dX6_comes_20 1 rfl rfl ?_
        refine g_iload_n C dX6_comes_21 2 rfl rfl ?_
        refine g_iload_n C dX6_comes_22 3 rfl rfl ?_
        refine g_cV C dX6_comes_23 (met_X6_item C.st hw) (gc_X6_item _ (Nat.le_of_ble_eq_true rfl) (Nat.le_of_ble_eq_true rfl)) tw1197 tw1199 twp38 (ci := 6) rfl (by decide) hk0 rfl (Nat.le_of_ble_eq_true rfl) (c2 := 0) (s2 := 0) rfl rfl (Nat.le_of_ble_eq_true rfl) (Nat.le_of_ble_eq_true rfl) rfl (kIp (fun r_4 hw => ?_)) tNo
        obtain ⟨hk_6, hw⟩ := hw
        obtain ⟨hi_7, hw⟩ := hw
        refine g_iastore C hk_6 hi_7 dX6_comes_26 ?_
        refine g_nmM (fun M_8 eM_8 => ?_)
        have hw := hw M_8 eM_8
        obtain ⟨x3_9, ex3_9⟩ : ∃ y : Int32, y = x3_1 + 1 := ⟨_, rfl⟩
        have hw := hw x3_9 ex3_9
        refine g_iinc C (j := 0) dX6_comes_27 3 rfl (v := x3_9) (by rw [ex3_9]; rfl) (Nat.le_of_ble_eq_true rfl) (loc' := [(3, .int x3_9), (0, gR E o), (1, .int p1), (2, .int p2)]) rfl ?_
        refine g_goto C dX6_comes_30 (tgt := 2) (by decide) ?_
        refine g_sub [1, 2, 3, 0] rfl ?_
        exact ih2 _ _ hw
  refine g_sub [1, 2, 3, 0] rfl ?_
  exact hL2 m2 _ _ hw
theorem gc_X6_comes : ∀ rm : Room, rmX6_comes.frames + 1 ≤ rm.frames → 8 + (4 + 11) + rmX6_comes.locals ≤ rm.locals → gCall yX6_comes 4 2 rmX6_comes rm := fun rm a b => ⟨Or.inl ⟨_, _, tw1278⟩, tw8, ⟨by decide, by decide⟩, by decide, a, b⟩
abbrev rmX6_merges : Room := { frames := 2, cells := 0, slots := 0, locals := 46 }
def wp_X6_merges_J140 (K10 : Int32 → Int32 → MEM → Prop) (x4_3 : Int32) (s_9 : Int32) (x3_10 : Int32) (M_11 : MEM) (s_12 : Int32) : Prop := ∀ x3_13 : Int32, x3_13 = x3_10 + s_12 → ((s_9 = 0 → (∀ x4_14 : Int32, x4_14 = x4_3 + 0 → (K10 x3_13 x4_14 M_11))) ∧ (¬ s_9 = 0 → (∀ x4_15 : Int32, x4_15 = x4_3 + 1 → (K10 x3_13 x4_15 M_11))))
def wp_X6_merges_J129 (K10 : Int32 → Int32 → MEM → Prop) (x4_3 : Int32) (s_9 : Int32) (x3_10 : Int32) (M_11 : MEM) : Prop := (s_9 = 0 → (wp_X6_merges_J140 K10 x4_3 s_9 x3_10 M_11 1)) ∧ (¬ s_9 = 0 → (wp_X6_merges_J140 K10 x4_3 s_9 x3_10 M_11 0))
def wp_X6_merges_J108 (o : Nat) (p1 : Int32) (p2 : Int32) (K10 : Int32 → Int32 → MEM → Prop) (x4_3 : Int32) (M_4 : MEM) (s_9 : Int32) (x3_10 : Int32) : Prop := (s_9 = 0 → (wp_X6_comes o p1 x3_10 M_4 (fun M_17 => wp_X6_merges_J129 K10 x4_3 s_9 x3_10 M_17))) ∧ (¬ s_9 = 0 → (wp_X6_comes o p2 x4_3 M_4 (fun M_19 => wp_X6_merges_J129 K10 x4_3 s_9 x3_10 M_19)))
def wp_X6_merges_J71 (o : Nat) (p1 : Int32) (p2 : Int32) (K10 : Int32 → Int32 → MEM → Prop) (x3_2 : Int32) (x4_3 : Int32) (M_4 : MEM) (s_9 : Int32) : Prop := (s_9 = 0 → (wp_X6_merges_J108 o p1 p2 K10 x4_3 M_4 s_9 x3_2)) ∧ (¬ s_9 = 0 → (wp_X6_many o p1 M_4 (fun r_20 => (r_20 ≤ x3_2 → (wp_X6_merges_J108 o p1 p2 K10 x4_3 M_4 s_9 x3_2)) ∧ (¬ r_20 ≤ x3_2 → (wp_X6_item o p2 x4_3 0 M_4 (fun r_22 => wp_X6_item o p1 x3_2 0 M_4 (fun r_24 => (¬ r_22 = r_24 → (wp_X6_merges_J108 o p1 p2 K10 x4_3 M_4 s_9 x3_2)) ∧ (r_22 = r_24 → (∀ x3_26 : Int32, x3_26 = x3_2 + 1 → (wp_X6_merges_J108 o p1 p2 K10 x4_3 M_4 s_9 x3_26))))))))))
def wp_X6_merges_J66 (o : Nat) (p1 : Int32) (p2 : Int32) (K10 : Int32 → Int32 → MEM → Prop) (x3_2 : Int32) (x4_3 : Int32) (M_4 : MEM) : Prop := wp_X6_merges_J71 o p1 p2 K10 x3_2 x4_3 M_4 1
def wp_X6_merges_J70 (o : Nat) (p1 : Int32) (p2 : Int32) (K10 : Int32 → Int32 → MEM → Prop) (x3_2 : Int32) (x4_3 : Int32) (M_4 : MEM) : Prop := wp_X6_merges_J71 o p1 p2 K10 x3_2 x4_3 M_4 0
def wp_X6_merges_J29 (o : Nat) (p1 : Int32) (p2 : Int32) (K10 : Int32 → Int32 → MEM → Prop) (x3_2 : Int32) (x4_3 : Int32) (M_4 : MEM) : Prop := wp_X6_many o p1 M_4 (fun r_7 => (x3_2 = r_7 → (wp_X6_merges_J66 o p1 p2 K10 x3_2 x4_3 M_4)) ∧ (¬ x3_2 = r_7 → (wp_X6_many o p2 M_4 (fun r_27 => (r_27 ≤ x4_3 → (wp_X6_merges_J70 o p1 p2 K10 x3_2 x4_3 M_4)) ∧ (¬ r_27 ≤ x4_3 → (wp_X6_item o p2 x4_3 0 M_4 (fun r_29 => wp_X6_item o p1 x3_2 0 M_4 (fun r_31 => (r_31 < r_29 → (wp_X6_merges_J70 o p1 p2 K10 x3_2 x4_3 M_4)) ∧ (¬ r_31 < r_29 → (wp_X6_merges_J66 o p1 p2 K10 x3_2 x4_3 M_4))))))))))
def wp_X6_merges_L10 (o : Nat) (p1 : Int32) (p2 : Int32) (Q : MEM → Prop) : Nat → Int32 → Int32 → MEM → Prop
  | 0, _, _, _ => False
  | n10 + 1, x3_2, x4_3, M_4 => wp_X6_many o p1 M_4 (fun r_5 => (x3_2 < r_5 → (wp_X6_merges_J29 o p1 p2 (wp_X6_merges_L10 o p1 p2 Q n10) x3_2 x4_3 M_4)) ∧ (¬ x3_2 < r_5 → (wp_X6_many o p2 M_4 (fun r_33 => (r_33 ≤ x4_3 → (Q M_4)) ∧ (¬ r_33 ≤ x4_3 → (wp_X6_merges_J29 o p1 p2 (wp_X6_merges_L10 o p1 p2 Q n10) x3_2 x4_3 M_4))))))
def wp_X6_merges (o : Nat) (p1 : Int32) (p2 : Int32) (M : MEM) (Q : MEM → Prop) : Prop := KD o = (16, 0) ∧ ((∀ M_1 : MEM, M_1 = uI M o 10 0 → (∃ m10 : Nat, wp_X6_merges_L10 o p1 p2 Q m10 0 0 M_1)))
set_option maxRecDepth 100000 in
set_option maxHeartbeats 4000000 in
theorem met_X6_merges {l : Launch} (hl : l.stackTraces = false) {E : MK} {o : Nat} {p1 : Int32} {p2 : Int32} {M : MEM} {Q : MEM → Prop} (hw : wp_X6_merges o p1 p2 M Q) : gMet l E yX6_merges rmX6_merges [gR E o, .int p1, .int p2] M (qV Q) gNo := by
  obtain ⟨hk0, hw⟩ := hw
  refine g_met hl (cc := cX6_merges) (maxL := 6) (ret := none) (hh := []) (loc := [(0, gR E o), (1, .int p1), (2, .int p2)]) (by decide +kernel) (Or.inl ⟨tw1274, rfl⟩) (Nat.le_of_ble_eq_true rfl) rfl (fun K hK C => ?_)
  have C : GC K E cX6_merges RX6 6 none [] rmX6_merges := C
  refine g_aload_n C dX6_merges_0 0 rfl rfl ?_
  refine g_iconst C dX6_merges_1 (v := 0) rfl ?_
  refine pf_RX6_182 C hk0 dX6_merges_2 ?_
  refine g_nmM (fun M_1 eM_1 => ?_)
  have hw := hw M_1 eM_1
  refine g_iconst C dX6_merges_5 (v := 0) rfl ?_
  refine g_istore_n C dX6_merges_6 rfl (Nat.le_of_ble_eq_true rfl) (loc' := [(3, .int 0), (0, gR E o), (1, .int p1), (2, .int p2)]) rfl ?_
  refine g_iconst C dX6_merges_7 (v := 0) rfl ?_
  refine g_istore C dX6_merges_8 (Nat.le_of_ble_eq_true rfl) (loc' := [(4, .int 0), (3, .int 0), (0, gR E o), (1, .int p1), (2, .int p2)]) rfl ?_
  obtain ⟨m10, hw⟩ := hw
  have hL10 : ∀ (n10 : Nat) (x3_2 : Int32) (x4_3 : Int32) (M_4 : MEM), wp_X6_merges_L10 o p1 p2 Q n10 x3_2 x4_3 M_4 → GX K E 6 M_4 [(0, gR E o), (1, .int p1), (2, .int p2), (3, .int x3_2), (4, .int x4_3)] [] 10 0 0 (gEnd K E (qV Q) gNo rmX6_merges.cells rmX6_merges.slots) := by
    intro n10
    induction n10 with
    | zero => intro _ _ _ hw; exact False.elim hw
    | succ n10 ih10 =>
      intro x3_2 x4_3 M_4 hw
      refine g_iload_n C dX6_merges_10 3 rfl rfl ?_
      refine g_aload_n C dX6_merges_11 0 rfl rfl ?_
      refine g_iload_n C dX6_merges_12 1 rfl rfl ?_
      refine g_cV C dX6_merges_13 (met_X6_many C.st hw) (gc_X6_many _ (Nat.le_of_ble_eq_true rfl) (Nat.le_of_ble_eq_true rfl)) tw1156 tw1158 twp32 (ci := 6) rfl (by decide) hk0 rfl (Nat.le_of_ble_eq_true rfl) (c2 := 0) (s2 := 0) rfl rfl (Nat.le_of_ble_eq_true rfl) (Nat.le_of_ble_eq_true rfl) rfl (kIp (fun r_5 hw => ?_)) tNo
      have hJ29 : wp_X6_merges_J29 o p1 p2 (wp_X6_merges_L10 o p1 p2 Q n10) x3_2 x4_3 M_4 → GX K E 6 M_4 [(0, gR E o), (1, .int p1), (2, .int p2), (3, .int x3_2), (4, .int x4_3)] [] 29 0 0 (gEnd K E (qV Q) gNo rmX6_merges.cells rmX6_merges.slots) := by
        intro hw
        refine g_iload_n C dX6_merges_29 3 rfl rfl ?_
        refine g_aload_n C dX6_merges_30 0 rfl rfl ?_
        refine g_iload_n C dX6_merges_31 1 rfl rfl ?_
        refine g_cV C dX6_merges_32 (met_X6_many C.st hw) (gc_X6_many _ (Nat.le_of_ble_eq_true rfl) (Nat.le_of_ble_eq_true rfl)) tw1156 tw1158 twp32 (ci := 6) rfl (by decide) hk0 rfl (Nat.le_of_ble_eq_true rfl) (c2 := 0) (s2 := 0) rfl rfl (Nat.le_of_ble_eq_true rfl) (Nat.le_of_ble_eq_true rfl) rfl (kIp (fun r_7 hw => ?_)) tNo
        have hJ71 : ∀ (s_9 : Int32), wp_X6_merges_J71 o p1 p2 (wp_X6_merges_L10 o p1 p2 Q n10) x3_2 x4_3 M_4 s_9 → GX K E 6 M_4 [(0, gR E o), (1, .int p1), (2, .int p2), (3, .int x3_2), (4, .int x4_3)] [.int s_9] 71 0 0 (gEnd K E (qV Q) gNo rmX6_merges.cells rmX6_merges.slots) := by
          intro s_9 hw
          refine g_istore C dX6_merges_71 (Nat.le_of_ble_eq_true rfl) (loc' := [(5, .int s_9), (0, gR E o), (1, .int p1), (2, .int p2), (3, .int x3_2), (4, .int x4_3)]) rfl ?_
          refine g_iload C (j := 0) dX6_merges_73 0 rfl ?_
          have hJ108 : ∀ (x3_10 : Int32), wp_X6_merges_J108 o p1 p2 (wp_X6_merges_L10 o p1 p2 Q n10) x4_3 M_4 s_9 x3_10 → GX K E 6 M_4 [(0, gR E o), (1, .int p1), (2, .int p2), (3, .int x3_10), (4, .int x4_3), (5, .int s_9)] [] 108 0 0 (gEnd K E (qV Q) gNo rmX6_merges.cells rmX6_merges.slots) := by
            intro x3_10 hw
            refine g_iload C (j := 0) dX6_merges_108 5 rfl ?_
            have hJ129 : ∀ (M_11 : MEM), wp_X6_merges_J129 (wp_X6_merges_L10 o p1 p2 Q n10) x4_3 s_9 x3_10 M_11 → GX K E 6 M_11 [(0, gR E o), (1, .int p1), (2, .int p2), (3, .int x3_10), (4, .int x4_3), (5, .int s_9)] [] 129 0 0 (gEnd K E (qV Q) gNo rmX6_merges.cells rmX6_merges.slots) := by
              intro M_11 hw
              refine g_iload_n C dX6_merges_129 3 rfl rfl ?_
              refine g_iload C (j := 0) dX6_merges_130 5 rfl ?_
              have hJ140 : ∀ (s_12 : Int32), wp_X6_merges_J140 (wp_X6_merges_L10 o p1 p2 Q n10) x4_3 s_9 x3_10 M_11 s_12 → GX K E 6 M_11 [(0, gR E o), (1, .int p1), (2, .int p2), (4, .int x4_3), (5, .int s_9)] [.int s_12, .int x3_10] 140 0 0 (gEnd K E (qV Q) gNo rmX6_merges.cells rmX6_merges.slots) := by
                intro s_12 hw
                refine g_iadd C dX6_merges_140 ?_
                refine g_nmI (fun x3_13 ex3_13 => ?_)
                have hw := hw x3_13 ex3_13
                refine g_istore_n C dX6_merges_141 rfl (Nat.le_of_ble_eq_true rfl) (loc' := [(3, .int x3_13), (0, gR E o), (1, .int p1), (2, .int p2), (4, .int x4_3), (5, .int s_9)]) rfl ?_
                refine g_iload C (j := 0) dX6_merges_142 4 rfl ?_
                refine g_iload C (j := 0) dX6_merges_144 5 rfl ?_
                refine g_if_eq C dX6_merges_146 (tgt := 153) (by decide) (fun c146 => ?_) (fun c146 => ?_)
                · have hw := hw.1 c146
                  refine g_iconst C dX6_merges_153 (v := 0) rfl ?_
                  refine g_iadd C dX6_merges_154 ?_
                  refine g_nmI (fun x4_14 ex4_14 => ?_)
                  have hw := hw x4_14 ex4_14
                  refine g_istore C dX6_merges_155 (Nat.le_of_ble_eq_true rfl) (loc' := [(4, .int x4_14), (3, .int x3_13), (0, gR E o), (1, .int p1), (2, .int p2), (5, .int s_9)]) rfl ?_
                  refine g_goto C dX6_merges_157 (tgt := 10) (by decide) ?_
                  refine g_sub [2, 3, 4, 1, 0] rfl ?_
                  exact ih10 _ _ _ hw
                · have hw := hw.2 c146
                  refine g_iconst C dX6_merges_149 (v := 1) rfl ?_
                  refine g_goto C dX6_merges_150 (tgt := 154) (by decide) ?_
                  refine g_iadd C dX6_merges_154 ?_
                  refine g_nmI (fun x4_15 ex4_15 => ?_)
                  have hw := hw x4_15 ex4_15
                  refine g_istore C dX6_merges_155 (Nat.le_of_ble_eq_true rfl) (loc' := [(4, .int x4_15), (3, .int x3_13), (0, gR E o), (1, .int p1), (2, .int p2), (5, .int s_9)]) rfl ?_
                  refine g_goto C dX6_merges_157 (tgt := 10) (by decide) ?_
                  refine g_sub [2, 3, 4, 1, 0] rfl ?_
                  exact ih10 _ _ _ hw
              refine g_if_eq C dX6_merges_132 (tgt := 139) (by decide) (fun c132 => ?_) (fun c132 => ?_)
              · have hw := hw.1 c132
                refine g_iconst C dX6_merges_139 (v := 1) rfl ?_
                refine g_sub [0, 1, 2, 4, 5] rfl ?_
                exact hJ140 _ hw
              · have hw := hw.2 c132
                refine g_iconst C dX6_merges_135 (v := 0) rfl ?_
                refine g_goto C dX6_merges_136 (tgt := 140) (by decide) ?_
                refine g_sub [0, 1, 2, 4, 5] rfl ?_
                exact hJ140 _ hw
            refine g_if_eq C dX6_merges_110 (tgt := 123) (by decide) (fun c110 => ?_) (fun c110 => ?_)
            · have hw := hw.1 c110
              refine g_aload_n C dX6_merges_123 0 rfl rfl ?_
              refine g_iload_n C dX6_merges_124 1 rfl rfl ?_
              refine g_iload_n C dX6_merges_125 3 rfl rfl ?_
              refine g_cV C dX6_merges_126 (met_X6_comes C.st hw) (gc_X6_comes _ (Nat.le_of_ble_eq_true rfl) (Nat.le_of_ble_eq_true rfl)) tw1275 tw1277 twp49 (ci := 6) rfl (by decide) hk0 rfl (Nat.le_of_ble_eq_true rfl) (c2 := 0) (s2 := 0) rfl rfl (Nat.le_of_ble_eq_true rfl) (Nat.le_of_ble_eq_true rfl) rfl (kV (fun M_17 hw => ?_)) tNo
              exact hJ129 _ hw
            · have hw := hw.2 c110
              refine g_aload_n C dX6_merges_113 0 rfl rfl ?_
              refine g_iload_n C dX6_merges_114 2 rfl rfl ?_
              refine g_iload C (j := 0) dX6_merges_115 4 rfl ?_
              refine g_cV C dX6_merges_117 (met_X6_comes C.st hw) (gc_X6_comes _ (Nat.le_of_ble_eq_true rfl) (Nat.le_of_ble_eq_true rfl)) tw1275 tw1277 twp49 (ci := 6) rfl (by decide) hk0 rfl (Nat.le_of_ble_eq_true rfl) (c2 := 0) (s2 := 0) rfl rfl (Nat.le_of_ble_eq_true rfl) (Nat.le_of_ble_eq_true rfl) rfl (kV (fun M_19 hw => ?_)) tNo
              refine g_goto C dX6_merges_120 (tgt := 129) (by decide) ?_
              exact hJ129 _ hw
          refine g_if_eq C dX6_merges_75 (tgt := 108) (by decide) (fun c75 => ?_) (fun c75 => ?_)
          · have hw := hw.1 c75
            refine g_sub [1, 2, 3, 4, 5, 0] rfl ?_
            exact hJ108 _ hw
          · have hw := hw.2 c75
            refine g_iload_n C dX6_merges_78 4 rfl rfl ?_
            refine g_aload_n C dX6_merges_79 1 rfl rfl ?_
            refine g_iload_n C dX6_merges_80 2 rfl rfl ?_
            refine g_cV C dX6_merges_81 (met_X6_many C.st hw) (gc_X6_many _ (Nat.le_of_ble_eq_true rfl) (Nat.le_of_ble_eq_true rfl)) tw1156 tw1158 twp32 (ci := 6) rfl (by decide) hk0 rfl (Nat.le_of_ble_eq_true rfl) (c2 := 0) (s2 := 0) rfl rfl (Nat.le_of_ble_eq_true rfl) (Nat.le_of_ble_eq_true rfl) rfl (kIp (fun r_20 hw => ?_)) tNo
            refine g_icmp_ge C dX6_merges_84 (tgt := 108) (by decide) (fun c84 => ?_) (fun c84 => ?_)
            · have hw := hw.1 c84
              refine g_sub [1, 2, 3, 4, 5, 0] rfl ?_
              exact hJ108 _ hw
            · have hw := hw.2 c84
              refine g_aload_n C dX6_merges_87 1 rfl rfl ?_
              refine g_iload_n C dX6_merges_88 3 rfl rfl ?_
              refine g_iload C (j := 0) dX6_merges_89 5 rfl ?_
              refine g_iconst C dX6_merges_91 (v := 0) rfl ?_
              refine g_cV C dX6_merges_92 (met_X6_item C.st hw) (gc_X6_item _ (Nat.le_of_ble_eq_true rfl) (Nat.le_of_ble_eq_true rfl)) tw1197 tw1199 twp38 (ci := 6) rfl (by decide) hk0 rfl (Nat.le_of_ble_eq_true rfl) (c2 := 0) (s2 := 0) rfl rfl (Nat.le_of_ble_eq_true rfl) (Nat.le_of_ble_eq_true rfl) rfl (kIp (fun r_22 hw => ?_)) tNo
              refine g_aload_n C dX6_merges_95 1 rfl rfl ?_
              refine g_iload_n C dX6_merges_96 2 rfl rfl ?_
              refine g_iload_n C dX6_merges_97 4 rfl rfl ?_
              refine g_iconst C dX6_merges_98 (v := 0) rfl ?_
              refine g_cV C dX6_merges_99 (met_X6_item C.st hw) (gc_X6_item _ (Nat.le_of_ble_eq_true rfl) (Nat.le_of_ble_eq_true rfl)) tw1197 tw1199 twp38 (ci := 6) rfl (by decide) hk0 rfl (Nat.le_of_ble_eq_true rfl) (c2 := 0) (s2 := 0) rfl rfl (Nat.le_of_ble_eq_true rfl) (Nat.le_of_ble_eq_true rfl) rfl (kIp (fun r_24 hw => ?_)) tNo
              refine g_icmp_ne C dX6_merges_102 (tgt := 108) (by decide) (fun c102 => ?_) (fun c102 => ?_)
              · have hw := hw.1 c102
                refine g_sub [1, 2, 3, 4, 5, 0] rfl ?_
                exact hJ108 _ hw
              · have hw := hw.2 c102
                obtain ⟨x3_26, ex3_26⟩ : ∃ y : Int32, y = x3_2 + 1 := ⟨_, rfl⟩
                have hw := hw x3_26 ex3_26
                refine g_iinc C (j := 0) dX6_merges_105 4 rfl (v := x3_26) (by rw [ex3_26]; rfl) (Nat.le_of_ble_eq_true rfl) (loc' := [(3, .int x3_26), (5, .int s_9), (0, gR E o), (1, .int p1), (2, .int p2), (4, .int x4_3)]) rfl ?_
                refine g_sub [2, 3, 4, 0, 5, 1] rfl ?_
                exact hJ108 _ hw
        have hJ66 : wp_X6_merges_J66 o p1 p2 (wp_X6_merges_L10 o p1 p2 Q n10) x3_2 x4_3 M_4 → GX K E 6 M_4 [(0, gR E o), (1, .int p1), (2, .int p2), (3, .int x3_2), (4, .int x4_3)] [] 66 0 0 (gEnd K E (qV Q) gNo rmX6_merges.cells rmX6_merges.slots) := by
          intro hw
          refine g_iconst C dX6_merges_66 (v := 1) rfl ?_
          refine g_goto C dX6_merges_67 (tgt := 71) (by decide) ?_
          exact hJ71 _ hw
        refine g_icmp_eq C dX6_merges_35 (tgt := 66) (by decide) (fun c35 => ?_) (fun c35 => ?_)
        · have hw := hw.1 c35
          exact hJ66 hw
        · have hw := hw.2 c35
          refine g_iload C (j := 0) dX6_merges_38 4 rfl ?_
          refine g_aload_n C dX6_merges_40 0 rfl rfl ?_
          refine g_iload_n C dX6_merges_41 2 rfl rfl ?_
          refine g_cV C dX6_merges_42 (met_X6_many C.st hw) (gc_X6_many _ (Nat.le_of_ble_eq_true rfl) (Nat.le_of_ble_eq_true rfl)) tw1156 tw1158 twp32 (ci := 6) rfl (by decide) hk0 rfl (Nat.le_of_ble_eq_true rfl) (c2 := 0) (s2 := 0) rfl rfl (Nat.le_of_ble_eq_true rfl) (Nat.le_of_ble_eq_true rfl) rfl (kIp (fun r_27 hw => ?_)) tNo
          have hJ70 : wp_X6_merges_J70 o p1 p2 (wp_X6_merges_L10 o p1 p2 Q n10) x3_2 x4_3 M_4 → GX K E 6 M_4 [(0, gR E o), (1, .int p1), (2, .int p2), (3, .int x3_2), (4, .int x4_3)] [] 70 0 0 (gEnd K E (qV Q) gNo rmX6_merges.cells rmX6_merges.slots) := by
            intro hw
            refine g_iconst C dX6_merges_70 (v := 0) rfl ?_
            exact hJ71 _ hw
          refine g_icmp_ge C dX6_merges_45 (tgt := 70) (by decide) (fun c45 => ?_) (fun c45 => ?_)
          · have hw := hw.1 c45
            exact hJ70 hw
          · have hw := hw.2 c45
            refine g_aload_n C dX6_merges_48 0 rfl rfl ?_
            refine g_iload_n C dX6_merges_49 2 rfl rfl ?_
            refine g_iload C (j := 0) dX6_merges_50 4 rfl ?_
            refine g_iconst C dX6_merges_52 (v := 0) rfl ?_
            refine g_cV C dX6_merges_53 (met_X6_item C.st hw) (gc_X6_item _ (Nat.le_of_ble_eq_true rfl) (Nat.le_of_ble_eq_true rfl)) tw1197 tw1199 twp38 (ci := 6) rfl (by decide) hk0 rfl (Nat.le_of_ble_eq_true rfl) (c2 := 0) (s2 := 0) rfl rfl (Nat.le_of_ble_eq_true rfl) (Nat.le_of_ble_eq_true rfl) rfl (kIp (fun r_29 hw => ?_)) tNo
            refine g_aload_n C dX6_merges_56 0 rfl rfl ?_
            refine g_iload_n C dX6_merges_57 1 rfl rfl ?_
            refine g_iload_n C dX6_merges_58 3 rfl rfl ?_
            refine g_iconst C dX6_merges_59 (v := 0) rfl ?_
            refine g_cV C dX6_merges_60 (met_X6_item C.st hw) (gc_X6_item _ (Nat.le_of_ble_eq_true rfl) (Nat.le_of_ble_eq_true rfl)) tw1197 tw1199 twp38 (ci := 6) rfl (by decide) hk0 rfl (Nat.le_of_ble_eq_true rfl) (c2 := 0) (s2 := 0) rfl rfl (Nat.le_of_ble_eq_true rfl) (Nat.le_of_ble_eq_true rfl) rfl (kIp (fun r_31 hw => ?_)) tNo
            refine g_icmp_gt C dX6_merges_63 (tgt := 70) (by decide) (fun c63 => ?_) (fun c63 => ?_)
            · have hw := hw.1 c63
              exact hJ70 hw
            · have hw := hw.2 c63
              exact hJ66 hw
      refine g_icmp_lt C dX6_merges_16 (tgt := 29) (by decide) (fun c16 => ?_) (fun c16 => ?_)
      · have hw := hw.1 c16
        exact hJ29 hw
      · have hw := hw.2 c16
        refine g_iload C (j := 0) dX6_merges_19 4 rfl ?_
        refine g_aload_n C dX6_merges_21 0 rfl rfl ?_
        refine g_iload_n C dX6_merges_22 2 rfl rfl ?_
        refine g_cV C dX6_merges_23 (met_X6_many C.st hw) (gc_X6_many _ (Nat.le_of_ble_eq_true rfl) (Nat.le_of_ble_eq_true rfl)) tw1156 tw1158 twp32 (ci := 6) rfl (by decide) hk0 rfl (Nat.le_of_ble_eq_true rfl) (c2 := 0) (s2 := 0) rfl rfl (Nat.le_of_ble_eq_true rfl) (Nat.le_of_ble_eq_true rfl) rfl (kIp (fun r_33 hw => ?_)) tNo
        refine g_icmp_ge C dX6_merges_26 (tgt := 160) (by decide) (fun c26 => ?_) (fun c26 => ?_)
        · have hw := hw.1 c26
          exact g_vret C dX6_merges_160 (Nat.le_of_ble_eq_true rfl) (Nat.le_of_ble_eq_true rfl) ⟨rfl, hw⟩
        · have hw := hw.2 c26
          exact hJ29 hw
  refine g_sub [2, 3, 4, 1, 0] rfl ?_
  exact hL10 m10 _ _ _ hw
theorem gc_X6_merges : ∀ rm : Room, rmX6_merges.frames + 1 ≤ rm.frames → 8 + (6 + 11) + rmX6_merges.locals ≤ rm.locals → gCall yX6_merges 6 2 rmX6_merges rm := fun rm a b => ⟨Or.inl ⟨_, _, tw1274⟩, tw8, ⟨by decide, by decide⟩, by decide, a, b⟩
abbrev rmX6_merge : Room := { frames := 3, cells := 0, slots := 0, locals := 71 }
def wp_X6_merge_L145 (o : Nat) (p2 : Int32) (Q : Int32 → MEM → Prop) (s_21 : Int32) : Nat → Int32 → MEM → Prop
  | 0, _, _ => False
  | n145 + 1, x5_22, M_23 => ((mI M_23 o 10) ≤ x5_22 → (wp_X6_sets o p2 9 ((mI M_23 o 10) - s_21) M_23 (fun M_25 => wp_X6_many o p2 M_25 (fun r_26 => Q r_26 M_25)))) ∧ (¬ (mI M_23 o 10) ≤ x5_22 → (∀ x6_28 : Int32, x6_28 = 5 * x5_22 → (KD (RF o 9) = (0, 600) ∧ vp_in x6_28 600 ∧ (vp_in (x6_28 + 1) 600 ∧ (vp_in (x6_28 + 2) 600 ∧ (vp_in (x6_28 + 3) 600 ∧ (vp_in (x6_28 + 4) 600 ∧ (wp_X6_setsItem o p2 (x5_22 - s_21) (mI M_23 (RF o 9) x6_28.toNatClampNeg) (mI M_23 (RF o 9) (x6_28 + 1).toNatClampNeg) (mI M_23 (RF o 9) (x6_28 + 2).toNatClampNeg) (mI M_23 (RF o 9) (x6_28 + 3).toNatClampNeg) (mI M_23 (RF o 9) (x6_28 + 4).toNatClampNeg) M_23 (fun M_36 => ∀ x5_37 : Int32, x5_37 = x5_22 + 1 → ((wp_X6_merge_L145 o p2 Q s_21 n145) x5_37 M_36))))))))))
def wp_X6_merge_J139 (o : Nat) (p2 : Int32) (Q : Int32 → MEM → Prop) (M_20 : MEM) (s_21 : Int32) : Prop := ∃ m145 : Nat, wp_X6_merge_L145 o p2 Q s_21 m145 s_21 M_20
def wp_X6_merge_J138 (o : Nat) (p2 : Int32) (Q : Int32 → MEM → Prop) (M_20 : MEM) : Prop := wp_X6_merge_J139 o p2 Q M_20 0
def wp_X6_merge_J108 (o : Nat) (p2 : Int32) (Q : Int32 → MEM → Prop) (M_15 : MEM) (r_16 : Int32) : Prop := (∀ M_18 : MEM, M_18 = uI M_15 o 0 0 → (wp_X6_remembers o M_18 (fun M_20 => (r_16 ≤ 0 → (wp_X6_merge_J138 o p2 Q M_20)) ∧ (¬ r_16 ≤ 0 → (((mI M_20 o 10) ≤ r_16 → (wp_X6_merge_J138 o p2 Q M_20)) ∧ (¬ (mI M_20 o 10) ≤ r_16 → (wp_X6_merge_J139 o p2 Q M_20 ((mI M_20 o 10) - r_16))))))))
def wp_X6_merge_L44 (o : Nat) (p1 : Int32) (p2 : Int32) (M : MEM) (Q : Int32 → MEM → Prop) : Nat → Int32 → Prop
  | 0, _ => False
  | n44 + 1, x3_13 => (3 < x3_13 → (wp_X6_merges o p1 p2 M (fun M_15 => wp_X6_of o p2 4 M_15 (fun r_16 => (¬ r_16 = 0 → (wp_X6_merge_J108 o p2 Q M_15 r_16)) ∧ (r_16 = 0 → (((mI M_15 o 10) ≤ 60 → (wp_X6_merge_J108 o p2 Q M_15 r_16)) ∧ (¬ (mI M_15 o 10) ≤ 60 → (wp_X6_fails o 3 M_15 (fun r_38 M_39 => Q r_38 M_39))))))))) ∧ (¬ 3 < x3_13 → (wp_X6_of o p1 x3_13 M (fun r_40 => wp_X6_of o p2 x3_13 M (fun r_42 => (r_40 = r_42 → (∀ x3_44 : Int32, x3_44 = x3_13 + 1 → ((wp_X6_merge_L44 o p1 p2 M Q n44) x3_44))) ∧ (¬ r_40 = r_42 → (wp_X6_fails o 3 M (fun r_45 M_46 => Q r_45 M_46)))))))
def wp_X6_merge (o : Nat) (p1 : Int32) (p2 : Int32) (M : MEM) (Q : Int32 → MEM → Prop) : Prop := KD o = (16, 0) ∧ (wp_X6_isSlot p1 M (fun r_1 => (r_1 = 0 → (wp_X6_fails o 1 M (fun r_3 M_4 => Q r_3 M_4))) ∧ (¬ r_1 = 0 → (wp_X6_isSlot p2 M (fun r_5 => (¬ r_5 = 0 → (wp_X6_isThere o p1 M (fun r_7 => (r_7 = 0 → (wp_X6_fails o 2 M (fun r_9 M_10 => Q r_9 M_10))) ∧ (¬ r_7 = 0 → (wp_X6_isThere o p2 M (fun r_11 => (¬ r_11 = 0 → (∃ m44 : Nat, wp_X6_merge_L44 o p1 p2 M Q m44 1)) ∧ (r_11 = 0 → (wp_X6_fails o 2 M (fun r_47 M_48 => Q r_47 M_48))))))))) ∧ (r_5 = 0 → (wp_X6_fails o 1 M (fun r_49 M_50 => Q r_49 M_50))))))))
set_option maxRecDepth 100000 in
set_option maxHeartbeats 4000000 in
theorem met_X6_merge {l : Launch} (hl : l.stackTraces = false) {E : MK} {o : Nat} {p1 : Int32} {p2 : Int32} {M : MEM} {Q : Int32 → MEM → Prop} (hw : wp_X6_merge o p1 p2 M Q) : gMet l E yX6_merge rmX6_merge [gR E o, .int p1, .int p2] M (qI Q) gNo := by
  obtain ⟨hk0, hw⟩ := hw
  refine g_met hl (cc := cX6_merge) (maxL := 7) (ret := (some .int)) (hh := []) (loc := [(0, gR E o), (1, .int p1), (2, .int p2)]) (by decide +kernel) (Or.inl ⟨tw1270, rfl⟩) (Nat.le_of_ble_eq_true rfl) rfl (fun K hK C => ?_)
  have C : GC K E cX6_merge RX6 7 (some .int) [] rmX6_merge := C
  refine g_iload_n C dX6_merge_0 1 rfl rfl ?_
  refine g_cS C dX6_merge_1 (met_X6_isSlot C.st hw) (gc_X6_isSlot _ (Nat.le_of_ble_eq_true rfl) (Nat.le_of_ble_eq_true rfl)) (Or.inl tw1128) tw1129 rfl (Nat.le_of_ble_eq_true rfl) (c2 := 0) (s2 := 0) rfl rfl (Nat.le_of_ble_eq_true rfl) (Nat.le_of_ble_eq_true rfl) rfl (kIp (fun r_1 hw => ?_)) tNo
  refine g_if_eq C dX6_merge_4 (tgt := 14) (by decide) (fun c4 => ?_) (fun c4 => ?_)
  · have hw := hw.1 c4
    refine g_aload_n C dX6_merge_14 0 rfl rfl ?_
    refine g_iconst C dX6_merge_15 (v := 1) rfl ?_
    refine g_cV C dX6_merge_16 (met_X6_fails C.st hw) (gc_X6_fails _ (Nat.le_of_ble_eq_true rfl) (Nat.le_of_ble_eq_true rfl)) tw1131 tw1133 twp28 (ci := 6) rfl (by decide) hk0 rfl (Nat.le_of_ble_eq_true rfl) (c2 := 0) (s2 := 0) rfl rfl (Nat.le_of_ble_eq_true rfl) (Nat.le_of_ble_eq_true rfl) rfl (kI (fun r_3 M_4 hw => ?_)) tNo
    exact g_iret C dX6_merge_19 (Nat.le_of_ble_eq_true rfl) (Nat.le_of_ble_eq_true rfl) ⟨_, rfl, hw⟩
  · have hw := hw.2 c4
    refine g_iload_n C dX6_merge_7 2 rfl rfl ?_
    refine g_cS C dX6_merge_8 (met_X6_isSlot C.st hw) (gc_X6_isSlot _ (Nat.le_of_ble_eq_true rfl) (Nat.le_of_ble_eq_true rfl)) (Or.inl tw1128) tw1129 rfl (Nat.le_of_ble_eq_true rfl) (c2 := 0) (s2 := 0) rfl rfl (Nat.le_of_ble_eq_true rfl) (Nat.le_of_ble_eq_true rfl) rfl (kIp (fun r_5 hw => ?_)) tNo
    refine g_if_ne C dX6_merge_11 (tgt := 20) (by decide) (fun c11 => ?_) (fun c11 => ?_)
    · have hw := hw.1 c11
      refine g_aload_n C dX6_merge_20 0 rfl rfl ?_
      refine g_iload_n C dX6_merge_21 1 rfl rfl ?_
      refine g_cV C dX6_merge_22 (met_X6_isThere C.st hw) (gc_X6_isThere _ (Nat.le_of_ble_eq_true rfl) (Nat.le_of_ble_eq_true rfl)) tw1152 tw1154 twp31 (ci := 6) rfl (by decide) hk0 rfl (Nat.le_of_ble_eq_true rfl) (c2 := 0) (s2 := 0) rfl rfl (Nat.le_of_ble_eq_true rfl) (Nat.le_of_ble_eq_true rfl) rfl (kIp (fun r_7 hw => ?_)) tNo
      refine g_if_eq C dX6_merge_25 (tgt := 36) (by decide) (fun c25 => ?_) (fun c25 => ?_)
      · have hw := hw.1 c25
        refine g_aload_n C dX6_merge_36 0 rfl rfl ?_
        refine g_iconst C dX6_merge_37 (v := 2) rfl ?_
        refine g_cV C dX6_merge_38 (met_X6_fails C.st hw) (gc_X6_fails _ (Nat.le_of_ble_eq_true rfl) (Nat.le_of_ble_eq_true rfl)) tw1131 tw1133 twp28 (ci := 6) rfl (by decide) hk0 rfl (Nat.le_of_ble_eq_true rfl) (c2 := 0) (s2 := 0) rfl rfl (Nat.le_of_ble_eq_true rfl) (Nat.le_of_ble_eq_true rfl) rfl (kI (fun r_9 M_10 hw => ?_)) tNo
        exact g_iret C dX6_merge_41 (Nat.le_of_ble_eq_true rfl) (Nat.le_of_ble_eq_true rfl) ⟨_, rfl, hw⟩
      · have hw := hw.2 c25
        refine g_aload_n C dX6_merge_28 0 rfl rfl ?_
        refine g_iload_n C dX6_merge_29 2 rfl rfl ?_
        refine g_cV C dX6_merge_30 (met_X6_isThere C.st hw) (gc_X6_isThere _ (Nat.le_of_ble_eq_true rfl) (Nat.le_of_ble_eq_true rfl)) tw1152 tw1154 twp31 (ci := 6) rfl (by decide) hk0 rfl (Nat.le_of_ble_eq_true rfl) (c2 := 0) (s2 := 0) rfl rfl (Nat.le_of_ble_eq_true rfl) (Nat.le_of_ble_eq_true rfl) rfl (kIp (fun r_11 hw => ?_)) tNo
        refine g_if_ne C dX6_merge_33 (tgt := 42) (by decide) (fun c33 => ?_) (fun c33 => ?_)
        · have hw := hw.1 c33
          refine g_iconst C dX6_merge_42 (v := 1) rfl ?_
          refine g_istore_n C dX6_merge_43 rfl (Nat.le_of_ble_eq_true rfl) (loc' := [(3, .int 1), (0, gR E o), (1, .int p1), (2, .int p2)]) rfl ?_
          obtain ⟨m44, hw⟩ := hw
          have hL44 : ∀ (n44 : Nat) (x3_13 : Int32), wp_X6_merge_L44 o p1 p2 M Q n44 x3_13 → GX K E 7 M [(0, gR E o), (1, .int p1), (2, .int p2), (3, .int x3_13)] [] 44 0 0 (gEnd K E (qI Q) gNo rmX6_merge.cells rmX6_merge.slots) := by
            intro n44
            induction n44 with
            | zero => intro _ hw; exact False.elim hw
            | succ n44 ih44 =>
              intro x3_13 hw
              refine g_iload_n C dX6_merge_44 3 rfl rfl ?_
              refine g_iconst C dX6_merge_45 (v := 3) rfl ?_
              refine g_icmp_gt C dX6_merge_46 (tgt := 76) (by decide) (fun c46 => ?_) (fun c46 => ?_)
              · have hw := hw.1 c46
                refine g_aload_n C dX6_merge_76 0 rfl rfl ?_
                refine g_iload_n C dX6_merge_77 1 rfl rfl ?_
                refine g_iload_n C dX6_merge_78 2 rfl rfl ?_
                refine g_cV C dX6_merge_79 (met_X6_merges C.st hw) (gc_X6_merges _ (Nat.le_of_ble_eq_true rfl) (Nat.le_of_ble_eq_true rfl)) tw1271 tw1273 twp48 (ci := 6) rfl (by decide) hk0 rfl (Nat.le_of_ble_eq_true rfl) (c2 := 0) (s2 := 0) rfl rfl (Nat.le_of_ble_eq_true rfl) (Nat.le_of_ble_eq_true rfl) rfl (kV (fun M_15 hw => ?_)) tNo
                refine g_aload_n C dX6_merge_82 0 rfl rfl ?_
                refine g_iload_n C dX6_merge_83 2 rfl rfl ?_
                refine g_iconst C dX6_merge_84 (v := 4) rfl ?_
                refine g_cV C dX6_merge_85 (met_X6_of C.st hw) (gc_X6_of _ (Nat.le_of_ble_eq_true rfl) (Nat.le_of_ble_eq_true rfl)) tw1160 tw1162 twp33 (ci := 6) rfl (by decide) hk0 rfl (Nat.le_of_ble_eq_true rfl) (c2 := 0) (s2 := 0) rfl rfl (Nat.le_of_ble_eq_true rfl) (Nat.le_of_ble_eq_true rfl) rfl (kIp (fun r_16 hw => ?_)) tNo
                refine g_istore_n C dX6_merge_88 rfl (Nat.le_of_ble_eq_true rfl) (loc' := [(3, .int r_16), (0, gR E o), (1, .int p1), (2, .int p2)]) rfl ?_
                refine g_iload_n C dX6_merge_89 0 rfl rfl ?_
                have hJ108 : wp_X6_merge_J108 o p2 Q M_15 r_16 → GX K E 7 M_15 [(0, gR E o), (2, .int p2), (3, .int r_16)] [] 108 0 0 (gEnd K E (qI Q) gNo rmX6_merge.cells rmX6_merge.slots) := by
                  intro hw
                  refine g_aload_n C dX6_merge_108 0 rfl rfl ?_
                  refine g_iconst C dX6_merge_109 (v := 0) rfl ?_
                  refine pf_RX6_57 C hk0 dX6_merge_110 ?_
                  refine g_nmM (fun M_18 eM_18 => ?_)
                  have hw := hw M_18 eM_18
                  refine g_aload_n C dX6_merge_113 0 rfl rfl ?_
                  refine g_cV C dX6_merge_114 (met_X6_remembers C.st hw) (gc_X6_remembers _ (Nat.le_of_ble_eq_true rfl) (Nat.le_of_ble_eq_true rfl)) tw1144 tw1146 twp29 (ci := 6) rfl (by decide) hk0 rfl (Nat.le_of_ble_eq_true rfl) (c2 := 0) (s2 := 0) rfl rfl (Nat.le_of_ble_eq_true rfl) (Nat.le_of_ble_eq_true rfl) rfl (kV (fun M_20 hw => ?_)) tNo
                  refine g_iload_n C dX6_merge_117 2 rfl rfl ?_
                  have hJ139 : ∀ (s_21 : Int32), wp_X6_merge_J139 o p2 Q M_20 s_21 → GX K E 7 M_20 [(0, gR E o), (2, .int p2)] [.int s_21] 139 0 0 (gEnd K E (qI Q) gNo rmX6_merge.cells rmX6_merge.slots) := by
                    intro s_21 hw
                    refine g_istore C dX6_merge_139 (Nat.le_of_ble_eq_true rfl) (loc' := [(4, .int s_21), (0, gR E o), (2, .int p2)]) rfl ?_
                    refine g_iload C (j := 0) dX6_merge_141 0 rfl ?_
                    refine g_istore C dX6_merge_143 (Nat.le_of_ble_eq_true rfl) (loc' := [(5, .int s_21), (4, .int s_21), (0, gR E o), (2, .int p2)]) rfl ?_
                    obtain ⟨m145, hw⟩ := hw
                    have hL145 : ∀ (n145 : Nat) (x5_22 : Int32) (M_23 : MEM), wp_X6_merge_L145 o p2 Q s_21 n145 x5_22 M_23 → GX K E 7 M_23 [(0, gR E o), (2, .int p2), (4, .int s_21), (5, .int x5_22)] [] 145 0 0 (gEnd K E (qI Q) gNo rmX6_merge.cells rmX6_merge.slots) := by
                      intro n145
                      induction n145 with
                      | zero => intro _ _ hw; exact False.elim hw
                      | succ n145 ih145 =>
                        intro x5_22 M_23 hw
                        refine g_iload C (j := 0) dX6_merge_145 3 rfl ?_
                        refine g_aload_n C dX6_merge_147 0 rfl rfl ?_
                        refine gf_RX6_182 C hk0 dX6_merge_148 ?_
                        refine g_icmp_ge C dX6_merge_151 (tgt := 219) (by decide) (fun c151 => ?_) (fun c151 => ?_)
                        · have hw := hw.1 c151
                          refine g_aload_n C dX6_merge_219 0 rfl rfl ?_
                          refine g_iload_n C dX6_merge_220 1 rfl rfl ?_
                          refine g_bipush C dX6_merge_221 (v := 9) rfl ?_
                          refine g_aload_n C dX6_merge_223 0 rfl rfl ?_
                          refine gf_RX6_182 C hk0 dX6_merge_224 ?_
                          refine g_iload C (j := 0) dX6_merge_227 2 rfl ?_
                          refine g_isub C dX6_merge_229 ?_
                          refine g_cV C dX6_merge_230 (met_X6_sets C.st hw) (gc_X6_sets _ (Nat.le_of_ble_eq_true rfl) (Nat.le_of_ble_eq_true rfl)) tw1168 tw1170 twp35 (ci := 6) rfl (by decide) hk0 rfl (Nat.le_of_ble_eq_true rfl) (c2 := 0) (s2 := 0) rfl rfl (Nat.le_of_ble_eq_true rfl) (Nat.le_of_ble_eq_true rfl) rfl (kV (fun M_25 hw => ?_)) tNo
                          refine g_aload_n C dX6_merge_233 0 rfl rfl ?_
                          refine g_iload_n C dX6_merge_234 1 rfl rfl ?_
                          refine g_cV C dX6_merge_235 (met_X6_many C.st hw) (gc_X6_many _ (Nat.le_of_ble_eq_true rfl) (Nat.le_of_ble_eq_true rfl)) tw1156 tw1158 twp32 (ci := 6) rfl (by decide) hk0 rfl (Nat.le_of_ble_eq_true rfl) (c2 := 0) (s2 := 0) rfl rfl (Nat.le_of_ble_eq_true rfl) (Nat.le_of_ble_eq_true rfl) rfl (kIp (fun r_26 hw => ?_)) tNo
                          exact g_iret C dX6_merge_238 (Nat.le_of_ble_eq_true rfl) (Nat.le_of_ble_eq_true rfl) ⟨_, rfl, hw⟩
                        · have hw := hw.2 c151
                          refine g_iconst C dX6_merge_154 (v := 5) rfl ?_
                          refine g_iload C (j := 0) dX6_merge_155 3 rfl ?_
                          refine g_imul C dX6_merge_157 ?_
                          refine g_nmI (fun x6_28 ex6_28 => ?_)
                          have hw := hw x6_28 ex6_28
                          refine g_istore C dX6_merge_158 (Nat.le_of_ble_eq_true rfl) (loc' := [(6, .int x6_28), (0, gR E o), (2, .int p2), (4, .int s_21), (5, .int x5_22)]) rfl ?_
                          refine g_aload_n C dX6_merge_160 1 rfl rfl ?_
                          refine g_iload_n C dX6_merge_161 2 rfl rfl ?_
                          refine g_iload C (j := 0) dX6_merge_162 4 rfl ?_
                          refine g_iload C (j := 0) dX6_merge_164 3 rfl ?_
                          refine g_isub C dX6_merge_166 ?_
                          refine g_aload_n C dX6_merge_167 1 rfl rfl ?_
                          refine gf_RX6_28 C hk0 dX6_merge_168 ?_
                          refine g_iload C (j := 0) dX6_merge_171 0 rfl ?_
                          obtain ⟨hk_29, hw⟩ := hw
                          obtain ⟨hi_30, hw⟩ := hw
                          refine g_iaload C hk_29 hi_30 dX6_merge_173 ?_
                          refine g_aload_n C dX6_merge_174 1 rfl rfl ?_
                          refine gf_RX6_28 C hk0 dX6_merge_175 ?_
                          refine g_iload C (j := 0) dX6_merge_178 0 rfl ?_
                          refine g_iconst C dX6_merge_180 (v := 1) rfl ?_
                          refine g_iadd C dX6_merge_181 ?_
                          obtain ⟨hi_31, hw⟩ := hw
                          refine g_iaload C hk_29 hi_31 dX6_merge_182 ?_
                          refine g_aload_n C dX6_merge_183 1 rfl rfl ?_
                          refine gf_RX6_28 C hk0 dX6_merge_184 ?_
                          refine g_iload C (j := 0) dX6_merge_187 0 rfl ?_
                          refine g_iconst C dX6_merge_189 (v := 2) rfl ?_
                          refine g_iadd C dX6_merge_190 ?_
                          obtain ⟨hi_32, hw⟩ := hw
                          refine g_iaload C hk_29 hi_32 dX6_merge_191 ?_
                          refine g_aload_n C dX6_merge_192 1 rfl rfl ?_
                          refine gf_RX6_28 C hk0 dX6_merge_193 ?_
                          refine g_iload C (j := 0) dX6_merge_196 0 rfl ?_
                          refine g_iconst C dX6_merge_198 (v := 3) rfl ?_
                          refine g_iadd C dX6_merge_199 ?_
                          obtain ⟨hi_33, hw⟩ := hw
                          refine g_iaload C hk_29 hi_33 dX6_merge_200 ?_
                          refine g_aload_n C dX6_merge_201 1 rfl rfl ?_
                          refine gf_RX6_28 C hk0 dX6_merge_202 ?_
                          refine g_iload C (j := 0) dX6_merge_205 0 rfl ?_
                          refine g_iconst C dX6_merge_207 (v := 4) rfl ?_
                          refine g_iadd C dX6_merge_208 ?_
                          obtain ⟨hi_34, hw⟩ := hw
                          refine g_iaload C hk_29 hi_34 dX6_merge_209 ?_
                          refine g_cV C dX6_merge_210 (met_X6_setsItem C.st hw) (gc_X6_setsItem _ (Nat.le_of_ble_eq_true rfl) (Nat.le_of_ble_eq_true rfl)) tw1201 tw1203 twp39 (ci := 6) rfl (by decide) hk0 rfl (Nat.le_of_ble_eq_true rfl) (c2 := 0) (s2 := 0) rfl rfl (Nat.le_of_ble_eq_true rfl) (Nat.le_of_ble_eq_true rfl) rfl (kV (fun M_36 hw => ?_)) tNo
                          obtain ⟨x5_37, ex5_37⟩ : ∃ y : Int32, y = x5_22 + 1 := ⟨_, rfl⟩
                          have hw := hw x5_37 ex5_37
                          refine g_iinc C (j := 0) dX6_merge_213 4 rfl (v := x5_37) (by rw [ex5_37]; rfl) (Nat.le_of_ble_eq_true rfl) (loc' := [(5, .int x5_37), (6, .int x6_28), (0, gR E o), (2, .int p2), (4, .int s_21)]) rfl ?_
                          refine g_goto C dX6_merge_216 (tgt := 145) (by decide) ?_
                          refine g_sub [2, 3, 4, 0] rfl ?_
                          exact ih145 _ _ hw
                    refine g_sub [2, 3, 1, 0] rfl ?_
                    exact hL145 m145 _ _ hw
                  have hJ138 : wp_X6_merge_J138 o p2 Q M_20 → GX K E 7 M_20 [(0, gR E o), (2, .int p2)] [] 138 0 0 (gEnd K E (qI Q) gNo rmX6_merge.cells rmX6_merge.slots) := by
                    intro hw
                    refine g_iconst C dX6_merge_138 (v := 0) rfl ?_
                    exact hJ139 _ hw
                  refine g_if_le C dX6_merge_118 (tgt := 138) (by decide) (fun c118 => ?_) (fun c118 => ?_)
                  · have hw := hw.1 c118
                    refine g_sub [0, 1] rfl ?_
                    exact hJ138 hw
                  · have hw := hw.2 c118
                    refine g_aload_n C dX6_merge_121 0 rfl rfl ?_
                    refine gf_RX6_182 C hk0 dX6_merge_122 ?_
                    refine g_iload_n C dX6_merge_125 2 rfl rfl ?_
                    refine g_icmp_le C dX6_merge_126 (tgt := 138) (by decide) (fun c126 => ?_) (fun c126 => ?_)
                    · have hw := hw.1 c126
                      refine g_sub [0, 1] rfl ?_
                      exact hJ138 hw
                    · have hw := hw.2 c126
                      refine g_aload_n C dX6_merge_129 0 rfl rfl ?_
                      refine gf_RX6_182 C hk0 dX6_merge_130 ?_
                      refine g_iload_n C dX6_merge_133 2 rfl rfl ?_
                      refine g_isub C dX6_merge_134 ?_
                      refine g_goto C dX6_merge_135 (tgt := 139) (by decide) ?_
                      refine g_sub [0, 1] rfl ?_
                      exact hJ139 _ hw
                refine g_if_ne C dX6_merge_90 (tgt := 108) (by decide) (fun c90 => ?_) (fun c90 => ?_)
                · have hw := hw.1 c90
                  refine g_sub [1, 3, 0] rfl ?_
                  exact hJ108 hw
                · have hw := hw.2 c90
                  refine g_aload_n C dX6_merge_93 1 rfl rfl ?_
                  refine gf_RX6_182 C hk0 dX6_merge_94 ?_
                  refine g_bipush C dX6_merge_97 (v := 60) rfl ?_
                  refine g_icmp_le C dX6_merge_99 (tgt := 108) (by decide) (fun c99 => ?_) (fun c99 => ?_)
                  · have hw := hw.1 c99
                    refine g_sub [1, 3, 0] rfl ?_
                    exact hJ108 hw
                  · have hw := hw.2 c99
                    refine g_aload_n C dX6_merge_102 1 rfl rfl ?_
                    refine g_iconst C dX6_merge_103 (v := 3) rfl ?_
                    refine g_cV C dX6_merge_104 (met_X6_fails C.st hw) (gc_X6_fails _ (Nat.le_of_ble_eq_true rfl) (Nat.le_of_ble_eq_true rfl)) tw1131 tw1133 twp28 (ci := 6) rfl (by decide) hk0 rfl (Nat.le_of_ble_eq_true rfl) (c2 := 0) (s2 := 0) rfl rfl (Nat.le_of_ble_eq_true rfl) (Nat.le_of_ble_eq_true rfl) rfl (kI (fun r_38 M_39 hw => ?_)) tNo
                    exact g_iret C dX6_merge_107 (Nat.le_of_ble_eq_true rfl) (Nat.le_of_ble_eq_true rfl) ⟨_, rfl, hw⟩
              · have hw := hw.2 c46
                refine g_aload_n C dX6_merge_49 0 rfl rfl ?_
                refine g_iload_n C dX6_merge_50 1 rfl rfl ?_
                refine g_iload_n C dX6_merge_51 3 rfl rfl ?_
                refine g_cV C dX6_merge_52 (met_X6_of C.st hw) (gc_X6_of _ (Nat.le_of_ble_eq_true rfl) (Nat.le_of_ble_eq_true rfl)) tw1160 tw1162 twp33 (ci := 6) rfl (by decide) hk0 rfl (Nat.le_of_ble_eq_true rfl) (c2 := 0) (s2 := 0) rfl rfl (Nat.le_of_ble_eq_true rfl) (Nat.le_of_ble_eq_true rfl) rfl (kIp (fun r_40 hw => ?_)) tNo
                refine g_aload_n C dX6_merge_55 0 rfl rfl ?_
                refine g_iload_n C dX6_merge_56 2 rfl rfl ?_
                refine g_iload_n C dX6_merge_57 3 rfl rfl ?_
                refine g_cV C dX6_merge_58 (met_X6_of C.st hw) (gc_X6_of _ (Nat.le_of_ble_eq_true rfl) (Nat.le_of_ble_eq_true rfl)) tw1160 tw1162 twp33 (ci := 6) rfl (by decide) hk0 rfl (Nat.le_of_ble_eq_true rfl) (c2 := 0) (s2 := 0) rfl rfl (Nat.le_of_ble_eq_true rfl) (Nat.le_of_ble_eq_true rfl) rfl (kIp (fun r_42 hw => ?_)) tNo
                refine g_icmp_eq C dX6_merge_61 (tgt := 70) (by decide) (fun c61 => ?_) (fun c61 => ?_)
                · have hw := hw.1 c61
                  obtain ⟨x3_44, ex3_44⟩ : ∃ y : Int32, y = x3_13 + 1 := ⟨_, rfl⟩
                  have hw := hw x3_44 ex3_44
                  refine g_iinc C (j := 0) dX6_merge_70 3 rfl (v := x3_44) (by rw [ex3_44]; rfl) (Nat.le_of_ble_eq_true rfl) (loc' := [(3, .int x3_44), (0, gR E o), (1, .int p1), (2, .int p2)]) rfl ?_
                  refine g_goto C dX6_merge_73 (tgt := 44) (by decide) ?_
                  refine g_sub [1, 2, 3, 0] rfl ?_
                  exact ih44 _ hw
                · have hw := hw.2 c61
                  refine g_aload_n C dX6_merge_64 0 rfl rfl ?_
                  refine g_iconst C dX6_merge_65 (v := 3) rfl ?_
                  refine g_cV C dX6_merge_66 (met_X6_fails C.st hw) (gc_X6_fails _ (Nat.le_of_ble_eq_true rfl) (Nat.le_of_ble_eq_true rfl)) tw1131 tw1133 twp28 (ci := 6) rfl (by decide) hk0 rfl (Nat.le_of_ble_eq_true rfl) (c2 := 0) (s2 := 0) rfl rfl (Nat.le_of_ble_eq_true rfl) (Nat.le_of_ble_eq_true rfl) rfl (kI (fun r_45 M_46 hw => ?_)) tNo
                  exact g_iret C dX6_merge_69 (Nat.le_of_ble_eq_true rfl) (Nat.le_of_ble_eq_true rfl) ⟨_, rfl, hw⟩
          refine g_sub [1, 2, 3, 0] rfl ?_
          exact hL44 m44 _ hw
        · have hw := hw.2 c33
          refine g_aload_n C dX6_merge_36 0 rfl rfl ?_
          refine g_iconst C dX6_merge_37 (v := 2) rfl ?_
          refine g_cV C dX6_merge_38 (met_X6_fails C.st hw) (gc_X6_fails _ (Nat.le_of_ble_eq_true rfl) (Nat.le_of_ble_eq_true rfl)) tw1131 tw1133 twp28 (ci := 6) rfl (by decide) hk0 rfl (Nat.le_of_ble_eq_true rfl) (c2 := 0) (s2 := 0) rfl rfl (Nat.le_of_ble_eq_true rfl) (Nat.le_of_ble_eq_true rfl) rfl (kI (fun r_47 M_48 hw => ?_)) tNo
          exact g_iret C dX6_merge_41 (Nat.le_of_ble_eq_true rfl) (Nat.le_of_ble_eq_true rfl) ⟨_, rfl, hw⟩
    · have hw := hw.2 c11
      refine g_aload_n C dX6_merge_14 0 rfl rfl ?_
      refine g_iconst C dX6_merge_15 (v := 1) rfl ?_
      refine g_cV C dX6_merge_16 (met_X6_fails C.st hw) (gc_X6_fails _ (Nat.le_of_ble_eq_true rfl) (Nat.le_of_ble_eq_true rfl)) tw1131 tw1133 twp28 (ci := 6) rfl (by decide) hk0 rfl (Nat.le_of_ble_eq_true rfl) (c2 := 0) (s2 := 0) rfl rfl (Nat.le_of_ble_eq_true rfl) (Nat.le_of_ble_eq_true rfl) rfl (kI (fun r_49 M_50 hw => ?_)) tNo
      exact g_iret C dX6_merge_19 (Nat.le_of_ble_eq_true rfl) (Nat.le_of_ble_eq_true rfl) ⟨_, rfl, hw⟩
theorem gc_X6_merge : ∀ rm : Room, rmX6_merge.frames + 1 ≤ rm.frames → 8 + (7 + 11) + rmX6_merge.locals ≤ rm.locals → gCall yX6_merge 7 2 rmX6_merge rm := fun rm a b => ⟨Or.inl ⟨_, _, tw1270⟩, tw8, ⟨by decide, by decide⟩, by decide, a, b⟩
abbrev rmX6_copy : Room := { frames := 2, cells := 0, slots := 0, locals := 43 }
def wp_X6_copy_L45 (o : Nat) (p1 : Int32) (p2 : Int32) (Q : Int32 → MEM → Prop) : Nat → Int32 → MEM → Prop
  | 0, _, _ => False
  | n45 + 1, x3_12, M_13 => (310 ≤ x3_12 → (wp_X6_many o p2 M_13 (fun r_14 => Q r_14 M_13))) ∧ (¬ 310 ≤ x3_12 → (wp_X6_of o p1 x3_12 M_13 (fun r_16 => wp_X6_sets o p2 x3_12 r_16 M_13 (fun M_19 => ∀ x3_20 : Int32, x3_20 = x3_12 + 1 → ((wp_X6_copy_L45 o p1 p2 Q n45) x3_20 M_19)))))
def wp_X6_copy (o : Nat) (p1 : Int32) (p2 : Int32) (M : MEM) (Q : Int32 → MEM → Prop) : Prop := KD o = (16, 0) ∧ (wp_X6_isSlot p1 M (fun r_1 => (r_1 = 0 → (wp_X6_fails o 1 M (fun r_3 M_4 => Q r_3 M_4))) ∧ (¬ r_1 = 0 → (wp_X6_isSlot p2 M (fun r_5 => (¬ r_5 = 0 → (wp_X6_isThere o p1 M (fun r_7 => (¬ r_7 = 0 → ((∀ M_9 : MEM, M_9 = uI M o 0 0 → (wp_X6_remembers o M_9 (fun M_11 => ∃ m45 : Nat, wp_X6_copy_L45 o p1 p2 Q m45 0 M_11))))) ∧ (r_7 = 0 → (wp_X6_fails o 2 M (fun r_21 M_22 => Q r_21 M_22)))))) ∧ (r_5 = 0 → (wp_X6_fails o 1 M (fun r_23 M_24 => Q r_23 M_24))))))))
set_option maxRecDepth 100000 in
set_option maxHeartbeats 4000000 in
theorem met_X6_copy {l : Launch} (hl : l.stackTraces = false) {E : MK} {o : Nat} {p1 : Int32} {p2 : Int32} {M : MEM} {Q : Int32 → MEM → Prop} (hw : wp_X6_copy o p1 p2 M Q) : gMet l E yX6_copy rmX6_copy [gR E o, .int p1, .int p2] M (qI Q) gNo := by
  obtain ⟨hk0, hw⟩ := hw
  refine g_met hl (cc := cX6_copy) (maxL := 4) (ret := (some .int)) (hh := []) (loc := [(0, gR E o), (1, .int p1), (2, .int p2)]) (by decide +kernel) (Or.inl ⟨tw1282, rfl⟩) (Nat.le_of_ble_eq_true rfl) rfl (fun K hK C => ?_)
  have C : GC K E cX6_copy RX6 4 (some .int) [] rmX6_copy := C
  refine g_iload_n C dX6_copy_0 1 rfl rfl ?_
  refine g_cS C dX6_copy_1 (met_X6_isSlot C.st hw) (gc_X6_isSlot _ (Nat.le_of_ble_eq_true rfl) (Nat.le_of_ble_eq_true rfl)) (Or.inl tw1128) tw1129 rfl (Nat.le_of_ble_eq_true rfl) (c2 := 0) (s2 := 0) rfl rfl (Nat.le_of_ble_eq_true rfl) (Nat.le_of_ble_eq_true rfl) rfl (kIp (fun r_1 hw => ?_)) tNo
  refine g_if_eq C dX6_copy_4 (tgt := 14) (by decide) (fun c4 => ?_) (fun c4 => ?_)
  · have hw := hw.1 c4
    refine g_aload_n C dX6_copy_14 0 rfl rfl ?_
    refine g_iconst C dX6_copy_15 (v := 1) rfl ?_
    refine g_cV C dX6_copy_16 (met_X6_fails C.st hw) (gc_X6_fails _ (Nat.le_of_ble_eq_true rfl) (Nat.le_of_ble_eq_true rfl)) tw1131 tw1133 twp28 (ci := 6) rfl (by decide) hk0 rfl (Nat.le_of_ble_eq_true rfl) (c2 := 0) (s2 := 0) rfl rfl (Nat.le_of_ble_eq_true rfl) (Nat.le_of_ble_eq_true rfl) rfl (kI (fun r_3 M_4 hw => ?_)) tNo
    exact g_iret C dX6_copy_19 (Nat.le_of_ble_eq_true rfl) (Nat.le_of_ble_eq_true rfl) ⟨_, rfl, hw⟩
  · have hw := hw.2 c4
    refine g_iload_n C dX6_copy_7 2 rfl rfl ?_
    refine g_cS C dX6_copy_8 (met_X6_isSlot C.st hw) (gc_X6_isSlot _ (Nat.le_of_ble_eq_true rfl) (Nat.le_of_ble_eq_true rfl)) (Or.inl tw1128) tw1129 rfl (Nat.le_of_ble_eq_true rfl) (c2 := 0) (s2 := 0) rfl rfl (Nat.le_of_ble_eq_true rfl) (Nat.le_of_ble_eq_true rfl) rfl (kIp (fun r_5 hw => ?_)) tNo
    refine g_if_ne C dX6_copy_11 (tgt := 20) (by decide) (fun c11 => ?_) (fun c11 => ?_)
    · have hw := hw.1 c11
      refine g_aload_n C dX6_copy_20 0 rfl rfl ?_
      refine g_iload_n C dX6_copy_21 1 rfl rfl ?_
      refine g_cV C dX6_copy_22 (met_X6_isThere C.st hw) (gc_X6_isThere _ (Nat.le_of_ble_eq_true rfl) (Nat.le_of_ble_eq_true rfl)) tw1152 tw1154 twp31 (ci := 6) rfl (by decide) hk0 rfl (Nat.le_of_ble_eq_true rfl) (c2 := 0) (s2 := 0) rfl rfl (Nat.le_of_ble_eq_true rfl) (Nat.le_of_ble_eq_true rfl) rfl (kIp (fun r_7 hw => ?_)) tNo
      refine g_if_ne C dX6_copy_25 (tgt := 34) (by decide) (fun c25 => ?_) (fun c25 => ?_)
      · have hw := hw.1 c25
        refine g_aload_n C dX6_copy_34 0 rfl rfl ?_
        refine g_iconst C dX6_copy_35 (v := 0) rfl ?_
        refine pf_RX6_57 C hk0 dX6_copy_36 ?_
        refine g_nmM (fun M_9 eM_9 => ?_)
        have hw := hw M_9 eM_9
        refine g_aload_n C dX6_copy_39 0 rfl rfl ?_
        refine g_cV C dX6_copy_40 (met_X6_remembers C.st hw) (gc_X6_remembers _ (Nat.le_of_ble_eq_true rfl) (Nat.le_of_ble_eq_true rfl)) tw1144 tw1146 twp29 (ci := 6) rfl (by decide) hk0 rfl (Nat.le_of_ble_eq_true rfl) (c2 := 0) (s2 := 0) rfl rfl (Nat.le_of_ble_eq_true rfl) (Nat.le_of_ble_eq_true rfl) rfl (kV (fun M_11 hw => ?_)) tNo
        refine g_iconst C dX6_copy_43 (v := 0) rfl ?_
        refine g_istore_n C dX6_copy_44 rfl (Nat.le_of_ble_eq_true rfl) (loc' := [(3, .int 0), (0, gR E o), (1, .int p1), (2, .int p2)]) rfl ?_
        obtain ⟨m45, hw⟩ := hw
        have hL45 : ∀ (n45 : Nat) (x3_12 : Int32) (M_13 : MEM), wp_X6_copy_L45 o p1 p2 Q n45 x3_12 M_13 → GX K E 4 M_13 [(0, gR E o), (1, .int p1), (2, .int p2), (3, .int x3_12)] [] 45 0 0 (gEnd K E (qI Q) gNo rmX6_copy.cells rmX6_copy.slots) := by
          intro n45
          induction n45 with
          | zero => intro _ _ hw; exact False.elim hw
          | succ n45 ih45 =>
            intro x3_12 M_13 hw
            refine g_iload_n C dX6_copy_45 3 rfl rfl ?_
            refine g_sipush C dX6_copy_46 (v := 310) rfl ?_
            refine g_icmp_ge C dX6_copy_49 (tgt := 70) (by decide) (fun c49 => ?_) (fun c49 => ?_)
            · have hw := hw.1 c49
              refine g_aload_n C dX6_copy_70 0 rfl rfl ?_
              refine g_iload_n C dX6_copy_71 2 rfl rfl ?_
              refine g_cV C dX6_copy_72 (met_X6_many C.st hw) (gc_X6_many _ (Nat.le_of_ble_eq_true rfl) (Nat.le_of_ble_eq_true rfl)) tw1156 tw1158 twp32 (ci := 6) rfl (by decide) hk0 rfl (Nat.le_of_ble_eq_true rfl) (c2 := 0) (s2 := 0) rfl rfl (Nat.le_of_ble_eq_true rfl) (Nat.le_of_ble_eq_true rfl) rfl (kIp (fun r_14 hw => ?_)) tNo
              exact g_iret C dX6_copy_75 (Nat.le_of_ble_eq_true rfl) (Nat.le_of_ble_eq_true rfl) ⟨_, rfl, hw⟩
            · have hw := hw.2 c49
              refine g_aload_n C dX6_copy_52 0 rfl rfl ?_
              refine g_iload_n C dX6_copy_53 2 rfl rfl ?_
              refine g_iload_n C dX6_copy_54 3 rfl rfl ?_
              refine g_aload_n C dX6_copy_55 0 rfl rfl ?_
              refine g_iload_n C dX6_copy_56 1 rfl rfl ?_
              refine g_iload_n C dX6_copy_57 3 rfl rfl ?_
              refine g_cV C dX6_copy_58 (met_X6_of C.st hw) (gc_X6_of _ (Nat.le_of_ble_eq_true rfl) (Nat.le_of_ble_eq_true rfl)) tw1160 tw1162 twp33 (ci := 6) rfl (by decide) hk0 rfl (Nat.le_of_ble_eq_true rfl) (c2 := 0) (s2 := 0) rfl rfl (Nat.le_of_ble_eq_true rfl) (Nat.le_of_ble_eq_true rfl) rfl (kIp (fun r_16 hw => ?_)) tNo
              refine g_cV C dX6_copy_61 (met_X6_sets C.st hw) (gc_X6_sets _ (Nat.le_of_ble_eq_true rfl) (Nat.le_of_ble_eq_true rfl)) tw1168 tw1170 twp35 (ci := 6) rfl (by decide) hk0 rfl (Nat.le_of_ble_eq_true rfl) (c2 := 0) (s2 := 0) rfl rfl (Nat.le_of_ble_eq_true rfl) (Nat.le_of_ble_eq_true rfl) rfl (kV (fun M_19 hw => ?_)) tNo
              obtain ⟨x3_20, ex3_20⟩ : ∃ y : Int32, y = x3_12 + 1 := ⟨_, rfl⟩
              have hw := hw x3_20 ex3_20
              refine g_iinc C (j := 0) dX6_copy_64 3 rfl (v := x3_20) (by rw [ex3_20]; rfl) (Nat.le_of_ble_eq_true rfl) (loc' := [(3, .int x3_20), (0, gR E o), (1, .int p1), (2, .int p2)]) rfl ?_
              refine g_goto C dX6_copy_67 (tgt := 45) (by decide) ?_
              refine g_sub [1, 2, 3, 0] rfl ?_
              exact ih45 _ _ hw
        refine g_sub [1, 2, 3, 0] rfl ?_
        exact hL45 m45 _ _ hw
      · have hw := hw.2 c25
        refine g_aload_n C dX6_copy_28 0 rfl rfl ?_
        refine g_iconst C dX6_copy_29 (v := 2) rfl ?_
        refine g_cV C dX6_copy_30 (met_X6_fails C.st hw) (gc_X6_fails _ (Nat.le_of_ble_eq_true rfl) (Nat.le_of_ble_eq_true rfl)) tw1131 tw1133 twp28 (ci := 6) rfl (by decide) hk0 rfl (Nat.le_of_ble_eq_true rfl) (c2 := 0) (s2 := 0) rfl rfl (Nat.le_of_ble_eq_true rfl) (Nat.le_of_ble_eq_true rfl) rfl (kI (fun r_21 M_22 hw => ?_)) tNo
        exact g_iret C dX6_copy_33 (Nat.le_of_ble_eq_true rfl) (Nat.le_of_ble_eq_true rfl) ⟨_, rfl, hw⟩
    · have hw := hw.2 c11
      refine g_aload_n C dX6_copy_14 0 rfl rfl ?_
      refine g_iconst C dX6_copy_15 (v := 1) rfl ?_
      refine g_cV C dX6_copy_16 (met_X6_fails C.st hw) (gc_X6_fails _ (Nat.le_of_ble_eq_true rfl) (Nat.le_of_ble_eq_true rfl)) tw1131 tw1133 twp28 (ci := 6) rfl (by decide) hk0 rfl (Nat.le_of_ble_eq_true rfl) (c2 := 0) (s2 := 0) rfl rfl (Nat.le_of_ble_eq_true rfl) (Nat.le_of_ble_eq_true rfl) rfl (kI (fun r_23 M_24 hw => ?_)) tNo
      exact g_iret C dX6_copy_19 (Nat.le_of_ble_eq_true rfl) (Nat.le_of_ble_eq_true rfl) ⟨_, rfl, hw⟩
theorem gc_X6_copy : ∀ rm : Room, rmX6_copy.frames + 1 ≤ rm.frames → 8 + (4 + 11) + rmX6_copy.locals ≤ rm.locals → gCall yX6_copy 4 2 rmX6_copy rm := fun rm a b => ⟨Or.inl ⟨_, _, tw1282⟩, tw8, ⟨by decide, by decide⟩, by decide, a, b⟩
abbrev rmX6_isKept : Room := { frames := 2, cells := 0, slots := 0, locals := 43 }
def wp_X6_isKept (o : Nat) (p1 : Int32) (p2 : Int32) (M : MEM) (Q : Int32 → Prop) : Prop := KD o = (16, 0) ∧ ((p2 < 0 → (Q 0)) ∧ (¬ p2 < 0 → (wp_X6_isThere o p1 M (fun r_1 => (r_1 = 0 → (Q 1)) ∧ (¬ r_1 = 0 → (wp_X6_many o p1 M (fun r_3 => (r_3 ≤ p2 → (Q 0)) ∧ (¬ r_3 ≤ p2 → (Q 1)))))))))
set_option maxRecDepth 100000 in
set_option maxHeartbeats 4000000 in
theorem met_X6_isKept {l : Launch} (hl : l.stackTraces = false) {E : MK} {o : Nat} {p1 : Int32} {p2 : Int32} {M : MEM} {Q : Int32 → Prop} (hw : wp_X6_isKept o p1 p2 M Q) : gMet l E yX6_isKept rmX6_isKept [gR E o, .int p1, .int p2] M (qIp M Q) gNo := by
  obtain ⟨hk0, hw⟩ := hw
  refine g_met hl (cc := cX6_isKept) (maxL := 3) (ret := (some .boolean)) (hh := []) (loc := [(0, gR E o), (1, .int p1), (2, .int p2)]) (by decide +kernel) (Or.inl ⟨tw1294, rfl⟩) (Nat.le_of_ble_eq_true rfl) rfl (fun K hK C => ?_)
  have C : GC K E cX6_isKept RX6 3 (some .boolean) [] rmX6_isKept := C
  refine g_iload_n C dX6_isKept_0 2 rfl rfl ?_
  refine g_if_lt C dX6_isKept_1 (tgt := 25) (by decide) (fun c1 => ?_) (fun c1 => ?_)
  · have hw := hw.1 c1
    refine g_iconst C dX6_isKept_25 (v := 0) rfl ?_
    exact g_zret C dX6_isKept_26 gB0.1 (Nat.le_of_ble_eq_true rfl) (Nat.le_of_ble_eq_true rfl) ⟨_, rfl, rfl, hw⟩
  · have hw := hw.2 c1
    refine g_aload_n C dX6_isKept_4 0 rfl rfl ?_
    refine g_iload_n C dX6_isKept_5 1 rfl rfl ?_
    refine g_cV C dX6_isKept_6 (met_X6_isThere C.st hw) (gc_X6_isThere _ (Nat.le_of_ble_eq_true rfl) (Nat.le_of_ble_eq_true rfl)) tw1152 tw1154 twp31 (ci := 6) rfl (by decide) hk0 rfl (Nat.le_of_ble_eq_true rfl) (c2 := 0) (s2 := 0) rfl rfl (Nat.le_of_ble_eq_true rfl) (Nat.le_of_ble_eq_true rfl) rfl (kIp (fun r_1 hw => ?_)) tNo
    refine g_if_eq C dX6_isKept_9 (tgt := 21) (by decide) (fun c9 => ?_) (fun c9 => ?_)
    · have hw := hw.1 c9
      refine g_iconst C dX6_isKept_21 (v := 1) rfl ?_
      refine g_goto C dX6_isKept_22 (tgt := 26) (by decide) ?_
      exact g_zret C dX6_isKept_26 gB1.1 (Nat.le_of_ble_eq_true rfl) (Nat.le_of_ble_eq_true rfl) ⟨_, rfl, rfl, hw⟩
    · have hw := hw.2 c9
      refine g_iload_n C dX6_isKept_12 2 rfl rfl ?_
      refine g_aload_n C dX6_isKept_13 0 rfl rfl ?_
      refine g_iload_n C dX6_isKept_14 1 rfl rfl ?_
      refine g_cV C dX6_isKept_15 (met_X6_many C.st hw) (gc_X6_many _ (Nat.le_of_ble_eq_true rfl) (Nat.le_of_ble_eq_true rfl)) tw1156 tw1158 twp32 (ci := 6) rfl (by decide) hk0 rfl (Nat.le_of_ble_eq_true rfl) (c2 := 0) (s2 := 0) rfl rfl (Nat.le_of_ble_eq_true rfl) (Nat.le_of_ble_eq_true rfl) rfl (kIp (fun r_3 hw => ?_)) tNo
      refine g_icmp_ge C dX6_isKept_18 (tgt := 25) (by decide) (fun c18 => ?_) (fun c18 => ?_)
      · have hw := hw.1 c18
        refine g_iconst C dX6_isKept_25 (v := 0) rfl ?_
        exact g_zret C dX6_isKept_26 gB0.1 (Nat.le_of_ble_eq_true rfl) (Nat.le_of_ble_eq_true rfl) ⟨_, rfl, rfl, hw⟩
      · have hw := hw.2 c18
        refine g_iconst C dX6_isKept_21 (v := 1) rfl ?_
        refine g_goto C dX6_isKept_22 (tgt := 26) (by decide) ?_
        exact g_zret C dX6_isKept_26 gB1.1 (Nat.le_of_ble_eq_true rfl) (Nat.le_of_ble_eq_true rfl) ⟨_, rfl, rfl, hw⟩
theorem gc_X6_isKept : ∀ rm : Room, rmX6_isKept.frames + 1 ≤ rm.frames → 8 + (3 + 11) + rmX6_isKept.locals ≤ rm.locals → gCall yX6_isKept 3 2 rmX6_isKept rm := fun rm a b => ⟨Or.inl ⟨_, _, tw1294⟩, tw8, ⟨by decide, by decide⟩, by decide, a, b⟩
abbrev rmX6_notKept : Room := { frames := 3, cells := 0, slots := 0, locals := 65 }
def wp_X6_notKept (o : Nat) (p1 : Int32) (p2 : Int32) (M : MEM) (Q : Int32 → Prop) : Prop := KD o = (16, 0) ∧ (wp_X6_isSlot p1 M (fun r_1 => (r_1 = 0 → (Q 1)) ∧ (¬ r_1 = 0 → (wp_X6_isThere o p1 M (fun r_3 => (r_3 = 0 → (Q 0)) ∧ (¬ r_3 = 0 → (wp_X6_isKept o p1 p2 M (fun r_5 => (¬ r_5 = 0 → (Q 0)) ∧ (r_5 = 0 → (Q 1))))))))))
set_option maxRecDepth 100000 in
set_option maxHeartbeats 4000000 in
theorem met_X6_notKept {l : Launch} (hl : l.stackTraces = false) {E : MK} {o : Nat} {p1 : Int32} {p2 : Int32} {M : MEM} {Q : Int32 → Prop} (hw : wp_X6_notKept o p1 p2 M Q) : gMet l E yX6_notKept rmX6_notKept [gR E o, .int p1, .int p2] M (qIp M Q) gNo := by
  obtain ⟨hk0, hw⟩ := hw
  refine g_met hl (cc := cX6_notKept) (maxL := 3) (ret := (some .int)) (hh := []) (loc := [(0, gR E o), (1, .int p1), (2, .int p2)]) (by decide +kernel) (Or.inl ⟨tw1290, rfl⟩) (Nat.le_of_ble_eq_true rfl) rfl (fun K hK C => ?_)
  have C : GC K E cX6_notKept RX6 3 (some .int) [] rmX6_notKept := C
  refine g_iload_n C dX6_notKept_0 1 rfl rfl ?_
  refine g_cS C dX6_notKept_1 (met_X6_isSlot C.st hw) (gc_X6_isSlot _ (Nat.le_of_ble_eq_true rfl) (Nat.le_of_ble_eq_true rfl)) (Or.inl tw1128) tw1129 rfl (Nat.le_of_ble_eq_true rfl) (c2 := 0) (s2 := 0) rfl rfl (Nat.le_of_ble_eq_true rfl) (Nat.le_of_ble_eq_true rfl) rfl (kIp (fun r_1 hw => ?_)) tNo
  refine g_if_eq C dX6_notKept_4 (tgt := 24) (by decide) (fun c4 => ?_) (fun c4 => ?_)
  · have hw := hw.1 c4
    refine g_iconst C dX6_notKept_24 (v := 1) rfl ?_
    refine g_goto C dX6_notKept_25 (tgt := 29) (by decide) ?_
    exact g_iret C dX6_notKept_29 (Nat.le_of_ble_eq_true rfl) (Nat.le_of_ble_eq_true rfl) ⟨_, rfl, rfl, hw⟩
  · have hw := hw.2 c4
    refine g_aload_n C dX6_notKept_7 0 rfl rfl ?_
    refine g_iload_n C dX6_notKept_8 1 rfl rfl ?_
    refine g_cV C dX6_notKept_9 (met_X6_isThere C.st hw) (gc_X6_isThere _ (Nat.le_of_ble_eq_true rfl) (Nat.le_of_ble_eq_true rfl)) tw1152 tw1154 twp31 (ci := 6) rfl (by decide) hk0 rfl (Nat.le_of_ble_eq_true rfl) (c2 := 0) (s2 := 0) rfl rfl (Nat.le_of_ble_eq_true rfl) (Nat.le_of_ble_eq_true rfl) rfl (kIp (fun r_3 hw => ?_)) tNo
    refine g_if_eq C dX6_notKept_12 (tgt := 28) (by decide) (fun c12 => ?_) (fun c12 => ?_)
    · have hw := hw.1 c12
      refine g_iconst C dX6_notKept_28 (v := 0) rfl ?_
      exact g_iret C dX6_notKept_29 (Nat.le_of_ble_eq_true rfl) (Nat.le_of_ble_eq_true rfl) ⟨_, rfl, rfl, hw⟩
    · have hw := hw.2 c12
      refine g_aload_n C dX6_notKept_15 0 rfl rfl ?_
      refine g_iload_n C dX6_notKept_16 1 rfl rfl ?_
      refine g_iload_n C dX6_notKept_17 2 rfl rfl ?_
      refine g_cV C dX6_notKept_18 (met_X6_isKept C.st hw) (gc_X6_isKept _ (Nat.le_of_ble_eq_true rfl) (Nat.le_of_ble_eq_true rfl)) tw1291 tw1293 twp51 (ci := 6) rfl (by decide) hk0 rfl (Nat.le_of_ble_eq_true rfl) (c2 := 0) (s2 := 0) rfl rfl (Nat.le_of_ble_eq_true rfl) (Nat.le_of_ble_eq_true rfl) rfl (kIp (fun r_5 hw => ?_)) tNo
      refine g_if_ne C dX6_notKept_21 (tgt := 28) (by decide) (fun c21 => ?_) (fun c21 => ?_)
      · have hw := hw.1 c21
        refine g_iconst C dX6_notKept_28 (v := 0) rfl ?_
        exact g_iret C dX6_notKept_29 (Nat.le_of_ble_eq_true rfl) (Nat.le_of_ble_eq_true rfl) ⟨_, rfl, rfl, hw⟩
      · have hw := hw.2 c21
        refine g_iconst C dX6_notKept_24 (v := 1) rfl ?_
        refine g_goto C dX6_notKept_25 (tgt := 29) (by decide) ?_
        exact g_iret C dX6_notKept_29 (Nat.le_of_ble_eq_true rfl) (Nat.le_of_ble_eq_true rfl) ⟨_, rfl, rfl, hw⟩
theorem gc_X6_notKept : ∀ rm : Room, rmX6_notKept.frames + 1 ≤ rm.frames → 8 + (3 + 11) + rmX6_notKept.locals ≤ rm.locals → gCall yX6_notKept 3 2 rmX6_notKept rm := fun rm a b => ⟨Or.inl ⟨_, _, tw1290⟩, tw8, ⟨by decide, by decide⟩, by decide, a, b⟩
abbrev rmX6_kept : Room := { frames := 5, cells := 0, slots := 0, locals := 118 }
def wp_X6_kept (o : Nat) (p1 : Int32) (p2 : Int32) (p3 : Int32) (M : MEM) (Q : Int32 → MEM → Prop) : Prop := KD o = (16, 0) ∧ (wp_X6_notKept o p1 p2 M (fun r_1 => (r_1 ≤ 0 → (wp_X6_isBetween p3.toInt64 0 5 M (fun r_3 => (¬ r_3 = 0 → (wp_X6_isThere o p1 M (fun r_5 => (¬ r_5 = 0 → ((∀ M_7 : MEM, M_7 = uI M o 0 0 → (wp_X6_finds o p1 M_7 (fun M_9 => (¬ p3 = 5 → (wp_X6_item o p1 p2 p3 M_9 (fun r_10 => Q r_10 M_9))) ∧ (p3 = 5 → (KD (RF o 4) = (0, 60) ∧ vp_in p2 60 ∧ (Q (mI M_9 (RF o 4) p2.toNatClampNeg) M_9)))))))) ∧ (r_5 = 0 → (wp_X6_fails o 3 M (fun r_14 M_15 => Q r_14 M_15)))))) ∧ (r_3 = 0 → (wp_X6_fails o 2 M (fun r_16 M_17 => Q r_16 M_17)))))) ∧ (¬ r_1 ≤ 0 → (wp_X6_fails o 1 M (fun r_18 M_19 => Q r_18 M_19)))))
set_option maxRecDepth 100000 in
set_option maxHeartbeats 4000000 in
theorem met_X6_kept {l : Launch} (hl : l.stackTraces = false) {E : MK} {o : Nat} {p1 : Int32} {p2 : Int32} {p3 : Int32} {M : MEM} {Q : Int32 → MEM → Prop} (hw : wp_X6_kept o p1 p2 p3 M Q) : gMet l E yX6_kept rmX6_kept [gR E o, .int p1, .int p2, .int p3] M (qI Q) gNo := by
  obtain ⟨hk0, hw⟩ := hw
  refine g_met hl (cc := cX6_kept) (maxL := 4) (ret := (some .int)) (hh := []) (loc := [(0, gR E o), (1, .int p1), (2, .int p2), (3, .int p3)]) (by decide +kernel) (Or.inl ⟨tw1286, rfl⟩) (Nat.le_of_ble_eq_true rfl) rfl (fun K hK C => ?_)
  have C : GC K E cX6_kept RX6 4 (some .int) [] rmX6_kept := C
  refine g_aload_n C dX6_kept_0 0 rfl rfl ?_
  refine g_iload_n C dX6_kept_1 1 rfl rfl ?_
  refine g_iload_n C dX6_kept_2 2 rfl rfl ?_
  refine g_cV C dX6_kept_3 (met_X6_notKept C.st hw) (gc_X6_notKept _ (Nat.le_of_ble_eq_true rfl) (Nat.le_of_ble_eq_true rfl)) tw1287 tw1289 twp50 (ci := 6) rfl (by decide) hk0 rfl (Nat.le_of_ble_eq_true rfl) (c2 := 0) (s2 := 0) rfl rfl (Nat.le_of_ble_eq_true rfl) (Nat.le_of_ble_eq_true rfl) rfl (kIp (fun r_1 hw => ?_)) tNo
  refine g_if_le C dX6_kept_6 (tgt := 15) (by decide) (fun c6 => ?_) (fun c6 => ?_)
  · have hw := hw.1 c6
    refine g_iload_n C dX6_kept_15 3 rfl rfl ?_
    refine g_i2l C dX6_kept_16 ?_
    refine g_lconst C dX6_kept_17 (v := 0) rfl ?_
    refine g_ldc2 C dX6_kept_18 tw1295 ?_
    refine g_cS C dX6_kept_21 (met_X6_isBetween C.st hw) (gc_X6_isBetween _ (Nat.le_of_ble_eq_true rfl) (Nat.le_of_ble_eq_true rfl)) (Or.inl tw1139) tw1140 rfl (Nat.le_of_ble_eq_true rfl) (c2 := 0) (s2 := 0) rfl rfl (Nat.le_of_ble_eq_true rfl) (Nat.le_of_ble_eq_true rfl) rfl (kIp (fun r_3 hw => ?_)) tNo
    refine g_if_ne C dX6_kept_24 (tgt := 33) (by decide) (fun c24 => ?_) (fun c24 => ?_)
    · have hw := hw.1 c24
      refine g_aload_n C dX6_kept_33 0 rfl rfl ?_
      refine g_iload_n C dX6_kept_34 1 rfl rfl ?_
      refine g_cV C dX6_kept_35 (met_X6_isThere C.st hw) (gc_X6_isThere _ (Nat.le_of_ble_eq_true rfl) (Nat.le_of_ble_eq_true rfl)) tw1152 tw1154 twp31 (ci := 6) rfl (by decide) hk0 rfl (Nat.le_of_ble_eq_true rfl) (c2 := 0) (s2 := 0) rfl rfl (Nat.le_of_ble_eq_true rfl) (Nat.le_of_ble_eq_true rfl) rfl (kIp (fun r_5 hw => ?_)) tNo
      refine g_if_ne C dX6_kept_38 (tgt := 47) (by decide) (fun c38 => ?_) (fun c38 => ?_)
      · have hw := hw.1 c38
        refine g_aload_n C dX6_kept_47 0 rfl rfl ?_
        refine g_iconst C dX6_kept_48 (v := 0) rfl ?_
        refine pf_RX6_57 C hk0 dX6_kept_49 ?_
        refine g_nmM (fun M_7 eM_7 => ?_)
        have hw := hw M_7 eM_7
        refine g_aload_n C dX6_kept_52 0 rfl rfl ?_
        refine g_iload_n C dX6_kept_53 1 rfl rfl ?_
        refine g_cV C dX6_kept_54 (met_X6_finds C.st hw) (gc_X6_finds _ (Nat.le_of_ble_eq_true rfl) (Nat.le_of_ble_eq_true rfl)) tw1216 tw1218 twp40 (ci := 6) rfl (by decide) hk0 rfl (Nat.le_of_ble_eq_true rfl) (c2 := 0) (s2 := 0) rfl rfl (Nat.le_of_ble_eq_true rfl) (Nat.le_of_ble_eq_true rfl) rfl (kV (fun M_9 hw => ?_)) tNo
        refine g_iload_n C dX6_kept_57 3 rfl rfl ?_
        refine g_iconst C dX6_kept_58 (v := 5) rfl ?_
        refine g_icmp_ne C dX6_kept_59 (tgt := 71) (by decide) (fun c59 => ?_) (fun c59 => ?_)
        · have hw := hw.1 c59
          refine g_aload_n C dX6_kept_71 0 rfl rfl ?_
          refine g_iload_n C dX6_kept_72 1 rfl rfl ?_
          refine g_iload_n C dX6_kept_73 2 rfl rfl ?_
          refine g_iload_n C dX6_kept_74 3 rfl rfl ?_
          refine g_cV C dX6_kept_75 (met_X6_item C.st hw) (gc_X6_item _ (Nat.le_of_ble_eq_true rfl) (Nat.le_of_ble_eq_true rfl)) tw1197 tw1199 twp38 (ci := 6) rfl (by decide) hk0 rfl (Nat.le_of_ble_eq_true rfl) (c2 := 0) (s2 := 0) rfl rfl (Nat.le_of_ble_eq_true rfl) (Nat.le_of_ble_eq_true rfl) rfl (kIp (fun r_10 hw => ?_)) tNo
          exact g_iret C dX6_kept_78 (Nat.le_of_ble_eq_true rfl) (Nat.le_of_ble_eq_true rfl) ⟨_, rfl, hw⟩
        · have hw := hw.2 c59
          refine g_aload_n C dX6_kept_62 0 rfl rfl ?_
          refine gf_RX6_19 C hk0 dX6_kept_63 ?_
          refine g_iload_n C dX6_kept_66 2 rfl rfl ?_
          obtain ⟨hk_12, hw⟩ := hw
          obtain ⟨hi_13, hw⟩ := hw
          refine g_iaload C hk_12 hi_13 dX6_kept_67 ?_
          refine g_goto C dX6_kept_68 (tgt := 78) (by decide) ?_
          exact g_iret C dX6_kept_78 (Nat.le_of_ble_eq_true rfl) (Nat.le_of_ble_eq_true rfl) ⟨_, rfl, hw⟩
      · have hw := hw.2 c38
        refine g_aload_n C dX6_kept_41 0 rfl rfl ?_
        refine g_iconst C dX6_kept_42 (v := 3) rfl ?_
        refine g_cV C dX6_kept_43 (met_X6_fails C.st hw) (gc_X6_fails _ (Nat.le_of_ble_eq_true rfl) (Nat.le_of_ble_eq_true rfl)) tw1131 tw1133 twp28 (ci := 6) rfl (by decide) hk0 rfl (Nat.le_of_ble_eq_true rfl) (c2 := 0) (s2 := 0) rfl rfl (Nat.le_of_ble_eq_true rfl) (Nat.le_of_ble_eq_true rfl) rfl (kI (fun r_14 M_15 hw => ?_)) tNo
        exact g_iret C dX6_kept_46 (Nat.le_of_ble_eq_true rfl) (Nat.le_of_ble_eq_true rfl) ⟨_, rfl, hw⟩
    · have hw := hw.2 c24
      refine g_aload_n C dX6_kept_27 0 rfl rfl ?_
      refine g_iconst C dX6_kept_28 (v := 2) rfl ?_
      refine g_cV C dX6_kept_29 (met_X6_fails C.st hw) (gc_X6_fails _ (Nat.le_of_ble_eq_true rfl) (Nat.le_of_ble_eq_true rfl)) tw1131 tw1133 twp28 (ci := 6) rfl (by decide) hk0 rfl (Nat.le_of_ble_eq_true rfl) (c2 := 0) (s2 := 0) rfl rfl (Nat.le_of_ble_eq_true rfl) (Nat.le_of_ble_eq_true rfl) rfl (kI (fun r_16 M_17 hw => ?_)) tNo
      exact g_iret C dX6_kept_32 (Nat.le_of_ble_eq_true rfl) (Nat.le_of_ble_eq_true rfl) ⟨_, rfl, hw⟩
  · have hw := hw.2 c6
    refine g_aload_n C dX6_kept_9 0 rfl rfl ?_
    refine g_iconst C dX6_kept_10 (v := 1) rfl ?_
    refine g_cV C dX6_kept_11 (met_X6_fails C.st hw) (gc_X6_fails _ (Nat.le_of_ble_eq_true rfl) (Nat.le_of_ble_eq_true rfl)) tw1131 tw1133 twp28 (ci := 6) rfl (by decide) hk0 rfl (Nat.le_of_ble_eq_true rfl) (c2 := 0) (s2 := 0) rfl rfl (Nat.le_of_ble_eq_true rfl) (Nat.le_of_ble_eq_true rfl) rfl (kI (fun r_18 M_19 hw => ?_)) tNo
    exact g_iret C dX6_kept_14 (Nat.le_of_ble_eq_true rfl) (Nat.le_of_ble_eq_true rfl) ⟨_, rfl, hw⟩
theorem gc_X6_kept : ∀ rm : Room, rmX6_kept.frames + 1 ≤ rm.frames → 8 + (4 + 11) + rmX6_kept.locals ≤ rm.locals → gCall yX6_kept 4 3 rmX6_kept rm := fun rm a b => ⟨Or.inl ⟨_, _, tw1286⟩, tw8, ⟨by decide, by decide⟩, by decide, a, b⟩
abbrev rmX6_sampled : Room := { frames := 5, cells := 0, slots := 0, locals := 118 }
def wp_X6_sampled_J56 (o : Nat) (p1 : Int32) (p2 : Int32) (p3 : Int32) (Q : Int32 → MEM → Prop) (M_5 : MEM) : Prop := wp_X6_isBetween p3.toInt64 0 4 M_5 (fun r_8 => (¬ r_8 = 0 → (wp_X6_isThere o p1 M_5 (fun r_10 => (¬ r_10 = 0 → ((∀ M_12 : MEM, M_12 = uI M_5 o 0 0 → (KD (RF o 3) = (0, 60) ∧ vp_in p2 60 ∧ (wp_X6_item o p1 (mI M_12 (RF o 3) p2.toNatClampNeg) p3 M_12 (fun r_15 => Q r_15 M_12)))))) ∧ (r_10 = 0 → (wp_X6_fails o 3 M_5 (fun r_17 M_18 => Q r_17 M_18)))))) ∧ (r_8 = 0 → (wp_X6_fails o 2 M_5 (fun r_19 M_20 => Q r_19 M_20))))
def wp_X6_sampled_J26 (o : Nat) (p1 : Int32) (p2 : Int32) (p3 : Int32) (Q : Int32 → MEM → Prop) (M_5 : MEM) : Prop := wp_X6_isThere o p1 M_5 (fun r_6 => (r_6 = 0 → (wp_X6_sampled_J56 o p1 p2 p3 Q M_5)) ∧ (¬ r_6 = 0 → (wp_X6_isBetween p2.toInt64 0 (((mI M_5 o 6) - 1 : Int32).toInt64) M_5 (fun r_21 => (¬ r_21 = 0 → (wp_X6_sampled_J56 o p1 p2 p3 Q M_5)) ∧ (r_21 = 0 → (wp_X6_fails o 1 M_5 (fun r_23 M_24 => Q r_23 M_24)))))))
def wp_X6_sampled (o : Nat) (p1 : Int32) (p2 : Int32) (p3 : Int32) (M : MEM) (Q : Int32 → MEM → Prop) : Prop := KD o = (16, 0) ∧ (wp_X6_isSlot p1 M (fun r_1 => (¬ r_1 = 0 → (wp_X6_isThere o p1 M (fun r_3 => (r_3 = 0 → (wp_X6_sampled_J26 o p1 p2 p3 Q M)) ∧ (¬ r_3 = 0 → (wp_X6_finds o p1 M (fun M_26 => wp_X6_sampled_J26 o p1 p2 p3 Q M_26)))))) ∧ (r_1 = 0 → (wp_X6_fails o 1 M (fun r_27 M_28 => Q r_27 M_28)))))
set_option maxRecDepth 100000 in
set_option maxHeartbeats 4000000 in
theorem met_X6_sampled {l : Launch} (hl : l.stackTraces = false) {E : MK} {o : Nat} {p1 : Int32} {p2 : Int32} {p3 : Int32} {M : MEM} {Q : Int32 → MEM → Prop} (hw : wp_X6_sampled o p1 p2 p3 M Q) : gMet l E yX6_sampled rmX6_sampled [gR E o, .int p1, .int p2, .int p3] M (qI Q) gNo := by
  obtain ⟨hk0, hw⟩ := hw
  refine g_met hl (cc := cX6_sampled) (maxL := 4) (ret := (some .int)) (hh := []) (loc := [(0, gR E o), (1, .int p1), (2, .int p2), (3, .int p3)]) (by decide +kernel) (Or.inl ⟨tw1299, rfl⟩) (Nat.le_of_ble_eq_true rfl) rfl (fun K hK C => ?_)
  have C : GC K E cX6_sampled RX6 4 (some .int) [] rmX6_sampled := C
  refine g_iload_n C dX6_sampled_0 1 rfl rfl ?_
  refine g_cS C dX6_sampled_1 (met_X6_isSlot C.st hw) (gc_X6_isSlot _ (Nat.le_of_ble_eq_true rfl) (Nat.le_of_ble_eq_true rfl)) (Or.inl tw1128) tw1129 rfl (Nat.le_of_ble_eq_true rfl) (c2 := 0) (s2 := 0) rfl rfl (Nat.le_of_ble_eq_true rfl) (Nat.le_of_ble_eq_true rfl) rfl (kIp (fun r_1 hw => ?_)) tNo
  refine g_if_ne C dX6_sampled_4 (tgt := 13) (by decide) (fun c4 => ?_) (fun c4 => ?_)
  · have hw := hw.1 c4
    refine g_aload_n C dX6_sampled_13 0 rfl rfl ?_
    refine g_iload_n C dX6_sampled_14 1 rfl rfl ?_
    refine g_cV C dX6_sampled_15 (met_X6_isThere C.st hw) (gc_X6_isThere _ (Nat.le_of_ble_eq_true rfl) (Nat.le_of_ble_eq_true rfl)) tw1152 tw1154 twp31 (ci := 6) rfl (by decide) hk0 rfl (Nat.le_of_ble_eq_true rfl) (c2 := 0) (s2 := 0) rfl rfl (Nat.le_of_ble_eq_true rfl) (Nat.le_of_ble_eq_true rfl) rfl (kIp (fun r_3 hw => ?_)) tNo
    have hJ26 : ∀ (M_5 : MEM), wp_X6_sampled_J26 o p1 p2 p3 Q M_5 → GX K E 4 M_5 [(0, gR E o), (1, .int p1), (2, .int p2), (3, .int p3)] [] 26 0 0 (gEnd K E (qI Q) gNo rmX6_sampled.cells rmX6_sampled.slots) := by
      intro M_5 hw
      refine g_aload_n C dX6_sampled_26 0 rfl rfl ?_
      refine g_iload_n C dX6_sampled_27 1 rfl rfl ?_
      refine g_cV C dX6_sampled_28 (met_X6_isThere C.st hw) (gc_X6_isThere _ (Nat.le_of_ble_eq_true rfl) (Nat.le_of_ble_eq_true rfl)) tw1152 tw1154 twp31 (ci := 6) rfl (by decide) hk0 rfl (Nat.le_of_ble_eq_true rfl) (c2 := 0) (s2 := 0) rfl rfl (Nat.le_of_ble_eq_true rfl) (Nat.le_of_ble_eq_true rfl) rfl (kIp (fun r_6 hw => ?_)) tNo
      have hJ56 : wp_X6_sampled_J56 o p1 p2 p3 Q M_5 → GX K E 4 M_5 [(0, gR E o), (1, .int p1), (2, .int p2), (3, .int p3)] [] 56 0 0 (gEnd K E (qI Q) gNo rmX6_sampled.cells rmX6_sampled.slots) := by
        intro hw
        refine g_iload_n C dX6_sampled_56 3 rfl rfl ?_
        refine g_i2l C dX6_sampled_57 ?_
        refine g_lconst C dX6_sampled_58 (v := 0) rfl ?_
        refine g_ldc2 C dX6_sampled_59 tw1300 ?_
        refine g_cS C dX6_sampled_62 (met_X6_isBetween C.st hw) (gc_X6_isBetween _ (Nat.le_of_ble_eq_true rfl) (Nat.le_of_ble_eq_true rfl)) (Or.inl tw1139) tw1140 rfl (Nat.le_of_ble_eq_true rfl) (c2 := 0) (s2 := 0) rfl rfl (Nat.le_of_ble_eq_true rfl) (Nat.le_of_ble_eq_true rfl) rfl (kIp (fun r_8 hw => ?_)) tNo
        refine g_if_ne C dX6_sampled_65 (tgt := 74) (by decide) (fun c65 => ?_) (fun c65 => ?_)
        · have hw := hw.1 c65
          refine g_aload_n C dX6_sampled_74 0 rfl rfl ?_
          refine g_iload_n C dX6_sampled_75 1 rfl rfl ?_
          refine g_cV C dX6_sampled_76 (met_X6_isThere C.st hw) (gc_X6_isThere _ (Nat.le_of_ble_eq_true rfl) (Nat.le_of_ble_eq_true rfl)) tw1152 tw1154 twp31 (ci := 6) rfl (by decide) hk0 rfl (Nat.le_of_ble_eq_true rfl) (c2 := 0) (s2 := 0) rfl rfl (Nat.le_of_ble_eq_true rfl) (Nat.le_of_ble_eq_true rfl) rfl (kIp (fun r_10 hw => ?_)) tNo
          refine g_if_ne C dX6_sampled_79 (tgt := 88) (by decide) (fun c79 => ?_) (fun c79 => ?_)
          · have hw := hw.1 c79
            refine g_aload_n C dX6_sampled_88 0 rfl rfl ?_
            refine g_iconst C dX6_sampled_89 (v := 0) rfl ?_
            refine pf_RX6_57 C hk0 dX6_sampled_90 ?_
            refine g_nmM (fun M_12 eM_12 => ?_)
            have hw := hw M_12 eM_12
            refine g_aload_n C dX6_sampled_93 0 rfl rfl ?_
            refine g_iload_n C dX6_sampled_94 1 rfl rfl ?_
            refine g_aload_n C dX6_sampled_95 0 rfl rfl ?_
            refine gf_RX6_16 C hk0 dX6_sampled_96 ?_
            refine g_iload_n C dX6_sampled_99 2 rfl rfl ?_
            obtain ⟨hk_13, hw⟩ := hw
            obtain ⟨hi_14, hw⟩ := hw
            refine g_iaload C hk_13 hi_14 dX6_sampled_100 ?_
            refine g_iload_n C dX6_sampled_101 3 rfl rfl ?_
            refine g_cV C dX6_sampled_102 (met_X6_item C.st hw) (gc_X6_item _ (Nat.le_of_ble_eq_true rfl) (Nat.le_of_ble_eq_true rfl)) tw1197 tw1199 twp38 (ci := 6) rfl (by decide) hk0 rfl (Nat.le_of_ble_eq_true rfl) (c2 := 0) (s2 := 0) rfl rfl (Nat.le_of_ble_eq_true rfl) (Nat.le_of_ble_eq_true rfl) rfl (kIp (fun r_15 hw => ?_)) tNo
            exact g_iret C dX6_sampled_105 (Nat.le_of_ble_eq_true rfl) (Nat.le_of_ble_eq_true rfl) ⟨_, rfl, hw⟩
          · have hw := hw.2 c79
            refine g_aload_n C dX6_sampled_82 0 rfl rfl ?_
            refine g_iconst C dX6_sampled_83 (v := 3) rfl ?_
            refine g_cV C dX6_sampled_84 (met_X6_fails C.st hw) (gc_X6_fails _ (Nat.le_of_ble_eq_true rfl) (Nat.le_of_ble_eq_true rfl)) tw1131 tw1133 twp28 (ci := 6) rfl (by decide) hk0 rfl (Nat.le_of_ble_eq_true rfl) (c2 := 0) (s2 := 0) rfl rfl (Nat.le_of_ble_eq_true rfl) (Nat.le_of_ble_eq_true rfl) rfl (kI (fun r_17 M_18 hw => ?_)) tNo
            exact g_iret C dX6_sampled_87 (Nat.le_of_ble_eq_true rfl) (Nat.le_of_ble_eq_true rfl) ⟨_, rfl, hw⟩
        · have hw := hw.2 c65
          refine g_aload_n C dX6_sampled_68 0 rfl rfl ?_
          refine g_iconst C dX6_sampled_69 (v := 2) rfl ?_
          refine g_cV C dX6_sampled_70 (met_X6_fails C.st hw) (gc_X6_fails _ (Nat.le_of_ble_eq_true rfl) (Nat.le_of_ble_eq_true rfl)) tw1131 tw1133 twp28 (ci := 6) rfl (by decide) hk0 rfl (Nat.le_of_ble_eq_true rfl) (c2 := 0) (s2 := 0) rfl rfl (Nat.le_of_ble_eq_true rfl) (Nat.le_of_ble_eq_true rfl) rfl (kI (fun r_19 M_20 hw => ?_)) tNo
          exact g_iret C dX6_sampled_73 (Nat.le_of_ble_eq_true rfl) (Nat.le_of_ble_eq_true rfl) ⟨_, rfl, hw⟩
      refine g_if_eq C dX6_sampled_31 (tgt := 56) (by decide) (fun c31 => ?_) (fun c31 => ?_)
      · have hw := hw.1 c31
        exact hJ56 hw
      · have hw := hw.2 c31
        refine g_iload_n C dX6_sampled_34 2 rfl rfl ?_
        refine g_i2l C dX6_sampled_35 ?_
        refine g_lconst C dX6_sampled_36 (v := 0) rfl ?_
        refine g_aload_n C dX6_sampled_37 0 rfl rfl ?_
        refine gf_RX6_160 C hk0 dX6_sampled_38 ?_
        refine g_iconst C dX6_sampled_41 (v := 1) rfl ?_
        refine g_isub C dX6_sampled_42 ?_
        refine g_i2l C dX6_sampled_43 ?_
        refine g_cS C dX6_sampled_44 (met_X6_isBetween C.st hw) (gc_X6_isBetween _ (Nat.le_of_ble_eq_true rfl) (Nat.le_of_ble_eq_true rfl)) (Or.inl tw1139) tw1140 rfl (Nat.le_of_ble_eq_true rfl) (c2 := 0) (s2 := 0) rfl rfl (Nat.le_of_ble_eq_true rfl) (Nat.le_of_ble_eq_true rfl) rfl (kIp (fun r_21 hw => ?_)) tNo
        refine g_if_ne C dX6_sampled_47 (tgt := 56) (by decide) (fun c47 => ?_) (fun c47 => ?_)
        · have hw := hw.1 c47
          exact hJ56 hw
        · have hw := hw.2 c47
          refine g_aload_n C dX6_sampled_50 0 rfl rfl ?_
          refine g_iconst C dX6_sampled_51 (v := 1) rfl ?_
          refine g_cV C dX6_sampled_52 (met_X6_fails C.st hw) (gc_X6_fails _ (Nat.le_of_ble_eq_true rfl) (Nat.le_of_ble_eq_true rfl)) tw1131 tw1133 twp28 (ci := 6) rfl (by decide) hk0 rfl (Nat.le_of_ble_eq_true rfl) (c2 := 0) (s2 := 0) rfl rfl (Nat.le_of_ble_eq_true rfl) (Nat.le_of_ble_eq_true rfl) rfl (kI (fun r_23 M_24 hw => ?_)) tNo
          exact g_iret C dX6_sampled_55 (Nat.le_of_ble_eq_true rfl) (Nat.le_of_ble_eq_true rfl) ⟨_, rfl, hw⟩
    refine g_if_eq C dX6_sampled_18 (tgt := 26) (by decide) (fun c18 => ?_) (fun c18 => ?_)
    · have hw := hw.1 c18
      exact hJ26 _ hw
    · have hw := hw.2 c18
      refine g_aload_n C dX6_sampled_21 0 rfl rfl ?_
      refine g_iload_n C dX6_sampled_22 1 rfl rfl ?_
      refine g_cV C dX6_sampled_23 (met_X6_finds C.st hw) (gc_X6_finds _ (Nat.le_of_ble_eq_true rfl) (Nat.le_of_ble_eq_true rfl)) tw1216 tw1218 twp40 (ci := 6) rfl (by decide) hk0 rfl (Nat.le_of_ble_eq_true rfl) (c2 := 0) (s2 := 0) rfl rfl (Nat.le_of_ble_eq_true rfl) (Nat.le_of_ble_eq_true rfl) rfl (kV (fun M_26 hw => ?_)) tNo
      exact hJ26 _ hw
  · have hw := hw.2 c4
    refine g_aload_n C dX6_sampled_7 0 rfl rfl ?_
    refine g_iconst C dX6_sampled_8 (v := 1) rfl ?_
    refine g_cV C dX6_sampled_9 (met_X6_fails C.st hw) (gc_X6_fails _ (Nat.le_of_ble_eq_true rfl) (Nat.le_of_ble_eq_true rfl)) tw1131 tw1133 twp28 (ci := 6) rfl (by decide) hk0 rfl (Nat.le_of_ble_eq_true rfl) (c2 := 0) (s2 := 0) rfl rfl (Nat.le_of_ble_eq_true rfl) (Nat.le_of_ble_eq_true rfl) rfl (kI (fun r_27 M_28 hw => ?_)) tNo
    exact g_iret C dX6_sampled_12 (Nat.le_of_ble_eq_true rfl) (Nat.le_of_ble_eq_true rfl) ⟨_, rfl, hw⟩
theorem gc_X6_sampled : ∀ rm : Room, rmX6_sampled.frames + 1 ≤ rm.frames → 8 + (4 + 11) + rmX6_sampled.locals ≤ rm.locals → gCall yX6_sampled 4 3 rmX6_sampled rm := fun rm a b => ⟨Or.inl ⟨_, _, tw1299⟩, tw8, ⟨by decide, by decide⟩, by decide, a, b⟩
