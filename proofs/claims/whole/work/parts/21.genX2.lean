abbrev rmX3_choose : Room := { frames := 3, cells := 0, slots := 0, locals := 65 }
def wp_X3_choose_J65 (o : Nat) (K4 : Int32 → Int32 → MEM → Prop) (x1_1 : Int32) (x2_2 : Int32) (M_3 : MEM) (r_4 : Int32) (s_6 : Int32) : Prop := (s_6 = 0 → (∀ x1_7 : Int32, x1_7 = x1_1 + 1 → (wp_X3_place o r_4 x1_7 M_3 (fun M_9 => ∀ x2_10 : Int32, x2_10 = x2_2 + 1 → (K4 x1_7 x2_10 M_9))))) ∧ (¬ s_6 = 0 → (wp_X3_place o r_4 0 M_3 (fun M_12 => ∀ x2_13 : Int32, x2_13 = x2_2 + 1 → (K4 0 x2_13 M_12))))
def wp_X3_choose_J64 (o : Nat) (K4 : Int32 → Int32 → MEM → Prop) (x1_1 : Int32) (x2_2 : Int32) (M_3 : MEM) (r_4 : Int32) : Prop := wp_X3_choose_J65 o K4 x1_1 x2_2 M_3 r_4 0
def wp_X3_choose_L4 (o : Nat) (Q : MEM → Prop) : Nat → Int32 → Int32 → MEM → Prop
  | 0, _, _, _ => False
  | n4 + 1, x1_1, x2_2, M_3 => ((mI M_3 o 1) ≤ x2_2 → (Q M_3)) ∧ (¬ (mI M_3 o 1) ≤ x2_2 → (wp_X3_candidateAt o x2_2 M_3 (fun r_4 => (x2_2 ≤ 0 → (wp_X3_choose_J64 o (wp_X3_choose_L4 o Q n4) x1_1 x2_2 M_3 r_4)) ∧ (¬ x2_2 ≤ 0 → (KD (mO M_3 o) = (14, 0) ∧ ((¬ (mI M_3 (mO M_3 o) 1) = 2 → (wp_X3_choose_J64 o (wp_X3_choose_L4 o Q n4) x1_1 x2_2 M_3 r_4)) ∧ ((mI M_3 (mO M_3 o) 1) = 2 → (wp_X4_partAt (mO M_3 o) r_4 2 M_3 (fun r_15 => wp_X3_candidateAt o (x2_2 - 1) M_3 (fun r_17 => wp_X4_partAt (mO M_3 o) r_17 2 M_3 (fun r_19 => (r_15 = r_19 → (wp_X3_choose_J64 o (wp_X3_choose_L4 o Q n4) x1_1 x2_2 M_3 r_4)) ∧ (¬ r_15 = r_19 → (wp_X3_choose_J65 o (wp_X3_choose_L4 o Q n4) x1_1 x2_2 M_3 r_4 1)))))))))))))
def wp_X3_choose (o : Nat) (M : MEM) (Q : MEM → Prop) : Prop := KD o = (13, 0) ∧ (∃ m4 : Nat, wp_X3_choose_L4 o Q m4 (-1) 0 M)
set_option maxRecDepth 100000 in
set_option maxHeartbeats 4000000 in
theorem met_X3_choose {l : Launch} (hl : l.stackTraces = false) {E : MK} {o : Nat} {M : MEM} {Q : MEM → Prop} (hw : wp_X3_choose o M Q) : gMet l E yX3_choose rmX3_choose [gR E o] M (qV Q) gNo := by
  obtain ⟨hk0, hw⟩ := hw
  refine g_met hl (cc := cX3_choose) (maxL := 5) (ret := none) (hh := []) (loc := [(0, gR E o)]) (by decide +kernel) (Or.inl ⟨tw505, rfl⟩) (Nat.le_of_ble_eq_true rfl) rfl (fun K hK C => ?_)
  have C : GC K E cX3_choose RX3 5 none [] rmX3_choose := C
  refine g_iconst C dX3_choose_0 (v := (-1)) rfl ?_
  refine g_istore_n C dX3_choose_1 rfl (Nat.le_of_ble_eq_true rfl) (loc' := [(1, .int (-1)), (0, gR E o)]) rfl ?_
  refine g_iconst C dX3_choose_2 (v := 0) rfl ?_
  refine g_istore_n C dX3_choose_3 rfl (Nat.le_of_ble_eq_true rfl) (loc' := [(2, .int 0), (1, .int (-1)), (0, gR E o)]) rfl ?_
  obtain ⟨m4, hw⟩ := hw
  have hL4 : ∀ (n4 : Nat) (x1_1 : Int32) (x2_2 : Int32) (M_3 : MEM), wp_X3_choose_L4 o Q n4 x1_1 x2_2 M_3 → GX K E 5 M_3 [(0, gR E o), (1, .int x1_1), (2, .int x2_2)] [] 4 0 0 (gEnd K E (qV Q) gNo rmX3_choose.cells rmX3_choose.slots) := by
    intro n4
    induction n4 with
    | zero => intro _ _ _ hw; exact False.elim hw
    | succ n4 ih4 =>
      intro x1_1 x2_2 M_3 hw
      refine g_iload_n C dX3_choose_4 2 rfl rfl ?_
      refine g_aload_n C dX3_choose_5 0 rfl rfl ?_
      refine gf_RX3_42 C hk0 dX3_choose_6 ?_
      refine g_icmp_ge C dX3_choose_9 (tgt := 92) (by decide) (fun c9 => ?_) (fun c9 => ?_)
      · have hw := hw.1 c9
        exact g_vret C dX3_choose_92 (Nat.le_of_ble_eq_true rfl) (Nat.le_of_ble_eq_true rfl) ⟨rfl, hw⟩
      · have hw := hw.2 c9
        refine g_aload_n C dX3_choose_12 0 rfl rfl ?_
        refine g_iload_n C dX3_choose_13 2 rfl rfl ?_
        refine g_cV C dX3_choose_14 (met_X3_candidateAt C.st hw) (gc_X3_candidateAt _ (Nat.le_of_ble_eq_true rfl) (Nat.le_of_ble_eq_true rfl)) tw506 tw508 twp11 (ci := 3) rfl (by decide) hk0 rfl (Nat.le_of_ble_eq_true rfl) (c2 := 0) (s2 := 0) rfl rfl (Nat.le_of_ble_eq_true rfl) (Nat.le_of_ble_eq_true rfl) rfl (kIp (fun r_4 hw => ?_)) tNo
        refine g_istore_n C dX3_choose_17 rfl (Nat.le_of_ble_eq_true rfl) (loc' := [(3, .int r_4), (0, gR E o), (1, .int x1_1), (2, .int x2_2)]) rfl ?_
        refine g_iload_n C dX3_choose_18 3 rfl rfl ?_
        have hJ65 : ∀ (s_6 : Int32), wp_X3_choose_J65 o (wp_X3_choose_L4 o Q n4) x1_1 x2_2 M_3 r_4 s_6 → GX K E 5 M_3 [(0, gR E o), (1, .int x1_1), (2, .int x2_2), (3, .int r_4)] [.int s_6] 65 0 0 (gEnd K E (qV Q) gNo rmX3_choose.cells rmX3_choose.slots) := by
          intro s_6 hw
          refine g_istore C dX3_choose_65 (Nat.le_of_ble_eq_true rfl) (loc' := [(4, .int s_6), (0, gR E o), (1, .int x1_1), (2, .int x2_2), (3, .int r_4)]) rfl ?_
          refine g_iload C (j := 0) dX3_choose_67 0 rfl ?_
          refine g_if_eq C dX3_choose_69 (tgt := 76) (by decide) (fun c69 => ?_) (fun c69 => ?_)
          · have hw := hw.1 c69
            refine g_iload_n C dX3_choose_76 2 rfl rfl ?_
            refine g_iconst C dX3_choose_77 (v := 1) rfl ?_
            refine g_iadd C dX3_choose_78 ?_
            refine g_nmI (fun x1_7 ex1_7 => ?_)
            have hw := hw x1_7 ex1_7
            refine g_istore_n C dX3_choose_79 rfl (Nat.le_of_ble_eq_true rfl) (loc' := [(1, .int x1_7), (4, .int s_6), (0, gR E o), (2, .int x2_2), (3, .int r_4)]) rfl ?_
            refine g_aload_n C dX3_choose_80 2 rfl rfl ?_
            refine g_iload_n C dX3_choose_81 4 rfl rfl ?_
            refine g_iload_n C dX3_choose_82 0 rfl rfl ?_
            refine g_cV C dX3_choose_83 (met_X3_place C.st hw) (gc_X3_place _ (Nat.le_of_ble_eq_true rfl) (Nat.le_of_ble_eq_true rfl)) tw510 tw512 twp12 (ci := 3) rfl (by decide) hk0 rfl (Nat.le_of_ble_eq_true rfl) (c2 := 0) (s2 := 0) rfl rfl (Nat.le_of_ble_eq_true rfl) (Nat.le_of_ble_eq_true rfl) rfl (kV (fun M_9 hw => ?_)) tNo
            obtain ⟨x2_10, ex2_10⟩ : ∃ y : Int32, y = x2_2 + 1 := ⟨_, rfl⟩
            have hw := hw x2_10 ex2_10
            refine g_iinc C (j := 0) dX3_choose_86 3 rfl (v := x2_10) (by rw [ex2_10]; rfl) (Nat.le_of_ble_eq_true rfl) (loc' := [(2, .int x2_10), (1, .int x1_7), (4, .int s_6), (0, gR E o), (3, .int r_4)]) rfl ?_
            refine g_goto C dX3_choose_89 (tgt := 4) (by decide) ?_
            refine g_sub [3, 1, 0] rfl ?_
            exact ih4 _ _ _ hw
          · have hw := hw.2 c69
            refine g_iconst C dX3_choose_72 (v := 0) rfl ?_
            refine g_goto C dX3_choose_73 (tgt := 79) (by decide) ?_
            refine g_istore_n C dX3_choose_79 rfl (Nat.le_of_ble_eq_true rfl) (loc' := [(1, .int 0), (4, .int s_6), (0, gR E o), (2, .int x2_2), (3, .int r_4)]) rfl ?_
            refine g_aload_n C dX3_choose_80 2 rfl rfl ?_
            refine g_iload_n C dX3_choose_81 4 rfl rfl ?_
            refine g_iload_n C dX3_choose_82 0 rfl rfl ?_
            refine g_cV C dX3_choose_83 (met_X3_place C.st hw) (gc_X3_place _ (Nat.le_of_ble_eq_true rfl) (Nat.le_of_ble_eq_true rfl)) tw510 tw512 twp12 (ci := 3) rfl (by decide) hk0 rfl (Nat.le_of_ble_eq_true rfl) (c2 := 0) (s2 := 0) rfl rfl (Nat.le_of_ble_eq_true rfl) (Nat.le_of_ble_eq_true rfl) rfl (kV (fun M_12 hw => ?_)) tNo
            obtain ⟨x2_13, ex2_13⟩ : ∃ y : Int32, y = x2_2 + 1 := ⟨_, rfl⟩
            have hw := hw x2_13 ex2_13
            refine g_iinc C (j := 0) dX3_choose_86 3 rfl (v := x2_13) (by rw [ex2_13]; rfl) (Nat.le_of_ble_eq_true rfl) (loc' := [(2, .int x2_13), (1, .int 0), (4, .int s_6), (0, gR E o), (3, .int r_4)]) rfl ?_
            refine g_goto C dX3_choose_89 (tgt := 4) (by decide) ?_
            refine g_sub [3, 1, 0] rfl ?_
            exact ih4 _ _ _ hw
        have hJ64 : wp_X3_choose_J64 o (wp_X3_choose_L4 o Q n4) x1_1 x2_2 M_3 r_4 → GX K E 5 M_3 [(0, gR E o), (1, .int x1_1), (2, .int x2_2), (3, .int r_4)] [] 64 0 0 (gEnd K E (qV Q) gNo rmX3_choose.cells rmX3_choose.slots) := by
          intro hw
          refine g_iconst C dX3_choose_64 (v := 0) rfl ?_
          exact hJ65 _ hw
        refine g_if_le C dX3_choose_19 (tgt := 64) (by decide) (fun c19 => ?_) (fun c19 => ?_)
        · have hw := hw.1 c19
          refine g_sub [1, 2, 3, 0] rfl ?_
          exact hJ64 hw
        · have hw := hw.2 c19
          refine g_aload_n C dX3_choose_22 1 rfl rfl ?_
          refine gf_RX3_12 C hk0 dX3_choose_23 ?_
          obtain ⟨hk_14, hw⟩ := hw
          refine gf_RX3_59 C hk_14 dX3_choose_26 ?_
          refine g_iconst C dX3_choose_29 (v := 2) rfl ?_
          refine g_icmp_ne C dX3_choose_30 (tgt := 64) (by decide) (fun c30 => ?_) (fun c30 => ?_)
          · have hw := hw.1 c30
            refine g_sub [1, 2, 3, 0] rfl ?_
            exact hJ64 hw
          · have hw := hw.2 c30
            refine g_aload_n C dX3_choose_33 1 rfl rfl ?_
            refine gf_RX3_12 C hk0 dX3_choose_34 ?_
            refine g_iload_n C dX3_choose_37 0 rfl rfl ?_
            refine g_iconst C dX3_choose_38 (v := 2) rfl ?_
            refine g_cV C dX3_choose_39 (met_X4_partAt C.st hw) (gc_X4_partAt _ (Nat.le_of_ble_eq_true rfl) (Nat.le_of_ble_eq_true rfl)) tw497 tw475 tw476 (ci := 4) rfl (by decide) hk_14 rfl (Nat.le_of_ble_eq_true rfl) (c2 := 0) (s2 := 0) rfl rfl (Nat.le_of_ble_eq_true rfl) (Nat.le_of_ble_eq_true rfl) rfl (kIp (fun r_15 hw => ?_)) tNo
            refine g_aload_n C dX3_choose_42 1 rfl rfl ?_
            refine gf_RX3_12 C hk0 dX3_choose_43 ?_
            refine g_aload_n C dX3_choose_46 1 rfl rfl ?_
            refine g_iload_n C dX3_choose_47 3 rfl rfl ?_
            refine g_iconst C dX3_choose_48 (v := 1) rfl ?_
            refine g_isub C dX3_choose_49 ?_
            refine g_cV C dX3_choose_50 (met_X3_candidateAt C.st hw) (gc_X3_candidateAt _ (Nat.le_of_ble_eq_true rfl) (Nat.le_of_ble_eq_true rfl)) tw506 tw508 twp11 (ci := 3) rfl (by decide) hk0 rfl (Nat.le_of_ble_eq_true rfl) (c2 := 0) (s2 := 0) rfl rfl (Nat.le_of_ble_eq_true rfl) (Nat.le_of_ble_eq_true rfl) rfl (kIp (fun r_17 hw => ?_)) tNo
            refine g_iconst C dX3_choose_53 (v := 2) rfl ?_
            refine g_cV C dX3_choose_54 (met_X4_partAt C.st hw) (gc_X4_partAt _ (Nat.le_of_ble_eq_true rfl) (Nat.le_of_ble_eq_true rfl)) tw497 tw475 tw476 (ci := 4) rfl (by decide) hk_14 rfl (Nat.le_of_ble_eq_true rfl) (c2 := 0) (s2 := 0) rfl rfl (Nat.le_of_ble_eq_true rfl) (Nat.le_of_ble_eq_true rfl) rfl (kIp (fun r_19 hw => ?_)) tNo
            refine g_icmp_eq C dX3_choose_57 (tgt := 64) (by decide) (fun c57 => ?_) (fun c57 => ?_)
            · have hw := hw.1 c57
              refine g_sub [1, 2, 3, 0] rfl ?_
              exact hJ64 hw
            · have hw := hw.2 c57
              refine g_iconst C dX3_choose_60 (v := 1) rfl ?_
              refine g_goto C dX3_choose_61 (tgt := 65) (by decide) ?_
              refine g_sub [1, 2, 3, 0] rfl ?_
              exact hJ65 _ hw
  refine g_sub [2, 1, 0] rfl ?_
  exact hL4 m4 _ _ _ hw
theorem gc_X3_choose : ∀ rm : Room, rmX3_choose.frames + 1 ≤ rm.frames → 8 + (5 + 11) + rmX3_choose.locals ≤ rm.locals → gCall yX3_choose 5 0 rmX3_choose rm := fun rm a b => ⟨Or.inl ⟨_, _, tw505⟩, tw4, ⟨by decide, by decide⟩, by decide, a, b⟩
abbrev rmX3_mixAt : Room := { frames := 0, cells := 0, slots := 0, locals := 0 }
def wp_X3_mixAt (o : Nat) (p1 : Int32) (M : MEM) (Q : Int64 → Prop) : Prop := KD o = (13, 0) ∧ ((p1 < 0 → (Q 1)) ∧ (¬ p1 < 0 → ((p1 < 60 → (KD (RF o 3) = (2, 60) ∧ vp_in p1 60 ∧ (Q (mL M (RF o 3) p1.toNatClampNeg)))) ∧ (¬ p1 < 60 → (Q 1)))))
set_option maxRecDepth 100000 in
set_option maxHeartbeats 4000000 in
theorem met_X3_mixAt {l : Launch} (hl : l.stackTraces = false) {E : MK} {o : Nat} {p1 : Int32} {M : MEM} {Q : Int64 → Prop} (hw : wp_X3_mixAt o p1 M Q) : gMet l E yX3_mixAt rmX3_mixAt [gR E o, .int p1] M (qLp M Q) gNo := by
  obtain ⟨hk0, hw⟩ := hw
  refine g_met hl (cc := cX3_mixAt) (maxL := 2) (ret := (some .long)) (hh := []) (loc := [(0, gR E o), (1, .int p1)]) (by decide +kernel) (Or.inl ⟨tw501, rfl⟩) (Nat.le_of_ble_eq_true rfl) rfl (fun K hK C => ?_)
  have C : GC K E cX3_mixAt RX3 2 (some .long) [] rmX3_mixAt := C
  refine g_iload_n C dX3_mixAt_0 1 rfl rfl ?_
  refine g_if_lt C dX3_mixAt_1 (tgt := 10) (by decide) (fun c1 => ?_) (fun c1 => ?_)
  · have hw := hw.1 c1
    refine g_lconst C dX3_mixAt_10 (v := 1) rfl ?_
    refine g_goto C dX3_mixAt_11 (tgt := 20) (by decide) ?_
    exact g_lret C dX3_mixAt_20 (Nat.le_of_ble_eq_true rfl) (Nat.le_of_ble_eq_true rfl) ⟨_, rfl, rfl, hw⟩
  · have hw := hw.2 c1
    refine g_iload_n C dX3_mixAt_4 1 rfl rfl ?_
    refine g_bipush C dX3_mixAt_5 (v := 60) rfl ?_
    refine g_icmp_lt C dX3_mixAt_7 (tgt := 14) (by decide) (fun c7 => ?_) (fun c7 => ?_)
    · have hw := hw.1 c7
      refine g_aload_n C dX3_mixAt_14 0 rfl rfl ?_
      refine gf_RX3_18 C hk0 dX3_mixAt_15 ?_
      refine g_iload_n C dX3_mixAt_18 1 rfl rfl ?_
      obtain ⟨hk_1, hw⟩ := hw
      obtain ⟨hi_2, hw⟩ := hw
      refine g_laload C hk_1 hi_2 dX3_mixAt_19 ?_
      exact g_lret C dX3_mixAt_20 (Nat.le_of_ble_eq_true rfl) (Nat.le_of_ble_eq_true rfl) ⟨_, rfl, rfl, hw⟩
    · have hw := hw.2 c7
      refine g_lconst C dX3_mixAt_10 (v := 1) rfl ?_
      refine g_goto C dX3_mixAt_11 (tgt := 20) (by decide) ?_
      exact g_lret C dX3_mixAt_20 (Nat.le_of_ble_eq_true rfl) (Nat.le_of_ble_eq_true rfl) ⟨_, rfl, rfl, hw⟩
theorem gc_X3_mixAt : ∀ rm : Room, rmX3_mixAt.frames + 1 ≤ rm.frames → 8 + (2 + 11) + rmX3_mixAt.locals ≤ rm.locals → gCall yX3_mixAt 2 1 rmX3_mixAt rm := fun rm a b => ⟨Or.inl ⟨_, _, tw501⟩, tw4, ⟨by decide, by decide⟩, by decide, a, b⟩
abbrev rmX3_comesBefore : Room := { frames := 1, cells := 0, slots := 0, locals := 22 }
def wp_X3_comesBefore_J50 (o : Nat) (p1 : Int32) (p2 : Int32) (M : MEM) (Q : Int32 → Prop) : Prop := (¬ (mI M (mO M o) 1) = 1 → (wp_X3_mixAt o p1 M (fun r_6 => wp_X3_mixAt o p2 M (fun r_8 => (r_8 ≤ r_6 → (Q 0)) ∧ (¬ r_8 ≤ r_6 → (Q 1)))))) ∧ ((mI M (mO M o) 1) = 1 → (wp_X3_mixAt o p1 M (fun r_10 => wp_X4_partAt (mO M o) p2 3 M (fun r_12 => wp_X3_mixAt o p2 M (fun r_14 => wp_X4_partAt (mO M o) p1 3 M (fun r_16 => ((r_14 * r_16.toInt64) ≤ (r_10 * r_12.toInt64) → (Q 0)) ∧ (¬ (r_14 * r_16.toInt64) ≤ (r_10 * r_12.toInt64) → (Q 1))))))))
def wp_X3_comesBefore (o : Nat) (p1 : Int32) (p2 : Int32) (M : MEM) (Q : Int32 → Prop) : Prop := KD o = (13, 0) ∧ (KD (mO M o) = (14, 0) ∧ wp_X4_partAt (mO M o) p1 2 M (fun r_1 => wp_X4_partAt (mO M o) p2 2 M (fun r_4 => (¬ (mI M (mO M o) 1) = 2 → (wp_X3_comesBefore_J50 o p1 p2 M Q)) ∧ ((mI M (mO M o) 1) = 2 → ((r_1 = r_4 → (wp_X3_comesBefore_J50 o p1 p2 M Q)) ∧ (¬ r_1 = r_4 → ((r_4 ≤ r_1 → (Q 0)) ∧ (¬ r_4 ≤ r_1 → (Q 1)))))))))
set_option maxRecDepth 100000 in
set_option maxHeartbeats 4000000 in
theorem met_X3_comesBefore {l : Launch} (hl : l.stackTraces = false) {E : MK} {o : Nat} {p1 : Int32} {p2 : Int32} {M : MEM} {Q : Int32 → Prop} (hw : wp_X3_comesBefore o p1 p2 M Q) : gMet l E yX3_comesBefore rmX3_comesBefore [gR E o, .int p1, .int p2] M (qIp M Q) gNo := by
  obtain ⟨hk0, hw⟩ := hw
  refine g_met hl (cc := cX3_comesBefore) (maxL := 5) (ret := (some .boolean)) (hh := []) (loc := [(0, gR E o), (1, .int p1), (2, .int p2)]) (by decide +kernel) (Or.inl ⟨tw496, rfl⟩) (Nat.le_of_ble_eq_true rfl) rfl (fun K hK C => ?_)
  have C : GC K E cX3_comesBefore RX3 5 (some .boolean) [] rmX3_comesBefore := C
  refine g_aload_n C dX3_comesBefore_0 0 rfl rfl ?_
  refine gf_RX3_12 C hk0 dX3_comesBefore_1 ?_
  refine g_iload_n C dX3_comesBefore_4 1 rfl rfl ?_
  refine g_iconst C dX3_comesBefore_5 (v := 2) rfl ?_
  obtain ⟨hk_3, hw⟩ := hw
  refine g_cV C dX3_comesBefore_6 (met_X4_partAt C.st hw) (gc_X4_partAt _ (Nat.le_of_ble_eq_true rfl) (Nat.le_of_ble_eq_true rfl)) tw497 tw475 tw476 (ci := 4) rfl (by decide) hk_3 rfl (Nat.le_of_ble_eq_true rfl) (c2 := 0) (s2 := 0) rfl rfl (Nat.le_of_ble_eq_true rfl) (Nat.le_of_ble_eq_true rfl) rfl (kIp (fun r_1 hw => ?_)) tNo
  refine g_istore_n C dX3_comesBefore_9 rfl (Nat.le_of_ble_eq_true rfl) (loc' := [(3, .int r_1), (0, gR E o), (1, .int p1), (2, .int p2)]) rfl ?_
  refine g_aload_n C dX3_comesBefore_10 1 rfl rfl ?_
  refine gf_RX3_12 C hk0 dX3_comesBefore_11 ?_
  refine g_iload_n C dX3_comesBefore_14 3 rfl rfl ?_
  refine g_iconst C dX3_comesBefore_15 (v := 2) rfl ?_
  refine g_cV C dX3_comesBefore_16 (met_X4_partAt C.st hw) (gc_X4_partAt _ (Nat.le_of_ble_eq_true rfl) (Nat.le_of_ble_eq_true rfl)) tw497 tw475 tw476 (ci := 4) rfl (by decide) hk_3 rfl (Nat.le_of_ble_eq_true rfl) (c2 := 0) (s2 := 0) rfl rfl (Nat.le_of_ble_eq_true rfl) (Nat.le_of_ble_eq_true rfl) rfl (kIp (fun r_4 hw => ?_)) tNo
  refine g_istore C dX3_comesBefore_19 (Nat.le_of_ble_eq_true rfl) (loc' := [(4, .int r_4), (3, .int r_1), (0, gR E o), (1, .int p1), (2, .int p2)]) rfl ?_
  refine g_aload_n C dX3_comesBefore_21 2 rfl rfl ?_
  refine gf_RX3_12 C hk0 dX3_comesBefore_22 ?_
  refine gf_RX3_59 C hk_3 dX3_comesBefore_25 ?_
  refine g_iconst C dX3_comesBefore_28 (v := 2) rfl ?_
  have hJ50 : wp_X3_comesBefore_J50 o p1 p2 M Q → GX K E 5 M [(0, gR E o), (1, .int p1), (2, .int p2)] [] 50 0 0 (gEnd K E (qIp M Q) gNo rmX3_comesBefore.cells rmX3_comesBefore.slots) := by
    intro hw
    refine g_aload_n C dX3_comesBefore_50 0 rfl rfl ?_
    refine gf_RX3_12 C hk0 dX3_comesBefore_51 ?_
    refine gf_RX3_59 C hk_3 dX3_comesBefore_54 ?_
    refine g_iconst C dX3_comesBefore_57 (v := 1) rfl ?_
    refine g_icmp_ne C dX3_comesBefore_58 (tgt := 103) (by decide) (fun c58 => ?_) (fun c58 => ?_)
    · have hw := hw.1 c58
      refine g_aload_n C dX3_comesBefore_103 0 rfl rfl ?_
      refine g_iload_n C dX3_comesBefore_104 1 rfl rfl ?_
      refine g_cV C dX3_comesBefore_105 (met_X3_mixAt C.st hw) (gc_X3_mixAt _ (Nat.le_of_ble_eq_true rfl) (Nat.le_of_ble_eq_true rfl)) tw498 tw500 twp9 (ci := 3) rfl (by decide) hk0 rfl (Nat.le_of_ble_eq_true rfl) (c2 := 0) (s2 := 0) rfl rfl (Nat.le_of_ble_eq_true rfl) (Nat.le_of_ble_eq_true rfl) rfl (kLp (fun r_6 hw => ?_)) tNo
      refine g_aload_n C dX3_comesBefore_108 0 rfl rfl ?_
      refine g_iload_n C dX3_comesBefore_109 2 rfl rfl ?_
      refine g_cV C dX3_comesBefore_110 (met_X3_mixAt C.st hw) (gc_X3_mixAt _ (Nat.le_of_ble_eq_true rfl) (Nat.le_of_ble_eq_true rfl)) tw498 tw500 twp9 (ci := 3) rfl (by decide) hk0 rfl (Nat.le_of_ble_eq_true rfl) (c2 := 0) (s2 := 0) rfl rfl (Nat.le_of_ble_eq_true rfl) (Nat.le_of_ble_eq_true rfl) rfl (kLp (fun r_8 hw => ?_)) tNo
      refine g_lc_ge C dX3_comesBefore_113 dX3_comesBefore_114 (tgt := 121) (by decide) (fun c114 => ?_) (fun c114 => ?_)
      · have hw := hw.1 c114
        refine g_iconst C dX3_comesBefore_121 (v := 0) rfl ?_
        exact g_zret C dX3_comesBefore_122 gB0.1 (Nat.le_of_ble_eq_true rfl) (Nat.le_of_ble_eq_true rfl) ⟨_, rfl, rfl, hw⟩
      · have hw := hw.2 c114
        refine g_iconst C dX3_comesBefore_117 (v := 1) rfl ?_
        refine g_goto C dX3_comesBefore_118 (tgt := 122) (by decide) ?_
        exact g_zret C dX3_comesBefore_122 gB1.1 (Nat.le_of_ble_eq_true rfl) (Nat.le_of_ble_eq_true rfl) ⟨_, rfl, rfl, hw⟩
    · have hw := hw.2 c58
      refine g_aload_n C dX3_comesBefore_61 0 rfl rfl ?_
      refine g_iload_n C dX3_comesBefore_62 1 rfl rfl ?_
      refine g_cV C dX3_comesBefore_63 (met_X3_mixAt C.st hw) (gc_X3_mixAt _ (Nat.le_of_ble_eq_true rfl) (Nat.le_of_ble_eq_true rfl)) tw498 tw500 twp9 (ci := 3) rfl (by decide) hk0 rfl (Nat.le_of_ble_eq_true rfl) (c2 := 0) (s2 := 0) rfl rfl (Nat.le_of_ble_eq_true rfl) (Nat.le_of_ble_eq_true rfl) rfl (kLp (fun r_10 hw => ?_)) tNo
      refine g_aload_n C dX3_comesBefore_66 0 rfl rfl ?_
      refine gf_RX3_12 C hk0 dX3_comesBefore_67 ?_
      refine g_iload_n C dX3_comesBefore_70 2 rfl rfl ?_
      refine g_iconst C dX3_comesBefore_71 (v := 3) rfl ?_
      refine g_cV C dX3_comesBefore_72 (met_X4_partAt C.st hw) (gc_X4_partAt _ (Nat.le_of_ble_eq_true rfl) (Nat.le_of_ble_eq_true rfl)) tw497 tw475 tw476 (ci := 4) rfl (by decide) hk_3 rfl (Nat.le_of_ble_eq_true rfl) (c2 := 0) (s2 := 0) rfl rfl (Nat.le_of_ble_eq_true rfl) (Nat.le_of_ble_eq_true rfl) rfl (kIp (fun r_12 hw => ?_)) tNo
      refine g_i2l C dX3_comesBefore_75 ?_
      refine g_lmul C dX3_comesBefore_76 ?_
      refine g_aload_n C dX3_comesBefore_77 0 rfl rfl ?_
      refine g_iload_n C dX3_comesBefore_78 2 rfl rfl ?_
      refine g_cV C dX3_comesBefore_79 (met_X3_mixAt C.st hw) (gc_X3_mixAt _ (Nat.le_of_ble_eq_true rfl) (Nat.le_of_ble_eq_true rfl)) tw498 tw500 twp9 (ci := 3) rfl (by decide) hk0 rfl (Nat.le_of_ble_eq_true rfl) (c2 := 0) (s2 := 0) rfl rfl (Nat.le_of_ble_eq_true rfl) (Nat.le_of_ble_eq_true rfl) rfl (kLp (fun r_14 hw => ?_)) tNo
      refine g_aload_n C dX3_comesBefore_82 0 rfl rfl ?_
      refine gf_RX3_12 C hk0 dX3_comesBefore_83 ?_
      refine g_iload_n C dX3_comesBefore_86 1 rfl rfl ?_
      refine g_iconst C dX3_comesBefore_87 (v := 3) rfl ?_
      refine g_cV C dX3_comesBefore_88 (met_X4_partAt C.st hw) (gc_X4_partAt _ (Nat.le_of_ble_eq_true rfl) (Nat.le_of_ble_eq_true rfl)) tw497 tw475 tw476 (ci := 4) rfl (by decide) hk_3 rfl (Nat.le_of_ble_eq_true rfl) (c2 := 0) (s2 := 0) rfl rfl (Nat.le_of_ble_eq_true rfl) (Nat.le_of_ble_eq_true rfl) rfl (kIp (fun r_16 hw => ?_)) tNo
      refine g_i2l C dX3_comesBefore_91 ?_
      refine g_lmul C dX3_comesBefore_92 ?_
      refine g_lc_ge C dX3_comesBefore_93 dX3_comesBefore_94 (tgt := 101) (by decide) (fun c94 => ?_) (fun c94 => ?_)
      · have hw := hw.1 c94
        refine g_iconst C dX3_comesBefore_101 (v := 0) rfl ?_
        exact g_zret C dX3_comesBefore_102 gB0.1 (Nat.le_of_ble_eq_true rfl) (Nat.le_of_ble_eq_true rfl) ⟨_, rfl, rfl, hw⟩
      · have hw := hw.2 c94
        refine g_iconst C dX3_comesBefore_97 (v := 1) rfl ?_
        refine g_goto C dX3_comesBefore_98 (tgt := 102) (by decide) ?_
        exact g_zret C dX3_comesBefore_102 gB1.1 (Nat.le_of_ble_eq_true rfl) (Nat.le_of_ble_eq_true rfl) ⟨_, rfl, rfl, hw⟩
  refine g_icmp_ne C dX3_comesBefore_29 (tgt := 50) (by decide) (fun c29 => ?_) (fun c29 => ?_)
  · have hw := hw.1 c29
    refine g_sub [2, 3, 4] rfl ?_
    exact hJ50 hw
  · have hw := hw.2 c29
    refine g_iload_n C dX3_comesBefore_32 1 rfl rfl ?_
    refine g_iload C (j := 0) dX3_comesBefore_33 0 rfl ?_
    refine g_icmp_eq C dX3_comesBefore_35 (tgt := 50) (by decide) (fun c35 => ?_) (fun c35 => ?_)
    · have hw := hw.1 c35
      refine g_sub [2, 3, 4] rfl ?_
      exact hJ50 hw
    · have hw := hw.2 c35
      refine g_iload_n C dX3_comesBefore_38 1 rfl rfl ?_
      refine g_iload C (j := 0) dX3_comesBefore_39 0 rfl ?_
      refine g_icmp_ge C dX3_comesBefore_41 (tgt := 48) (by decide) (fun c41 => ?_) (fun c41 => ?_)
      · have hw := hw.1 c41
        refine g_iconst C dX3_comesBefore_48 (v := 0) rfl ?_
        exact g_zret C dX3_comesBefore_49 gB0.1 (Nat.le_of_ble_eq_true rfl) (Nat.le_of_ble_eq_true rfl) ⟨_, rfl, rfl, hw⟩
      · have hw := hw.2 c41
        refine g_iconst C dX3_comesBefore_44 (v := 1) rfl ?_
        refine g_goto C dX3_comesBefore_45 (tgt := 49) (by decide) ?_
        exact g_zret C dX3_comesBefore_49 gB1.1 (Nat.le_of_ble_eq_true rfl) (Nat.le_of_ble_eq_true rfl) ⟨_, rfl, rfl, hw⟩
theorem gc_X3_comesBefore : ∀ rm : Room, rmX3_comesBefore.frames + 1 ≤ rm.frames → 8 + (5 + 11) + rmX3_comesBefore.locals ≤ rm.locals → gCall yX3_comesBefore 5 2 rmX3_comesBefore rm := fun rm a b => ⟨Or.inl ⟨_, _, tw496⟩, tw4, ⟨by decide, by decide⟩, by decide, a, b⟩
abbrev rmX3_insert : Room := { frames := 2, cells := 0, slots := 0, locals := 46 }
def wp_X3_insert_J55 (o : Nat) (p1 : Int32) (Q : MEM → Prop) (x2_2 : Int32) (M_3 : MEM) : Prop := (KD (RF o 4) = (0, 60) ∧ (vp_in x2_2 60 ∧ (∀ M_6 : MEM, M_6 = uI M_3 (RF o 4) x2_2.toNatClampNeg p1 → ((∀ M_7 : MEM, M_7 = uI M_6 o 1 ((mI M_6 o 1) + 1) → (Q M_7))))))
def wp_X3_insert_L15 (o : Nat) (p1 : Int32) (Q : MEM → Prop) : Nat → Int32 → MEM → Prop
  | 0, _, _ => False
  | n15 + 1, x2_2, M_3 => (x2_2 ≤ 0 → (wp_X3_insert_J55 o p1 Q x2_2 M_3)) ∧ (¬ x2_2 ≤ 0 → (KD (RF o 4) = (0, 60) ∧ vp_in (x2_2 - 1) 60 ∧ (wp_X3_comesBefore o p1 (mI M_3 (RF o 4) (x2_2 - 1).toNatClampNeg) M_3 (fun r_10 => (r_10 = 0 → (wp_X3_insert_J55 o p1 Q x2_2 M_3)) ∧ (¬ r_10 = 0 → (vp_in (x2_2 - 1) 60 ∧ ((vp_in x2_2 60 ∧ (∀ M_14 : MEM, M_14 = uI M_3 (RF o 4) x2_2.toNatClampNeg (mI M_3 (RF o 4) (x2_2 - 1).toNatClampNeg) → (∀ x2_15 : Int32, x2_15 = x2_2 + (-1) → ((wp_X3_insert_L15 o p1 Q n15) x2_15 M_14)))))))))))
def wp_X3_insert (o : Nat) (p1 : Int32) (M : MEM) (Q : MEM → Prop) : Prop := KD o = (13, 0) ∧ (((mI M o 1) < 60 → (∀ x2_1 : Int32, x2_1 = mI M o 1 → (∃ m15 : Nat, wp_X3_insert_L15 o p1 Q m15 x2_1 M))) ∧ (¬ (mI M o 1) < 60 → (Q M)))
set_option maxRecDepth 100000 in
set_option maxHeartbeats 4000000 in
theorem met_X3_insert {l : Launch} (hl : l.stackTraces = false) {E : MK} {o : Nat} {p1 : Int32} {M : MEM} {Q : MEM → Prop} (hw : wp_X3_insert o p1 M Q) : gMet l E yX3_insert rmX3_insert [gR E o, .int p1] M (qV Q) gNo := by
  obtain ⟨hk0, hw⟩ := hw
  refine g_met hl (cc := cX3_insert) (maxL := 3) (ret := none) (hh := []) (loc := [(0, gR E o), (1, .int p1)]) (by decide +kernel) (Or.inl ⟨tw492, rfl⟩) (Nat.le_of_ble_eq_true rfl) rfl (fun K hK C => ?_)
  have C : GC K E cX3_insert RX3 3 none [] rmX3_insert := C
  refine g_aload_n C dX3_insert_0 0 rfl rfl ?_
  refine gf_RX3_42 C hk0 dX3_insert_1 ?_
  refine g_bipush C dX3_insert_4 (v := 60) rfl ?_
  refine g_icmp_lt C dX3_insert_6 (tgt := 10) (by decide) (fun c6 => ?_) (fun c6 => ?_)
  · have hw := hw.1 c6
    refine g_aload_n C dX3_insert_10 0 rfl rfl ?_
    refine gf_RX3_42 C hk0 dX3_insert_11 ?_
    refine g_nmI (fun x2_1 ex2_1 => ?_)
    have hw := hw x2_1 ex2_1
    refine g_istore_n C dX3_insert_14 rfl (Nat.le_of_ble_eq_true rfl) (loc' := [(2, .int x2_1), (0, gR E o), (1, .int p1)]) rfl ?_
    obtain ⟨m15, hw⟩ := hw
    have hL15 : ∀ (n15 : Nat) (x2_2 : Int32) (M_3 : MEM), wp_X3_insert_L15 o p1 Q n15 x2_2 M_3 → GX K E 3 M_3 [(0, gR E o), (1, .int p1), (2, .int x2_2)] [] 15 0 0 (gEnd K E (qV Q) gNo rmX3_insert.cells rmX3_insert.slots) := by
      intro n15
      induction n15 with
      | zero => intro _ _ hw; exact False.elim hw
      | succ n15 ih15 =>
        intro x2_2 M_3 hw
        refine g_iload_n C dX3_insert_15 2 rfl rfl ?_
        have hJ55 : wp_X3_insert_J55 o p1 Q x2_2 M_3 → GX K E 3 M_3 [(0, gR E o), (1, .int p1), (2, .int x2_2)] [] 55 0 0 (gEnd K E (qV Q) gNo rmX3_insert.cells rmX3_insert.slots) := by
          intro hw
          refine g_aload_n C dX3_insert_55 0 rfl rfl ?_
          refine gf_RX3_22 C hk0 dX3_insert_56 ?_
          refine g_iload_n C dX3_insert_59 2 rfl rfl ?_
          refine g_iload_n C dX3_insert_60 1 rfl rfl ?_
          obtain ⟨hk_4, hw⟩ := hw
          obtain ⟨hi_5, hw⟩ := hw
          refine g_iastore C hk_4 hi_5 dX3_insert_61 ?_
          refine g_nmM (fun M_6 eM_6 => ?_)
          have hw := hw M_6 eM_6
          refine g_aload_n C dX3_insert_62 0 rfl rfl ?_
          refine g_dup C dX3_insert_63 rfl ?_
          refine gf_RX3_42 C hk0 dX3_insert_64 ?_
          refine g_iconst C dX3_insert_67 (v := 1) rfl ?_
          refine g_iadd C dX3_insert_68 ?_
          refine pf_RX3_42 C hk0 dX3_insert_69 ?_
          refine g_nmM (fun M_7 eM_7 => ?_)
          have hw := hw M_7 eM_7
          exact g_vret C dX3_insert_72 (Nat.le_of_ble_eq_true rfl) (Nat.le_of_ble_eq_true rfl) ⟨rfl, hw⟩
        refine g_if_le C dX3_insert_16 (tgt := 55) (by decide) (fun c16 => ?_) (fun c16 => ?_)
        · have hw := hw.1 c16
          exact hJ55 hw
        · have hw := hw.2 c16
          refine g_aload_n C dX3_insert_19 0 rfl rfl ?_
          refine g_iload_n C dX3_insert_20 1 rfl rfl ?_
          refine g_aload_n C dX3_insert_21 0 rfl rfl ?_
          refine gf_RX3_22 C hk0 dX3_insert_22 ?_
          refine g_iload_n C dX3_insert_25 2 rfl rfl ?_
          refine g_iconst C dX3_insert_26 (v := 1) rfl ?_
          refine g_isub C dX3_insert_27 ?_
          obtain ⟨hk_8, hw⟩ := hw
          obtain ⟨hi_9, hw⟩ := hw
          refine g_iaload C hk_8 hi_9 dX3_insert_28 ?_
          refine g_cV C dX3_insert_29 (met_X3_comesBefore C.st hw) (gc_X3_comesBefore _ (Nat.le_of_ble_eq_true rfl) (Nat.le_of_ble_eq_true rfl)) tw493 tw495 twp8 (ci := 3) rfl (by decide) hk0 rfl (Nat.le_of_ble_eq_true rfl) (c2 := 0) (s2 := 0) rfl rfl (Nat.le_of_ble_eq_true rfl) (Nat.le_of_ble_eq_true rfl) rfl (kIp (fun r_10 hw => ?_)) tNo
          refine g_if_eq C dX3_insert_32 (tgt := 55) (by decide) (fun c32 => ?_) (fun c32 => ?_)
          · have hw := hw.1 c32
            exact hJ55 hw
          · have hw := hw.2 c32
            refine g_aload_n C dX3_insert_35 0 rfl rfl ?_
            refine gf_RX3_22 C hk0 dX3_insert_36 ?_
            refine g_iload_n C dX3_insert_39 2 rfl rfl ?_
            refine g_aload_n C dX3_insert_40 0 rfl rfl ?_
            refine gf_RX3_22 C hk0 dX3_insert_41 ?_
            refine g_iload_n C dX3_insert_44 2 rfl rfl ?_
            refine g_iconst C dX3_insert_45 (v := 1) rfl ?_
            refine g_isub C dX3_insert_46 ?_
            obtain ⟨hi_12, hw⟩ := hw
            refine g_iaload C hk_8 hi_12 dX3_insert_47 ?_
            obtain ⟨hi_13, hw⟩ := hw
            refine g_iastore C hk_8 hi_13 dX3_insert_48 ?_
            refine g_nmM (fun M_14 eM_14 => ?_)
            have hw := hw M_14 eM_14
            obtain ⟨x2_15, ex2_15⟩ : ∃ y : Int32, y = x2_2 + (-1) := ⟨_, rfl⟩
            have hw := hw x2_15 ex2_15
            refine g_iinc C (j := 0) dX3_insert_49 2 rfl (v := x2_15) (by rw [ex2_15]; rfl) (Nat.le_of_ble_eq_true rfl) (loc' := [(2, .int x2_15), (0, gR E o), (1, .int p1)]) rfl ?_
            refine g_goto C dX3_insert_52 (tgt := 15) (by decide) ?_
            refine g_sub [1, 2, 0] rfl ?_
            exact ih15 _ _ hw
    refine g_sub [1, 2, 0] rfl ?_
    exact hL15 m15 _ _ hw
  · have hw := hw.2 c6
    exact g_vret C dX3_insert_9 (Nat.le_of_ble_eq_true rfl) (Nat.le_of_ble_eq_true rfl) ⟨rfl, hw⟩
theorem gc_X3_insert : ∀ rm : Room, rmX3_insert.frames + 1 ≤ rm.frames → 8 + (3 + 11) + rmX3_insert.locals ≤ rm.locals → gCall yX3_insert 3 1 rmX3_insert rm := fun rm a b => ⟨Or.inl ⟨_, _, tw492⟩, tw4, ⟨by decide, by decide⟩, by decide, a, b⟩
abbrev rmX4_count : Room := { frames := 0, cells := 0, slots := 0, locals := 0 }
def wp_X4_count (o : Nat) (M : MEM) (Q : Int32 → Prop) : Prop := KD o = (14, 0) ∧ (Q (mI M o 5))
set_option maxRecDepth 100000 in
set_option maxHeartbeats 4000000 in
theorem met_X4_count {l : Launch} (hl : l.stackTraces = false) {E : MK} {o : Nat} {M : MEM} {Q : Int32 → Prop} (hw : wp_X4_count o M Q) : gMet l E yX4_count rmX4_count [gR E o] M (qIp M Q) gNo := by
  obtain ⟨hk0, hw⟩ := hw
  refine g_met hl (cc := cX4_count) (maxL := 1) (ret := (some .int)) (hh := []) (loc := [(0, gR E o)]) (by decide +kernel) (Or.inl ⟨tw363, rfl⟩) (Nat.le_of_ble_eq_true rfl) rfl (fun K hK C => ?_)
  have C : GC K E cX4_count RX4 1 (some .int) [] rmX4_count := C
  refine g_aload_n C dX4_count_0 0 rfl rfl ?_
  refine gf_RX4_22 C hk0 dX4_count_1 ?_
  exact g_iret C dX4_count_4 (Nat.le_of_ble_eq_true rfl) (Nat.le_of_ble_eq_true rfl) ⟨_, rfl, rfl, hw⟩
theorem gc_X4_count : ∀ rm : Room, rmX4_count.frames + 1 ≤ rm.frames → 8 + (1 + 11) + rmX4_count.locals ≤ rm.locals → gCall yX4_count 1 0 rmX4_count rm := fun rm a b => ⟨Or.inl ⟨_, _, tw363⟩, tw2, ⟨by decide, by decide⟩, by decide, a, b⟩
abbrev rmX4_isFirstOfKey : Room := { frames := 1, cells := 0, slots := 0, locals := 22 }
def wp_X4_isFirstOfKey_L9 (o : Nat) (p1 : Int32) (M : MEM) (Q : Int32 → Prop) (r_1 : Int32) : Nat → Int32 → Prop
  | 0, _ => False
  | n9 + 1, x3_3 => (p1 ≤ x3_3 → (Q 1)) ∧ (¬ p1 ≤ x3_3 → (((mI M o 5) ≤ x3_3 → (Q 1)) ∧ (¬ (mI M o 5) ≤ x3_3 → (wp_X4_partAt o x3_3 1 M (fun r_4 => (¬ r_4 = r_1 → (∀ x3_6 : Int32, x3_6 = x3_3 + 1 → ((wp_X4_isFirstOfKey_L9 o p1 M Q r_1 n9) x3_6))) ∧ (r_4 = r_1 → (Q 0)))))))
def wp_X4_isFirstOfKey (o : Nat) (p1 : Int32) (M : MEM) (Q : Int32 → Prop) : Prop := KD o = (14, 0) ∧ (wp_X4_partAt o p1 1 M (fun r_1 => ∃ m9 : Nat, wp_X4_isFirstOfKey_L9 o p1 M Q r_1 m9 0))
set_option maxRecDepth 100000 in
set_option maxHeartbeats 4000000 in
theorem met_X4_isFirstOfKey {l : Launch} (hl : l.stackTraces = false) {E : MK} {o : Nat} {p1 : Int32} {M : MEM} {Q : Int32 → Prop} (hw : wp_X4_isFirstOfKey o p1 M Q) : gMet l E yX4_isFirstOfKey rmX4_isFirstOfKey [gR E o, .int p1] M (qIp M Q) gNo := by
  obtain ⟨hk0, hw⟩ := hw
  refine g_met hl (cc := cX4_isFirstOfKey) (maxL := 4) (ret := (some .boolean)) (hh := []) (loc := [(0, gR E o), (1, .int p1)]) (by decide +kernel) (Or.inl ⟨tw488, rfl⟩) (Nat.le_of_ble_eq_true rfl) rfl (fun K hK C => ?_)
  have C : GC K E cX4_isFirstOfKey RX4 4 (some .boolean) [] rmX4_isFirstOfKey := C
  refine g_aload_n C dX4_isFirstOfKey_0 0 rfl rfl ?_
  refine g_iload_n C dX4_isFirstOfKey_1 1 rfl rfl ?_
  refine g_iconst C dX4_isFirstOfKey_2 (v := 1) rfl ?_
  refine g_cV C dX4_isFirstOfKey_3 (met_X4_partAt C.st hw) (gc_X4_partAt _ (Nat.le_of_ble_eq_true rfl) (Nat.le_of_ble_eq_true rfl)) tw474 tw475 tw476 (ci := 4) rfl (by decide) hk0 rfl (Nat.le_of_ble_eq_true rfl) (c2 := 0) (s2 := 0) rfl rfl (Nat.le_of_ble_eq_true rfl) (Nat.le_of_ble_eq_true rfl) rfl (kIp (fun r_1 hw => ?_)) tNo
  refine g_istore_n C dX4_isFirstOfKey_6 rfl (Nat.le_of_ble_eq_true rfl) (loc' := [(2, .int r_1), (0, gR E o), (1, .int p1)]) rfl ?_
  refine g_iconst C dX4_isFirstOfKey_7 (v := 0) rfl ?_
  refine g_istore_n C dX4_isFirstOfKey_8 rfl (Nat.le_of_ble_eq_true rfl) (loc' := [(3, .int 0), (2, .int r_1), (0, gR E o), (1, .int p1)]) rfl ?_
  obtain ⟨m9, hw⟩ := hw
  have hL9 : ∀ (n9 : Nat) (x3_3 : Int32), wp_X4_isFirstOfKey_L9 o p1 M Q r_1 n9 x3_3 → GX K E 4 M [(0, gR E o), (1, .int p1), (2, .int r_1), (3, .int x3_3)] [] 9 0 0 (gEnd K E (qIp M Q) gNo rmX4_isFirstOfKey.cells rmX4_isFirstOfKey.slots) := by
    intro n9
    induction n9 with
    | zero => intro _ hw; exact False.elim hw
    | succ n9 ih9 =>
      intro x3_3 hw
      refine g_iload_n C dX4_isFirstOfKey_9 3 rfl rfl ?_
      refine g_iload_n C dX4_isFirstOfKey_10 1 rfl rfl ?_
      refine g_icmp_ge C dX4_isFirstOfKey_11 (tgt := 40) (by decide) (fun c11 => ?_) (fun c11 => ?_)
      · have hw := hw.1 c11
        refine g_iconst C dX4_isFirstOfKey_40 (v := 1) rfl ?_
        exact g_zret C dX4_isFirstOfKey_41 gB1.1 (Nat.le_of_ble_eq_true rfl) (Nat.le_of_ble_eq_true rfl) ⟨_, rfl, rfl, hw⟩
      · have hw := hw.2 c11
        refine g_iload_n C dX4_isFirstOfKey_14 3 rfl rfl ?_
        refine g_aload_n C dX4_isFirstOfKey_15 0 rfl rfl ?_
        refine gf_RX4_22 C hk0 dX4_isFirstOfKey_16 ?_
        refine g_icmp_ge C dX4_isFirstOfKey_19 (tgt := 40) (by decide) (fun c19 => ?_) (fun c19 => ?_)
        · have hw := hw.1 c19
          refine g_iconst C dX4_isFirstOfKey_40 (v := 1) rfl ?_
          exact g_zret C dX4_isFirstOfKey_41 gB1.1 (Nat.le_of_ble_eq_true rfl) (Nat.le_of_ble_eq_true rfl) ⟨_, rfl, rfl, hw⟩
        · have hw := hw.2 c19
          refine g_aload_n C dX4_isFirstOfKey_22 0 rfl rfl ?_
          refine g_iload_n C dX4_isFirstOfKey_23 3 rfl rfl ?_
          refine g_iconst C dX4_isFirstOfKey_24 (v := 1) rfl ?_
          refine g_cV C dX4_isFirstOfKey_25 (met_X4_partAt C.st hw) (gc_X4_partAt _ (Nat.le_of_ble_eq_true rfl) (Nat.le_of_ble_eq_true rfl)) tw474 tw475 tw476 (ci := 4) rfl (by decide) hk0 rfl (Nat.le_of_ble_eq_true rfl) (c2 := 0) (s2 := 0) rfl rfl (Nat.le_of_ble_eq_true rfl) (Nat.le_of_ble_eq_true rfl) rfl (kIp (fun r_4 hw => ?_)) tNo
          refine g_iload_n C dX4_isFirstOfKey_28 2 rfl rfl ?_
          refine g_icmp_ne C dX4_isFirstOfKey_29 (tgt := 34) (by decide) (fun c29 => ?_) (fun c29 => ?_)
          · have hw := hw.1 c29
            obtain ⟨x3_6, ex3_6⟩ : ∃ y : Int32, y = x3_3 + 1 := ⟨_, rfl⟩
            have hw := hw x3_6 ex3_6
            refine g_iinc C (j := 0) dX4_isFirstOfKey_34 3 rfl (v := x3_6) (by rw [ex3_6]; rfl) (Nat.le_of_ble_eq_true rfl) (loc' := [(3, .int x3_6), (0, gR E o), (1, .int p1), (2, .int r_1)]) rfl ?_
            refine g_goto C dX4_isFirstOfKey_37 (tgt := 9) (by decide) ?_
            refine g_sub [1, 2, 3, 0] rfl ?_
            exact ih9 _ hw
          · have hw := hw.2 c29
            refine g_iconst C dX4_isFirstOfKey_32 (v := 0) rfl ?_
            exact g_zret C dX4_isFirstOfKey_33 gB0.1 (Nat.le_of_ble_eq_true rfl) (Nat.le_of_ble_eq_true rfl) ⟨_, rfl, rfl, hw⟩
  refine g_sub [2, 3, 1, 0] rfl ?_
  exact hL9 m9 _ hw
theorem gc_X4_isFirstOfKey : ∀ rm : Room, rmX4_isFirstOfKey.frames + 1 ≤ rm.frames → 8 + (4 + 11) + rmX4_isFirstOfKey.locals ≤ rm.locals → gCall yX4_isFirstOfKey 4 1 rmX4_isFirstOfKey rm := fun rm a b => ⟨Or.inl ⟨_, _, tw488⟩, tw2, ⟨by decide, by decide⟩, by decide, a, b⟩
abbrev rmX5_mixOf : Room := { frames := 0, cells := 0, slots := 0, locals := 0 }
def wp_X5_mixOf (p1 : Int32) (p2 : Int32) (M : MEM) (Q : Int64 → Prop) : Prop := ∀ x2_1 : Int32, x2_1 = p1 ^^^ (p2 * (-1640531527)) → (∀ x2_2 : Int32, x2_2 = x2_1 ^^^ (gush x2_1 16) → (∀ x2_3 : Int32, x2_3 = x2_2 * (-2048144789) → (∀ x2_4 : Int32, x2_4 = x2_3 ^^^ (gush x2_3 13) → (∀ x2_5 : Int32, x2_5 = x2_4 * (-1028477387) → (∀ x2_6 : Int32, x2_6 = x2_5 ^^^ (gush x2_5 16) → (Q (((x2_6 &&& 2147483647 : Int32).toInt64) + 1)))))))
set_option maxRecDepth 100000 in
set_option maxHeartbeats 4000000 in
theorem met_X5_mixOf {l : Launch} (hl : l.stackTraces = false) {E : MK} {p1 : Int32} {p2 : Int32} {M : MEM} {Q : Int64 → Prop} (hw : wp_X5_mixOf p1 p2 M Q) : gMet l E yX5_mixOf rmX5_mixOf [.int p1, .int p2] M (qLp M Q) gNo := by
  refine g_met hl (cc := cX5_mixOf) (maxL := 3) (ret := (some .long)) (hh := []) (loc := [(0, .int p1), (1, .int p2)]) (by decide +kernel) (Or.inl ⟨tw480, rfl⟩) (Nat.le_of_ble_eq_true rfl) rfl (fun K hK C => ?_)
  have C : GC K E cX5_mixOf RX5 3 (some .long) [] rmX5_mixOf := C
  refine g_iload_n C dX5_mixOf_0 0 rfl rfl ?_
  refine g_iload_n C dX5_mixOf_1 1 rfl rfl ?_
  refine g_ldcw C dX5_mixOf_2 tw481 ?_
  refine g_imul C dX5_mixOf_5 ?_
  refine g_ixor C dX5_mixOf_6 ?_
  refine g_nmI (fun x2_1 ex2_1 => ?_)
  have hw := hw x2_1 ex2_1
  refine g_istore_n C dX5_mixOf_7 rfl (Nat.le_of_ble_eq_true rfl) (loc' := [(2, .int x2_1), (0, .int p1), (1, .int p2)]) rfl ?_
  refine g_iload_n C dX5_mixOf_8 0 rfl rfl ?_
  refine g_iload_n C dX5_mixOf_9 0 rfl rfl ?_
  refine g_bipush C dX5_mixOf_10 (v := 16) rfl ?_
  refine g_iushr C dX5_mixOf_12 ?_
  refine g_ixor C dX5_mixOf_13 ?_
  refine g_nmI (fun x2_2 ex2_2 => ?_)
  have hw := hw x2_2 ex2_2
  refine g_istore_n C dX5_mixOf_14 rfl (Nat.le_of_ble_eq_true rfl) (loc' := [(2, .int x2_2), (0, .int p1), (1, .int p2)]) rfl ?_
  refine g_iload_n C dX5_mixOf_15 0 rfl rfl ?_
  refine g_ldcw C dX5_mixOf_16 tw482 ?_
  refine g_imul C dX5_mixOf_19 ?_
  refine g_nmI (fun x2_3 ex2_3 => ?_)
  have hw := hw x2_3 ex2_3
  refine g_istore_n C dX5_mixOf_20 rfl (Nat.le_of_ble_eq_true rfl) (loc' := [(2, .int x2_3), (0, .int p1), (1, .int p2)]) rfl ?_
  refine g_iload_n C dX5_mixOf_21 0 rfl rfl ?_
  refine g_iload_n C dX5_mixOf_22 0 rfl rfl ?_
  refine g_bipush C dX5_mixOf_23 (v := 13) rfl ?_
  refine g_iushr C dX5_mixOf_25 ?_
  refine g_ixor C dX5_mixOf_26 ?_
  refine g_nmI (fun x2_4 ex2_4 => ?_)
  have hw := hw x2_4 ex2_4
  refine g_istore_n C dX5_mixOf_27 rfl (Nat.le_of_ble_eq_true rfl) (loc' := [(2, .int x2_4), (0, .int p1), (1, .int p2)]) rfl ?_
  refine g_iload_n C dX5_mixOf_28 0 rfl rfl ?_
  refine g_ldcw C dX5_mixOf_29 tw483 ?_
  refine g_imul C dX5_mixOf_32 ?_
  refine g_nmI (fun x2_5 ex2_5 => ?_)
  have hw := hw x2_5 ex2_5
  refine g_istore_n C dX5_mixOf_33 rfl (Nat.le_of_ble_eq_true rfl) (loc' := [(2, .int x2_5), (0, .int p1), (1, .int p2)]) rfl ?_
  refine g_iload_n C dX5_mixOf_34 0 rfl rfl ?_
  refine g_iload_n C dX5_mixOf_35 0 rfl rfl ?_
  refine g_bipush C dX5_mixOf_36 (v := 16) rfl ?_
  refine g_iushr C dX5_mixOf_38 ?_
  refine g_ixor C dX5_mixOf_39 ?_
  refine g_nmI (fun x2_6 ex2_6 => ?_)
  have hw := hw x2_6 ex2_6
  refine g_istore_n C dX5_mixOf_40 rfl (Nat.le_of_ble_eq_true rfl) (loc' := [(2, .int x2_6), (0, .int p1), (1, .int p2)]) rfl ?_
  refine g_iload_n C dX5_mixOf_41 0 rfl rfl ?_
  refine g_ldcw C dX5_mixOf_42 tw484 ?_
  refine g_iand C dX5_mixOf_45 ?_
  refine g_i2l C dX5_mixOf_46 ?_
  refine g_lconst C dX5_mixOf_47 (v := 1) rfl ?_
  refine g_ladd C dX5_mixOf_48 ?_
  exact g_lret C dX5_mixOf_49 (Nat.le_of_ble_eq_true rfl) (Nat.le_of_ble_eq_true rfl) ⟨_, rfl, rfl, hw⟩
theorem gc_X5_mixOf : ∀ rm : Room, rmX5_mixOf.frames + 1 ≤ rm.frames → 8 + (3 + 11) + rmX5_mixOf.locals ≤ rm.locals → gCall yX5_mixOf 3 2 rmX5_mixOf rm := fun rm a b => ⟨Or.inl ⟨_, _, tw480⟩, tw1, ⟨by decide, by decide⟩, by decide, a, b⟩
abbrev rmX4_mixAt : Room := { frames := 1, cells := 0, slots := 0, locals := 22 }
def wp_X4_mixAt (o : Nat) (p1 : Int32) (M : MEM) (Q : Int64 → Prop) : Prop := KD o = (14, 0) ∧ ((¬ (mI M o 1) = 3 → (wp_X4_partAt o p1 0 M (fun r_1 => wp_X5_mixOf (mI M o 3) r_1 M (fun r_3 => Q r_3)))) ∧ ((mI M o 1) = 3 → (wp_X4_partAt o p1 1 M (fun r_5 => wp_X5_mixOf (mI M o 3) r_5 M (fun r_7 => Q r_7)))))
set_option maxRecDepth 100000 in
set_option maxHeartbeats 4000000 in
theorem met_X4_mixAt {l : Launch} (hl : l.stackTraces = false) {E : MK} {o : Nat} {p1 : Int32} {M : MEM} {Q : Int64 → Prop} (hw : wp_X4_mixAt o p1 M Q) : gMet l E yX4_mixAt rmX4_mixAt [gR E o, .int p1] M (qLp M Q) gNo := by
  obtain ⟨hk0, hw⟩ := hw
  refine g_met hl (cc := cX4_mixAt) (maxL := 2) (ret := (some .long)) (hh := []) (loc := [(0, gR E o), (1, .int p1)]) (by decide +kernel) (Or.inl ⟨tw473, rfl⟩) (Nat.le_of_ble_eq_true rfl) rfl (fun K hK C => ?_)
  have C : GC K E cX4_mixAt RX4 2 (some .long) [] rmX4_mixAt := C
  refine g_aload_n C dX4_mixAt_0 0 rfl rfl ?_
  refine gf_RX4_32 C hk0 dX4_mixAt_1 ?_
  refine g_aload_n C dX4_mixAt_4 0 rfl rfl ?_
  refine g_iload_n C dX4_mixAt_5 1 rfl rfl ?_
  refine g_aload_n C dX4_mixAt_6 0 rfl rfl ?_
  refine gf_RX4_26 C hk0 dX4_mixAt_7 ?_
  refine g_iconst C dX4_mixAt_10 (v := 3) rfl ?_
  refine g_icmp_ne C dX4_mixAt_11 (tgt := 18) (by decide) (fun c11 => ?_) (fun c11 => ?_)
  · have hw := hw.1 c11
    refine g_iconst C dX4_mixAt_18 (v := 0) rfl ?_
    refine g_cV C dX4_mixAt_19 (met_X4_partAt C.st hw) (gc_X4_partAt _ (Nat.le_of_ble_eq_true rfl) (Nat.le_of_ble_eq_true rfl)) tw474 tw475 tw476 (ci := 4) rfl (by decide) hk0 rfl (Nat.le_of_ble_eq_true rfl) (c2 := 0) (s2 := 0) rfl rfl (Nat.le_of_ble_eq_true rfl) (Nat.le_of_ble_eq_true rfl) rfl (kIp (fun r_1 hw => ?_)) tNo
    refine g_cS C dX4_mixAt_22 (met_X5_mixOf C.st hw) (gc_X5_mixOf _ (Nat.le_of_ble_eq_true rfl) (Nat.le_of_ble_eq_true rfl)) (Or.inr ⟨_, List.mem_of_getElem? (i := 5) rfl⟩) tw479 rfl (Nat.le_of_ble_eq_true rfl) (c2 := 0) (s2 := 0) rfl rfl (Nat.le_of_ble_eq_true rfl) (Nat.le_of_ble_eq_true rfl) rfl (kLp (fun r_3 hw => ?_)) tNo
    exact g_lret C dX4_mixAt_25 (Nat.le_of_ble_eq_true rfl) (Nat.le_of_ble_eq_true rfl) ⟨_, rfl, rfl, hw⟩
  · have hw := hw.2 c11
    refine g_iconst C dX4_mixAt_14 (v := 1) rfl ?_
    refine g_goto C dX4_mixAt_15 (tgt := 19) (by decide) ?_
    refine g_cV C dX4_mixAt_19 (met_X4_partAt C.st hw) (gc_X4_partAt _ (Nat.le_of_ble_eq_true rfl) (Nat.le_of_ble_eq_true rfl)) tw474 tw475 tw476 (ci := 4) rfl (by decide) hk0 rfl (Nat.le_of_ble_eq_true rfl) (c2 := 0) (s2 := 0) rfl rfl (Nat.le_of_ble_eq_true rfl) (Nat.le_of_ble_eq_true rfl) rfl (kIp (fun r_5 hw => ?_)) tNo
    refine g_cS C dX4_mixAt_22 (met_X5_mixOf C.st hw) (gc_X5_mixOf _ (Nat.le_of_ble_eq_true rfl) (Nat.le_of_ble_eq_true rfl)) (Or.inr ⟨_, List.mem_of_getElem? (i := 5) rfl⟩) tw479 rfl (Nat.le_of_ble_eq_true rfl) (c2 := 0) (s2 := 0) rfl rfl (Nat.le_of_ble_eq_true rfl) (Nat.le_of_ble_eq_true rfl) rfl (kLp (fun r_7 hw => ?_)) tNo
    exact g_lret C dX4_mixAt_25 (Nat.le_of_ble_eq_true rfl) (Nat.le_of_ble_eq_true rfl) ⟨_, rfl, rfl, hw⟩
theorem gc_X4_mixAt : ∀ rm : Room, rmX4_mixAt.frames + 1 ≤ rm.frames → 8 + (2 + 11) + rmX4_mixAt.locals ≤ rm.locals → gCall yX4_mixAt 2 1 rmX4_mixAt rm := fun rm a b => ⟨Or.inl ⟨_, _, tw473⟩, tw2, ⟨by decide, by decide⟩, by decide, a, b⟩
abbrev rmX3_find : Room := { frames := 4, cells := 0, slots := 0, locals := 89 }
def wp_X3_find_L27 (o : Nat) (p1 : Nat) (Q : MEM → Prop) (v_7 : Int32) : Nat → Int32 → MEM → Prop
  | 0, _, _ => False
  | n27 + 1, x3_8, M_9 => (v_7 ≤ x3_8 → (wp_X3_choose o M_9 (fun M_11 => Q M_11))) ∧ (¬ v_7 ≤ x3_8 → (wp_X4_mixAt p1 x3_8 M_9 (fun r_12 => (KD (RF o 3) = (2, 60) ∧ (vp_in x3_8 60 ∧ (∀ M_16 : MEM, M_16 = uL M_9 (RF o 3) x3_8.toNatClampNeg r_12 → ((KD (RF o 5) = (0, 60) ∧ (vp_in x3_8 60 ∧ (∀ M_19 : MEM, M_19 = uI M_16 (RF o 5) x3_8.toNatClampNeg (-1) → ((KD (RF o 7) = (0, 60) ∧ (vp_in x3_8 60 ∧ (∀ M_22 : MEM, M_22 = uI M_19 (RF o 7) x3_8.toNatClampNeg (-1) → ((¬ (mI M_22 p1 1) = 3 → (wp_X3_insert o x3_8 M_22 (fun M_24 => ∀ x3_25 : Int32, x3_25 = x3_8 + 1 → ((wp_X3_find_L27 o p1 Q v_7 n27) x3_25 M_24)))) ∧ ((mI M_22 p1 1) = 3 → (wp_X4_isFirstOfKey p1 x3_8 M_22 (fun r_26 => (r_26 = 0 → (∀ x3_28 : Int32, x3_28 = x3_8 + 1 → ((wp_X3_find_L27 o p1 Q v_7 n27) x3_28 M_22))) ∧ (¬ r_26 = 0 → (wp_X3_insert o x3_8 M_22 (fun M_30 => ∀ x3_31 : Int32, x3_31 = x3_8 + 1 → ((wp_X3_find_L27 o p1 Q v_7 n27) x3_31 M_30))))))))))))))))))))))
def wp_X3_find (o : Nat) (p1 : Nat) (M : MEM) (Q : MEM → Prop) : Prop := KD o = (13, 0) ∧ ((∀ M_1 : MEM, M_1 = uO M o p1 → ((∀ M_2 : MEM, M_2 = uI M_1 o 1 0 → ((∀ M_3 : MEM, M_3 = uI M_2 o 2 0 → (KD p1 = (14, 0) ∧ wp_X4_count p1 M_3 (fun r_4 => ∀ v_7 : Int32, v_7 = (if (60 : Int32) < r_4 then 60 else r_4) → (∃ m27 : Nat, wp_X3_find_L27 o p1 Q v_7 m27 0 M_3)))))))))
set_option maxRecDepth 100000 in
set_option maxHeartbeats 4000000 in
theorem met_X3_find {l : Launch} (hl : l.stackTraces = false) {E : MK} {o : Nat} {p1 : Nat} {M : MEM} {Q : MEM → Prop} (hw : wp_X3_find o p1 M Q) : gMet l E yX3_find rmX3_find [gR E o, gR E p1] M (qV Q) gNo := by
  obtain ⟨hk0, hw⟩ := hw
  refine g_met hl (cc := cX3_find) (maxL := 4) (ret := none) (hh := []) (loc := [(0, gR E o), (1, gR E p1)]) (by decide +kernel) (Or.inl ⟨tw467, rfl⟩) (Nat.le_of_ble_eq_true rfl) rfl (fun K hK C => ?_)
  have C : GC K E cX3_find RX3 4 none [] rmX3_find := C
  refine g_aload_n C dX3_find_0 0 rfl rfl ?_
  refine g_aload_n C dX3_find_1 1 rfl rfl ?_
  refine pf_RX3_12 C hk0 dX3_find_2 ?_
  refine g_nmM (fun M_1 eM_1 => ?_)
  have hw := hw M_1 eM_1
  refine g_aload_n C dX3_find_5 0 rfl rfl ?_
  refine g_iconst C dX3_find_6 (v := 0) rfl ?_
  refine pf_RX3_42 C hk0 dX3_find_7 ?_
  refine g_nmM (fun M_2 eM_2 => ?_)
  have hw := hw M_2 eM_2
  refine g_aload_n C dX3_find_10 0 rfl rfl ?_
  refine g_iconst C dX3_find_11 (v := 0) rfl ?_
  refine pf_RX3_38 C hk0 dX3_find_12 ?_
  refine g_nmM (fun M_3 eM_3 => ?_)
  have hw := hw M_3 eM_3
  refine g_aload_n C dX3_find_15 1 rfl rfl ?_
  obtain ⟨hk_6, hw⟩ := hw
  refine g_cV C dX3_find_16 (met_X4_count C.st hw) (gc_X4_count _ (Nat.le_of_ble_eq_true rfl) (Nat.le_of_ble_eq_true rfl)) tw468 tw361 tw362 (ci := 4) rfl (by decide) hk_6 rfl (Nat.le_of_ble_eq_true rfl) (c2 := 0) (s2 := 0) rfl rfl (Nat.le_of_ble_eq_true rfl) (Nat.le_of_ble_eq_true rfl) rfl (kIp (fun r_4 hw => ?_)) tNo
  refine g_bipush C dX3_find_19 (v := 60) rfl ?_
  refine g_min C dX3_find_21 tw469 tw374 tw6 tw375 (Nat.le_of_ble_eq_true rfl) (Nat.le_of_ble_eq_true rfl) (Nat.le_of_ble_eq_true rfl) (Nat.le_of_ble_eq_true rfl) ?_
  refine g_nmI (fun v_7 ev_7 => ?_)
  have hw := hw v_7 ev_7
  refine g_istore_n C dX3_find_24 rfl (Nat.le_of_ble_eq_true rfl) (loc' := [(2, .int v_7), (0, gR E o), (1, gR E p1)]) rfl ?_
  refine g_iconst C dX3_find_25 (v := 0) rfl ?_
  refine g_istore_n C dX3_find_26 rfl (Nat.le_of_ble_eq_true rfl) (loc' := [(3, .int 0), (2, .int v_7), (0, gR E o), (1, gR E p1)]) rfl ?_
  obtain ⟨m27, hw⟩ := hw
  have hL27 : ∀ (n27 : Nat) (x3_8 : Int32) (M_9 : MEM), wp_X3_find_L27 o p1 Q v_7 n27 x3_8 M_9 → GX K E 4 M_9 [(0, gR E o), (1, gR E p1), (2, .int v_7), (3, .int x3_8)] [] 27 0 0 (gEnd K E (qV Q) gNo rmX3_find.cells rmX3_find.slots) := by
    intro n27
    induction n27 with
    | zero => intro _ _ hw; exact False.elim hw
    | succ n27 ih27 =>
      intro x3_8 M_9 hw
      refine g_iload_n C dX3_find_27 3 rfl rfl ?_
      refine g_iload_n C dX3_find_28 2 rfl rfl ?_
      refine g_icmp_ge C dX3_find_29 (tgt := 84) (by decide) (fun c29 => ?_) (fun c29 => ?_)
      · have hw := hw.1 c29
        refine g_aload_n C dX3_find_84 0 rfl rfl ?_
        refine g_cV C dX3_find_85 (met_X3_choose C.st hw) (gc_X3_choose _ (Nat.le_of_ble_eq_true rfl) (Nat.le_of_ble_eq_true rfl)) tw502 tw504 twp10 (ci := 3) rfl (by decide) hk0 rfl (Nat.le_of_ble_eq_true rfl) (c2 := 0) (s2 := 0) rfl rfl (Nat.le_of_ble_eq_true rfl) (Nat.le_of_ble_eq_true rfl) rfl (kV (fun M_11 hw => ?_)) tNo
        exact g_vret C dX3_find_88 (Nat.le_of_ble_eq_true rfl) (Nat.le_of_ble_eq_true rfl) ⟨rfl, hw⟩
      · have hw := hw.2 c29
        refine g_aload_n C dX3_find_32 0 rfl rfl ?_
        refine gf_RX3_18 C hk0 dX3_find_33 ?_
        refine g_iload_n C dX3_find_36 3 rfl rfl ?_
        refine g_aload_n C dX3_find_37 1 rfl rfl ?_
        refine g_iload_n C dX3_find_38 3 rfl rfl ?_
        refine g_cV C dX3_find_39 (met_X4_mixAt C.st hw) (gc_X4_mixAt _ (Nat.le_of_ble_eq_true rfl) (Nat.le_of_ble_eq_true rfl)) tw470 tw471 tw472 (ci := 4) rfl (by decide) hk_6 rfl (Nat.le_of_ble_eq_true rfl) (c2 := 0) (s2 := 0) rfl rfl (Nat.le_of_ble_eq_true rfl) (Nat.le_of_ble_eq_true rfl) rfl (kLp (fun r_12 hw => ?_)) tNo
        obtain ⟨hk_14, hw⟩ := hw
        obtain ⟨hi_15, hw⟩ := hw
        refine g_lastore C hk_14 hi_15 dX3_find_42 ?_
        refine g_nmM (fun M_16 eM_16 => ?_)
        have hw := hw M_16 eM_16
        refine g_aload_n C dX3_find_43 0 rfl rfl ?_
        refine gf_RX3_26 C hk0 dX3_find_44 ?_
        refine g_iload_n C dX3_find_47 3 rfl rfl ?_
        refine g_iconst C dX3_find_48 (v := (-1)) rfl ?_
        obtain ⟨hk_17, hw⟩ := hw
        obtain ⟨hi_18, hw⟩ := hw
        refine g_iastore C hk_17 hi_18 dX3_find_49 ?_
        refine g_nmM (fun M_19 eM_19 => ?_)
        have hw := hw M_19 eM_19
        refine g_aload_n C dX3_find_50 0 rfl rfl ?_
        refine gf_RX3_32 C hk0 dX3_find_51 ?_
        refine g_iload_n C dX3_find_54 3 rfl rfl ?_
        refine g_iconst C dX3_find_55 (v := (-1)) rfl ?_
        obtain ⟨hk_20, hw⟩ := hw
        obtain ⟨hi_21, hw⟩ := hw
        refine g_iastore C hk_20 hi_21 dX3_find_56 ?_
        refine g_nmM (fun M_22 eM_22 => ?_)
        have hw := hw M_22 eM_22
        refine g_aload_n C dX3_find_57 1 rfl rfl ?_
        refine gf_RX3_59 C hk_6 dX3_find_58 ?_
        refine g_iconst C dX3_find_61 (v := 3) rfl ?_
        refine g_icmp_ne C dX3_find_62 (tgt := 73) (by decide) (fun c62 => ?_) (fun c62 => ?_)
        · have hw := hw.1 c62
          refine g_aload_n C dX3_find_73 0 rfl rfl ?_
          refine g_iload_n C dX3_find_74 3 rfl rfl ?_
          refine g_cV C dX3_find_75 (met_X3_insert C.st hw) (gc_X3_insert _ (Nat.le_of_ble_eq_true rfl) (Nat.le_of_ble_eq_true rfl)) tw489 tw491 twp7 (ci := 3) rfl (by decide) hk0 rfl (Nat.le_of_ble_eq_true rfl) (c2 := 0) (s2 := 0) rfl rfl (Nat.le_of_ble_eq_true rfl) (Nat.le_of_ble_eq_true rfl) rfl (kV (fun M_24 hw => ?_)) tNo
          obtain ⟨x3_25, ex3_25⟩ : ∃ y : Int32, y = x3_8 + 1 := ⟨_, rfl⟩
          have hw := hw x3_25 ex3_25
          refine g_iinc C (j := 0) dX3_find_78 3 rfl (v := x3_25) (by rw [ex3_25]; rfl) (Nat.le_of_ble_eq_true rfl) (loc' := [(3, .int x3_25), (0, gR E o), (1, gR E p1), (2, .int v_7)]) rfl ?_
          refine g_goto C dX3_find_81 (tgt := 27) (by decide) ?_
          refine g_sub [1, 2, 3, 0] rfl ?_
          exact ih27 _ _ hw
        · have hw := hw.2 c62
          refine g_aload_n C dX3_find_65 1 rfl rfl ?_
          refine g_iload_n C dX3_find_66 3 rfl rfl ?_
          refine g_cV C dX3_find_67 (met_X4_isFirstOfKey C.st hw) (gc_X4_isFirstOfKey _ (Nat.le_of_ble_eq_true rfl) (Nat.le_of_ble_eq_true rfl)) tw485 tw486 tw487 (ci := 4) rfl (by decide) hk_6 rfl (Nat.le_of_ble_eq_true rfl) (c2 := 0) (s2 := 0) rfl rfl (Nat.le_of_ble_eq_true rfl) (Nat.le_of_ble_eq_true rfl) rfl (kIp (fun r_26 hw => ?_)) tNo
          refine g_if_eq C dX3_find_70 (tgt := 78) (by decide) (fun c70 => ?_) (fun c70 => ?_)
          · have hw := hw.1 c70
            obtain ⟨x3_28, ex3_28⟩ : ∃ y : Int32, y = x3_8 + 1 := ⟨_, rfl⟩
            have hw := hw x3_28 ex3_28
            refine g_iinc C (j := 0) dX3_find_78 3 rfl (v := x3_28) (by rw [ex3_28]; rfl) (Nat.le_of_ble_eq_true rfl) (loc' := [(3, .int x3_28), (0, gR E o), (1, gR E p1), (2, .int v_7)]) rfl ?_
            refine g_goto C dX3_find_81 (tgt := 27) (by decide) ?_
            refine g_sub [1, 2, 3, 0] rfl ?_
            exact ih27 _ _ hw
          · have hw := hw.2 c70
            refine g_aload_n C dX3_find_73 0 rfl rfl ?_
            refine g_iload_n C dX3_find_74 3 rfl rfl ?_
            refine g_cV C dX3_find_75 (met_X3_insert C.st hw) (gc_X3_insert _ (Nat.le_of_ble_eq_true rfl) (Nat.le_of_ble_eq_true rfl)) tw489 tw491 twp7 (ci := 3) rfl (by decide) hk0 rfl (Nat.le_of_ble_eq_true rfl) (c2 := 0) (s2 := 0) rfl rfl (Nat.le_of_ble_eq_true rfl) (Nat.le_of_ble_eq_true rfl) rfl (kV (fun M_30 hw => ?_)) tNo
            obtain ⟨x3_31, ex3_31⟩ : ∃ y : Int32, y = x3_8 + 1 := ⟨_, rfl⟩
            have hw := hw x3_31 ex3_31
            refine g_iinc C (j := 0) dX3_find_78 3 rfl (v := x3_31) (by rw [ex3_31]; rfl) (Nat.le_of_ble_eq_true rfl) (loc' := [(3, .int x3_31), (0, gR E o), (1, gR E p1), (2, .int v_7)]) rfl ?_
            refine g_goto C dX3_find_81 (tgt := 27) (by decide) ?_
            refine g_sub [1, 2, 3, 0] rfl ?_
            exact ih27 _ _ hw
  refine g_sub [2, 3, 1, 0] rfl ?_
  exact hL27 m27 _ _ hw
theorem gc_X3_find : ∀ rm : Room, rmX3_find.frames + 1 ≤ rm.frames → 8 + (4 + 11) + rmX3_find.locals ≤ rm.locals → gCall yX3_find 4 1 rmX3_find rm := fun rm a b => ⟨Or.inl ⟨_, _, tw467⟩, tw4, ⟨by decide, by decide⟩, by decide, a, b⟩
abbrev rmX3_chosenAt : Room := { frames := 0, cells := 0, slots := 0, locals := 0 }
def wp_X3_chosenAt (o : Nat) (p1 : Int32) (M : MEM) (Q : Int32 → Prop) : Prop := KD o = (13, 0) ∧ ((p1 < 0 → (Q (-1))) ∧ (¬ p1 < 0 → (((mI M o 2) ≤ p1 → (Q (-1))) ∧ (¬ (mI M o 2) ≤ p1 → ((p1 < 60 → (KD (RF o 6) = (0, 60) ∧ vp_in p1 60 ∧ (Q (mI M (RF o 6) p1.toNatClampNeg)))) ∧ (¬ p1 < 60 → (Q (-1))))))))
set_option maxRecDepth 100000 in
set_option maxHeartbeats 4000000 in
theorem met_X3_chosenAt {l : Launch} (hl : l.stackTraces = false) {E : MK} {o : Nat} {p1 : Int32} {M : MEM} {Q : Int32 → Prop} (hw : wp_X3_chosenAt o p1 M Q) : gMet l E yX3_chosenAt rmX3_chosenAt [gR E o, .int p1] M (qIp M Q) gNo := by
  obtain ⟨hk0, hw⟩ := hw
  refine g_met hl (cc := cX3_chosenAt) (maxL := 2) (ret := (some .int)) (hh := []) (loc := [(0, gR E o), (1, .int p1)]) (by decide +kernel) (Or.inl ⟨tw675, rfl⟩) (Nat.le_of_ble_eq_true rfl) rfl (fun K hK C => ?_)
  have C : GC K E cX3_chosenAt RX3 2 (some .int) [] rmX3_chosenAt := C
  refine g_iload_n C dX3_chosenAt_0 1 rfl rfl ?_
  refine g_if_lt C dX3_chosenAt_1 (tgt := 18) (by decide) (fun c1 => ?_) (fun c1 => ?_)
  · have hw := hw.1 c1
    refine g_iconst C dX3_chosenAt_18 (v := (-1)) rfl ?_
    refine g_goto C dX3_chosenAt_19 (tgt := 28) (by decide) ?_
    exact g_iret C dX3_chosenAt_28 (Nat.le_of_ble_eq_true rfl) (Nat.le_of_ble_eq_true rfl) ⟨_, rfl, rfl, hw⟩
  · have hw := hw.2 c1
    refine g_iload_n C dX3_chosenAt_4 1 rfl rfl ?_
    refine g_aload_n C dX3_chosenAt_5 0 rfl rfl ?_
    refine gf_RX3_38 C hk0 dX3_chosenAt_6 ?_
    refine g_icmp_ge C dX3_chosenAt_9 (tgt := 18) (by decide) (fun c9 => ?_) (fun c9 => ?_)
    · have hw := hw.1 c9
      refine g_iconst C dX3_chosenAt_18 (v := (-1)) rfl ?_
      refine g_goto C dX3_chosenAt_19 (tgt := 28) (by decide) ?_
      exact g_iret C dX3_chosenAt_28 (Nat.le_of_ble_eq_true rfl) (Nat.le_of_ble_eq_true rfl) ⟨_, rfl, rfl, hw⟩
    · have hw := hw.2 c9
      refine g_iload_n C dX3_chosenAt_12 1 rfl rfl ?_
      refine g_bipush C dX3_chosenAt_13 (v := 60) rfl ?_
      refine g_icmp_lt C dX3_chosenAt_15 (tgt := 22) (by decide) (fun c15 => ?_) (fun c15 => ?_)
      · have hw := hw.1 c15
        refine g_aload_n C dX3_chosenAt_22 0 rfl rfl ?_
        refine gf_RX3_29 C hk0 dX3_chosenAt_23 ?_
        refine g_iload_n C dX3_chosenAt_26 1 rfl rfl ?_
        obtain ⟨hk_1, hw⟩ := hw
        obtain ⟨hi_2, hw⟩ := hw
        refine g_iaload C hk_1 hi_2 dX3_chosenAt_27 ?_
        exact g_iret C dX3_chosenAt_28 (Nat.le_of_ble_eq_true rfl) (Nat.le_of_ble_eq_true rfl) ⟨_, rfl, rfl, hw⟩
      · have hw := hw.2 c15
        refine g_iconst C dX3_chosenAt_18 (v := (-1)) rfl ?_
        refine g_goto C dX3_chosenAt_19 (tgt := 28) (by decide) ?_
        exact g_iret C dX3_chosenAt_28 (Nat.le_of_ble_eq_true rfl) (Nat.le_of_ble_eq_true rfl) ⟨_, rfl, rfl, hw⟩
theorem gc_X3_chosenAt : ∀ rm : Room, rmX3_chosenAt.frames + 1 ≤ rm.frames → 8 + (2 + 11) + rmX3_chosenAt.locals ≤ rm.locals → gCall yX3_chosenAt 2 1 rmX3_chosenAt rm := fun rm a b => ⟨Or.inl ⟨_, _, tw675⟩, tw4, ⟨by decide, by decide⟩, by decide, a, b⟩
abbrev rmX3_partAt : Room := { frames := 1, cells := 0, slots := 0, locals := 22 }
def wp_X3_partAt (o : Nat) (p1 : Int32) (p2 : Int32) (M : MEM) (Q : Int32 → Prop) : Prop := KD o = (13, 0) ∧ (wp_X3_chosenAt o p1 M (fun r_1 => KD (mO M o) = (14, 0) ∧ wp_X4_partAt (mO M o) r_1 p2 M (fun r_3 => Q r_3)))
set_option maxRecDepth 100000 in
set_option maxHeartbeats 4000000 in
theorem met_X3_partAt {l : Launch} (hl : l.stackTraces = false) {E : MK} {o : Nat} {p1 : Int32} {p2 : Int32} {M : MEM} {Q : Int32 → Prop} (hw : wp_X3_partAt o p1 p2 M Q) : gMet l E yX3_partAt rmX3_partAt [gR E o, .int p1, .int p2] M (qIp M Q) gNo := by
  obtain ⟨hk0, hw⟩ := hw
  refine g_met hl (cc := cX3_partAt) (maxL := 3) (ret := (some .int)) (hh := []) (loc := [(0, gR E o), (1, .int p1), (2, .int p2)]) (by decide +kernel) (Or.inl ⟨tw671, rfl⟩) (Nat.le_of_ble_eq_true rfl) rfl (fun K hK C => ?_)
  have C : GC K E cX3_partAt RX3 3 (some .int) [] rmX3_partAt := C
  refine g_aload_n C dX3_partAt_0 0 rfl rfl ?_
  refine gf_RX3_12 C hk0 dX3_partAt_1 ?_
  refine g_aload_n C dX3_partAt_4 0 rfl rfl ?_
  refine g_iload_n C dX3_partAt_5 1 rfl rfl ?_
  refine g_cV C dX3_partAt_6 (met_X3_chosenAt C.st hw) (gc_X3_chosenAt _ (Nat.le_of_ble_eq_true rfl) (Nat.le_of_ble_eq_true rfl)) tw672 tw674 twp17 (ci := 3) rfl (by decide) hk0 rfl (Nat.le_of_ble_eq_true rfl) (c2 := 0) (s2 := 0) rfl rfl (Nat.le_of_ble_eq_true rfl) (Nat.le_of_ble_eq_true rfl) rfl (kIp (fun r_1 hw => ?_)) tNo
  refine g_iload_n C dX3_partAt_9 2 rfl rfl ?_
  obtain ⟨hk_5, hw⟩ := hw
  refine g_cV C dX3_partAt_10 (met_X4_partAt C.st hw) (gc_X4_partAt _ (Nat.le_of_ble_eq_true rfl) (Nat.le_of_ble_eq_true rfl)) tw497 tw475 tw476 (ci := 4) rfl (by decide) hk_5 rfl (Nat.le_of_ble_eq_true rfl) (c2 := 0) (s2 := 0) rfl rfl (Nat.le_of_ble_eq_true rfl) (Nat.le_of_ble_eq_true rfl) rfl (kIp (fun r_3 hw => ?_)) tNo
  exact g_iret C dX3_partAt_13 (Nat.le_of_ble_eq_true rfl) (Nat.le_of_ble_eq_true rfl) ⟨_, rfl, rfl, hw⟩
theorem gc_X3_partAt : ∀ rm : Room, rmX3_partAt.frames + 1 ≤ rm.frames → 8 + (3 + 11) + rmX3_partAt.locals ≤ rm.locals → gCall yX3_partAt 3 2 rmX3_partAt rm := fun rm a b => ⟨Or.inl ⟨_, _, tw671⟩, tw4, ⟨by decide, by decide⟩, by decide, a, b⟩
abbrev rmX3_rankOf : Room := { frames := 1, cells := 0, slots := 0, locals := 20 }
def wp_X3_rankOf (o : Nat) (p1 : Int32) (M : MEM) (Q : Int32 → Prop) : Prop := KD o = (13, 0) ∧ ((p1 < 0 → (Q (-1))) ∧ (¬ p1 < 0 → (KD (mO M o) = (14, 0) ∧ wp_X4_count (mO M o) M (fun r_1 => (r_1 ≤ p1 → (Q (-1))) ∧ (¬ r_1 ≤ p1 → ((p1 < 60 → (KD (RF o 5) = (0, 60) ∧ vp_in p1 60 ∧ (Q (mI M (RF o 5) p1.toNatClampNeg)))) ∧ (¬ p1 < 60 → (Q (-1)))))))))
set_option maxRecDepth 100000 in
set_option maxHeartbeats 4000000 in
theorem met_X3_rankOf {l : Launch} (hl : l.stackTraces = false) {E : MK} {o : Nat} {p1 : Int32} {M : MEM} {Q : Int32 → Prop} (hw : wp_X3_rankOf o p1 M Q) : gMet l E yX3_rankOf rmX3_rankOf [gR E o, .int p1] M (qIp M Q) gNo := by
  obtain ⟨hk0, hw⟩ := hw
  refine g_met hl (cc := cX3_rankOf) (maxL := 2) (ret := (some .int)) (hh := []) (loc := [(0, gR E o), (1, .int p1)]) (by decide +kernel) (Or.inl ⟨tw730, rfl⟩) (Nat.le_of_ble_eq_true rfl) rfl (fun K hK C => ?_)
  have C : GC K E cX3_rankOf RX3 2 (some .int) [] rmX3_rankOf := C
  refine g_iload_n C dX3_rankOf_0 1 rfl rfl ?_
  refine g_if_lt C dX3_rankOf_1 (tgt := 21) (by decide) (fun c1 => ?_) (fun c1 => ?_)
  · have hw := hw.1 c1
    refine g_iconst C dX3_rankOf_21 (v := (-1)) rfl ?_
    refine g_goto C dX3_rankOf_22 (tgt := 31) (by decide) ?_
    exact g_iret C dX3_rankOf_31 (Nat.le_of_ble_eq_true rfl) (Nat.le_of_ble_eq_true rfl) ⟨_, rfl, rfl, hw⟩
  · have hw := hw.2 c1
    refine g_iload_n C dX3_rankOf_4 1 rfl rfl ?_
    refine g_aload_n C dX3_rankOf_5 0 rfl rfl ?_
    refine gf_RX3_12 C hk0 dX3_rankOf_6 ?_
    obtain ⟨hk_3, hw⟩ := hw
    refine g_cV C dX3_rankOf_9 (met_X4_count C.st hw) (gc_X4_count _ (Nat.le_of_ble_eq_true rfl) (Nat.le_of_ble_eq_true rfl)) tw468 tw361 tw362 (ci := 4) rfl (by decide) hk_3 rfl (Nat.le_of_ble_eq_true rfl) (c2 := 0) (s2 := 0) rfl rfl (Nat.le_of_ble_eq_true rfl) (Nat.le_of_ble_eq_true rfl) rfl (kIp (fun r_1 hw => ?_)) tNo
    refine g_icmp_ge C dX3_rankOf_12 (tgt := 21) (by decide) (fun c12 => ?_) (fun c12 => ?_)
    · have hw := hw.1 c12
      refine g_iconst C dX3_rankOf_21 (v := (-1)) rfl ?_
      refine g_goto C dX3_rankOf_22 (tgt := 31) (by decide) ?_
      exact g_iret C dX3_rankOf_31 (Nat.le_of_ble_eq_true rfl) (Nat.le_of_ble_eq_true rfl) ⟨_, rfl, rfl, hw⟩
    · have hw := hw.2 c12
      refine g_iload_n C dX3_rankOf_15 1 rfl rfl ?_
      refine g_bipush C dX3_rankOf_16 (v := 60) rfl ?_
      refine g_icmp_lt C dX3_rankOf_18 (tgt := 25) (by decide) (fun c18 => ?_) (fun c18 => ?_)
      · have hw := hw.1 c18
        refine g_aload_n C dX3_rankOf_25 0 rfl rfl ?_
        refine gf_RX3_26 C hk0 dX3_rankOf_26 ?_
        refine g_iload_n C dX3_rankOf_29 1 rfl rfl ?_
        obtain ⟨hk_4, hw⟩ := hw
        obtain ⟨hi_5, hw⟩ := hw
        refine g_iaload C hk_4 hi_5 dX3_rankOf_30 ?_
        exact g_iret C dX3_rankOf_31 (Nat.le_of_ble_eq_true rfl) (Nat.le_of_ble_eq_true rfl) ⟨_, rfl, rfl, hw⟩
      · have hw := hw.2 c18
        refine g_iconst C dX3_rankOf_21 (v := (-1)) rfl ?_
        refine g_goto C dX3_rankOf_22 (tgt := 31) (by decide) ?_
        exact g_iret C dX3_rankOf_31 (Nat.le_of_ble_eq_true rfl) (Nat.le_of_ble_eq_true rfl) ⟨_, rfl, rfl, hw⟩
theorem gc_X3_rankOf : ∀ rm : Room, rmX3_rankOf.frames + 1 ≤ rm.frames → 8 + (2 + 11) + rmX3_rankOf.locals ≤ rm.locals → gCall yX3_rankOf 2 1 rmX3_rankOf rm := fun rm a b => ⟨Or.inl ⟨_, _, tw730⟩, tw4, ⟨by decide, by decide⟩, by decide, a, b⟩
abbrev rmX3_placeOf : Room := { frames := 1, cells := 0, slots := 0, locals := 20 }
def wp_X3_placeOf (o : Nat) (p1 : Int32) (M : MEM) (Q : Int32 → Prop) : Prop := KD o = (13, 0) ∧ ((p1 < 0 → (Q (-1))) ∧ (¬ p1 < 0 → (KD (mO M o) = (14, 0) ∧ wp_X4_count (mO M o) M (fun r_1 => (r_1 ≤ p1 → (Q (-1))) ∧ (¬ r_1 ≤ p1 → ((p1 < 60 → (KD (RF o 7) = (0, 60) ∧ vp_in p1 60 ∧ (Q (mI M (RF o 7) p1.toNatClampNeg)))) ∧ (¬ p1 < 60 → (Q (-1)))))))))
set_option maxRecDepth 100000 in
set_option maxHeartbeats 4000000 in
theorem met_X3_placeOf {l : Launch} (hl : l.stackTraces = false) {E : MK} {o : Nat} {p1 : Int32} {M : MEM} {Q : Int32 → Prop} (hw : wp_X3_placeOf o p1 M Q) : gMet l E yX3_placeOf rmX3_placeOf [gR E o, .int p1] M (qIp M Q) gNo := by
  obtain ⟨hk0, hw⟩ := hw
  refine g_met hl (cc := cX3_placeOf) (maxL := 2) (ret := (some .int)) (hh := []) (loc := [(0, gR E o), (1, .int p1)]) (by decide +kernel) (Or.inl ⟨tw658, rfl⟩) (Nat.le_of_ble_eq_true rfl) rfl (fun K hK C => ?_)
  have C : GC K E cX3_placeOf RX3 2 (some .int) [] rmX3_placeOf := C
  refine g_iload_n C dX3_placeOf_0 1 rfl rfl ?_
  refine g_if_lt C dX3_placeOf_1 (tgt := 21) (by decide) (fun c1 => ?_) (fun c1 => ?_)
  · have hw := hw.1 c1
    refine g_iconst C dX3_placeOf_21 (v := (-1)) rfl ?_
    refine g_goto C dX3_placeOf_22 (tgt := 31) (by decide) ?_
    exact g_iret C dX3_placeOf_31 (Nat.le_of_ble_eq_true rfl) (Nat.le_of_ble_eq_true rfl) ⟨_, rfl, rfl, hw⟩
  · have hw := hw.2 c1
    refine g_iload_n C dX3_placeOf_4 1 rfl rfl ?_
    refine g_aload_n C dX3_placeOf_5 0 rfl rfl ?_
    refine gf_RX3_12 C hk0 dX3_placeOf_6 ?_
    obtain ⟨hk_3, hw⟩ := hw
    refine g_cV C dX3_placeOf_9 (met_X4_count C.st hw) (gc_X4_count _ (Nat.le_of_ble_eq_true rfl) (Nat.le_of_ble_eq_true rfl)) tw468 tw361 tw362 (ci := 4) rfl (by decide) hk_3 rfl (Nat.le_of_ble_eq_true rfl) (c2 := 0) (s2 := 0) rfl rfl (Nat.le_of_ble_eq_true rfl) (Nat.le_of_ble_eq_true rfl) rfl (kIp (fun r_1 hw => ?_)) tNo
    refine g_icmp_ge C dX3_placeOf_12 (tgt := 21) (by decide) (fun c12 => ?_) (fun c12 => ?_)
    · have hw := hw.1 c12
      refine g_iconst C dX3_placeOf_21 (v := (-1)) rfl ?_
      refine g_goto C dX3_placeOf_22 (tgt := 31) (by decide) ?_
      exact g_iret C dX3_placeOf_31 (Nat.le_of_ble_eq_true rfl) (Nat.le_of_ble_eq_true rfl) ⟨_, rfl, rfl, hw⟩
    · have hw := hw.2 c12
      refine g_iload_n C dX3_placeOf_15 1 rfl rfl ?_
      refine g_bipush C dX3_placeOf_16 (v := 60) rfl ?_
      refine g_icmp_lt C dX3_placeOf_18 (tgt := 25) (by decide) (fun c18 => ?_) (fun c18 => ?_)
      · have hw := hw.1 c18
        refine g_aload_n C dX3_placeOf_25 0 rfl rfl ?_
        refine gf_RX3_32 C hk0 dX3_placeOf_26 ?_
        refine g_iload_n C dX3_placeOf_29 1 rfl rfl ?_
        obtain ⟨hk_4, hw⟩ := hw
        obtain ⟨hi_5, hw⟩ := hw
        refine g_iaload C hk_4 hi_5 dX3_placeOf_30 ?_
        exact g_iret C dX3_placeOf_31 (Nat.le_of_ble_eq_true rfl) (Nat.le_of_ble_eq_true rfl) ⟨_, rfl, rfl, hw⟩
      · have hw := hw.2 c18
        refine g_iconst C dX3_placeOf_21 (v := (-1)) rfl ?_
        refine g_goto C dX3_placeOf_22 (tgt := 31) (by decide) ?_
        exact g_iret C dX3_placeOf_31 (Nat.le_of_ble_eq_true rfl) (Nat.le_of_ble_eq_true rfl) ⟨_, rfl, rfl, hw⟩
theorem gc_X3_placeOf : ∀ rm : Room, rmX3_placeOf.frames + 1 ≤ rm.frames → 8 + (2 + 11) + rmX3_placeOf.locals ≤ rm.locals → gCall yX3_placeOf 2 1 rmX3_placeOf rm := fun rm a b => ⟨Or.inl ⟨_, _, tw658⟩, tw4, ⟨by decide, by decide⟩, by decide, a, b⟩
abbrev rmX3_timesOfKey : Room := { frames := 2, cells := 0, slots := 0, locals := 44 }
def wp_X3_timesOfKey_L4 (o : Nat) (p1 : Int32) (M : MEM) (Q : Int32 → Prop) : Nat → Int32 → Int32 → Prop
  | 0, _, _ => False
  | n4 + 1, x2_1, x3_2 => ((mI M o 2) ≤ x3_2 → (Q x2_1)) ∧ (¬ (mI M o 2) ≤ x3_2 → (wp_X3_partAt o x3_2 1 M (fun r_3 => (¬ r_3 = p1 → (∀ x3_5 : Int32, x3_5 = x3_2 + 1 → ((wp_X3_timesOfKey_L4 o p1 M Q n4) x2_1 x3_5))) ∧ (r_3 = p1 → (∀ x2_6 : Int32, x2_6 = x2_1 + 1 → (∀ x3_7 : Int32, x3_7 = x3_2 + 1 → ((wp_X3_timesOfKey_L4 o p1 M Q n4) x2_6 x3_7)))))))
def wp_X3_timesOfKey (o : Nat) (p1 : Int32) (M : MEM) (Q : Int32 → Prop) : Prop := KD o = (13, 0) ∧ (∃ m4 : Nat, wp_X3_timesOfKey_L4 o p1 M Q m4 0 0)
set_option maxRecDepth 100000 in
set_option maxHeartbeats 4000000 in
theorem met_X3_timesOfKey {l : Launch} (hl : l.stackTraces = false) {E : MK} {o : Nat} {p1 : Int32} {M : MEM} {Q : Int32 → Prop} (hw : wp_X3_timesOfKey o p1 M Q) : gMet l E yX3_timesOfKey rmX3_timesOfKey [gR E o, .int p1] M (qIp M Q) gNo := by
  obtain ⟨hk0, hw⟩ := hw
  refine g_met hl (cc := cX3_timesOfKey) (maxL := 4) (ret := (some .int)) (hh := []) (loc := [(0, gR E o), (1, .int p1)]) (by decide +kernel) (Or.inl ⟨tw718, rfl⟩) (Nat.le_of_ble_eq_true rfl) rfl (fun K hK C => ?_)
  have C : GC K E cX3_timesOfKey RX3 4 (some .int) [] rmX3_timesOfKey := C
  refine g_iconst C dX3_timesOfKey_0 (v := 0) rfl ?_
  refine g_istore_n C dX3_timesOfKey_1 rfl (Nat.le_of_ble_eq_true rfl) (loc' := [(2, .int 0), (0, gR E o), (1, .int p1)]) rfl ?_
  refine g_iconst C dX3_timesOfKey_2 (v := 0) rfl ?_
  refine g_istore_n C dX3_timesOfKey_3 rfl (Nat.le_of_ble_eq_true rfl) (loc' := [(3, .int 0), (2, .int 0), (0, gR E o), (1, .int p1)]) rfl ?_
  obtain ⟨m4, hw⟩ := hw
  have hL4 : ∀ (n4 : Nat) (x2_1 : Int32) (x3_2 : Int32), wp_X3_timesOfKey_L4 o p1 M Q n4 x2_1 x3_2 → GX K E 4 M [(0, gR E o), (1, .int p1), (2, .int x2_1), (3, .int x3_2)] [] 4 0 0 (gEnd K E (qIp M Q) gNo rmX3_timesOfKey.cells rmX3_timesOfKey.slots) := by
    intro n4
    induction n4 with
    | zero => intro _ _ hw; exact False.elim hw
    | succ n4 ih4 =>
      intro x2_1 x3_2 hw
      refine g_iload_n C dX3_timesOfKey_4 3 rfl rfl ?_
      refine g_aload_n C dX3_timesOfKey_5 0 rfl rfl ?_
      refine gf_RX3_38 C hk0 dX3_timesOfKey_6 ?_
      refine g_icmp_ge C dX3_timesOfKey_9 (tgt := 31) (by decide) (fun c9 => ?_) (fun c9 => ?_)
      · have hw := hw.1 c9
        refine g_iload_n C dX3_timesOfKey_31 2 rfl rfl ?_
        exact g_iret C dX3_timesOfKey_32 (Nat.le_of_ble_eq_true rfl) (Nat.le_of_ble_eq_true rfl) ⟨_, rfl, rfl, hw⟩
      · have hw := hw.2 c9
        refine g_aload_n C dX3_timesOfKey_12 0 rfl rfl ?_
        refine g_iload_n C dX3_timesOfKey_13 3 rfl rfl ?_
        refine g_iconst C dX3_timesOfKey_14 (v := 1) rfl ?_
        refine g_cV C dX3_timesOfKey_15 (met_X3_partAt C.st hw) (gc_X3_partAt _ (Nat.le_of_ble_eq_true rfl) (Nat.le_of_ble_eq_true rfl)) tw719 tw669 tw670 (ci := 3) rfl (by decide) hk0 rfl (Nat.le_of_ble_eq_true rfl) (c2 := 0) (s2 := 0) rfl rfl (Nat.le_of_ble_eq_true rfl) (Nat.le_of_ble_eq_true rfl) rfl (kIp (fun r_3 hw => ?_)) tNo
        refine g_iload_n C dX3_timesOfKey_18 1 rfl rfl ?_
        refine g_icmp_ne C dX3_timesOfKey_19 (tgt := 25) (by decide) (fun c19 => ?_) (fun c19 => ?_)
        · have hw := hw.1 c19
          obtain ⟨x3_5, ex3_5⟩ : ∃ y : Int32, y = x3_2 + 1 := ⟨_, rfl⟩
          have hw := hw x3_5 ex3_5
          refine g_iinc C (j := 0) dX3_timesOfKey_25 3 rfl (v := x3_5) (by rw [ex3_5]; rfl) (Nat.le_of_ble_eq_true rfl) (loc' := [(3, .int x3_5), (0, gR E o), (1, .int p1), (2, .int x2_1)]) rfl ?_
          refine g_goto C dX3_timesOfKey_28 (tgt := 4) (by decide) ?_
          refine g_sub [1, 2, 3, 0] rfl ?_
          exact ih4 _ _ hw
        · have hw := hw.2 c19
          obtain ⟨x2_6, ex2_6⟩ : ∃ y : Int32, y = x2_1 + 1 := ⟨_, rfl⟩
          have hw := hw x2_6 ex2_6
          refine g_iinc C (j := 0) dX3_timesOfKey_22 2 rfl (v := x2_6) (by rw [ex2_6]; rfl) (Nat.le_of_ble_eq_true rfl) (loc' := [(2, .int x2_6), (0, gR E o), (1, .int p1), (3, .int x3_2)]) rfl ?_
          obtain ⟨x3_7, ex3_7⟩ : ∃ y : Int32, y = x3_2 + 1 := ⟨_, rfl⟩
          have hw := hw x3_7 ex3_7
          refine g_iinc C (j := 0) dX3_timesOfKey_25 3 rfl (v := x3_7) (by rw [ex3_7]; rfl) (Nat.le_of_ble_eq_true rfl) (loc' := [(3, .int x3_7), (2, .int x2_6), (0, gR E o), (1, .int p1)]) rfl ?_
          refine g_goto C dX3_timesOfKey_28 (tgt := 4) (by decide) ?_
          refine g_sub [2, 3, 1, 0] rfl ?_
          exact ih4 _ _ hw
  refine g_sub [2, 3, 1, 0] rfl ?_
  exact hL4 m4 _ _ hw
theorem gc_X3_timesOfKey : ∀ rm : Room, rmX3_timesOfKey.frames + 1 ≤ rm.frames → 8 + (4 + 11) + rmX3_timesOfKey.locals ≤ rm.locals → gCall yX3_timesOfKey 4 1 rmX3_timesOfKey rm := fun rm a b => ⟨Or.inl ⟨_, _, tw718⟩, tw4, ⟨by decide, by decide⟩, by decide, a, b⟩
abbrev rmX3_hasNumber : Room := { frames := 2, cells := 0, slots := 0, locals := 44 }
def wp_X3_hasNumber_L2 (o : Nat) (p1 : Int32) (M : MEM) (Q : Int32 → Prop) : Nat → Int32 → Prop
  | 0, _ => False
  | n2 + 1, x2_1 => ((mI M o 2) ≤ x2_1 → (Q 0)) ∧ (¬ (mI M o 2) ≤ x2_1 → (wp_X3_partAt o x2_1 0 M (fun r_2 => (¬ r_2 = p1 → (∀ x2_4 : Int32, x2_4 = x2_1 + 1 → ((wp_X3_hasNumber_L2 o p1 M Q n2) x2_4))) ∧ (r_2 = p1 → (Q 1)))))
def wp_X3_hasNumber (o : Nat) (p1 : Int32) (M : MEM) (Q : Int32 → Prop) : Prop := KD o = (13, 0) ∧ (∃ m2 : Nat, wp_X3_hasNumber_L2 o p1 M Q m2 0)
set_option maxRecDepth 100000 in
set_option maxHeartbeats 4000000 in
theorem met_X3_hasNumber {l : Launch} (hl : l.stackTraces = false) {E : MK} {o : Nat} {p1 : Int32} {M : MEM} {Q : Int32 → Prop} (hw : wp_X3_hasNumber o p1 M Q) : gMet l E yX3_hasNumber rmX3_hasNumber [gR E o, .int p1] M (qIp M Q) gNo := by
  obtain ⟨hk0, hw⟩ := hw
  refine g_met hl (cc := cX3_hasNumber) (maxL := 3) (ret := (some .boolean)) (hh := []) (loc := [(0, gR E o), (1, .int p1)]) (by decide +kernel) (Or.inl ⟨tw861, rfl⟩) (Nat.le_of_ble_eq_true rfl) rfl (fun K hK C => ?_)
  have C : GC K E cX3_hasNumber RX3 3 (some .boolean) [] rmX3_hasNumber := C
  refine g_iconst C dX3_hasNumber_0 (v := 0) rfl ?_
  refine g_istore_n C dX3_hasNumber_1 rfl (Nat.le_of_ble_eq_true rfl) (loc' := [(2, .int 0), (0, gR E o), (1, .int p1)]) rfl ?_
  obtain ⟨m2, hw⟩ := hw
  have hL2 : ∀ (n2 : Nat) (x2_1 : Int32), wp_X3_hasNumber_L2 o p1 M Q n2 x2_1 → GX K E 3 M [(0, gR E o), (1, .int p1), (2, .int x2_1)] [] 2 0 0 (gEnd K E (qIp M Q) gNo rmX3_hasNumber.cells rmX3_hasNumber.slots) := by
    intro n2
    induction n2 with
    | zero => intro _ hw; exact False.elim hw
    | succ n2 ih2 =>
      intro x2_1 hw
      refine g_iload_n C dX3_hasNumber_2 2 rfl rfl ?_
      refine g_aload_n C dX3_hasNumber_3 0 rfl rfl ?_
      refine gf_RX3_38 C hk0 dX3_hasNumber_4 ?_
      refine g_icmp_ge C dX3_hasNumber_7 (tgt := 28) (by decide) (fun c7 => ?_) (fun c7 => ?_)
      · have hw := hw.1 c7
        refine g_iconst C dX3_hasNumber_28 (v := 0) rfl ?_
        exact g_zret C dX3_hasNumber_29 gB0.1 (Nat.le_of_ble_eq_true rfl) (Nat.le_of_ble_eq_true rfl) ⟨_, rfl, rfl, hw⟩
      · have hw := hw.2 c7
        refine g_aload_n C dX3_hasNumber_10 0 rfl rfl ?_
        refine g_iload_n C dX3_hasNumber_11 2 rfl rfl ?_
        refine g_iconst C dX3_hasNumber_12 (v := 0) rfl ?_
        refine g_cV C dX3_hasNumber_13 (met_X3_partAt C.st hw) (gc_X3_partAt _ (Nat.le_of_ble_eq_true rfl) (Nat.le_of_ble_eq_true rfl)) tw719 tw669 tw670 (ci := 3) rfl (by decide) hk0 rfl (Nat.le_of_ble_eq_true rfl) (c2 := 0) (s2 := 0) rfl rfl (Nat.le_of_ble_eq_true rfl) (Nat.le_of_ble_eq_true rfl) rfl (kIp (fun r_2 hw => ?_)) tNo
        refine g_iload_n C dX3_hasNumber_16 1 rfl rfl ?_
        refine g_icmp_ne C dX3_hasNumber_17 (tgt := 22) (by decide) (fun c17 => ?_) (fun c17 => ?_)
        · have hw := hw.1 c17
          obtain ⟨x2_4, ex2_4⟩ : ∃ y : Int32, y = x2_1 + 1 := ⟨_, rfl⟩
          have hw := hw x2_4 ex2_4
          refine g_iinc C (j := 0) dX3_hasNumber_22 2 rfl (v := x2_4) (by rw [ex2_4]; rfl) (Nat.le_of_ble_eq_true rfl) (loc' := [(2, .int x2_4), (0, gR E o), (1, .int p1)]) rfl ?_
          refine g_goto C dX3_hasNumber_25 (tgt := 2) (by decide) ?_
          refine g_sub [1, 2, 0] rfl ?_
          exact ih2 _ hw
        · have hw := hw.2 c17
          refine g_iconst C dX3_hasNumber_20 (v := 1) rfl ?_
          exact g_zret C dX3_hasNumber_21 gB1.1 (Nat.le_of_ble_eq_true rfl) (Nat.le_of_ble_eq_true rfl) ⟨_, rfl, rfl, hw⟩
  refine g_sub [1, 2, 0] rfl ?_
  exact hL2 m2 _ hw
theorem gc_X3_hasNumber : ∀ rm : Room, rmX3_hasNumber.frames + 1 ≤ rm.frames → 8 + (3 + 11) + rmX3_hasNumber.locals ≤ rm.locals → gCall yX3_hasNumber 3 1 rmX3_hasNumber rm := fun rm a b => ⟨Or.inl ⟨_, _, tw861⟩, tw4, ⟨by decide, by decide⟩, by decide, a, b⟩
abbrev rmX3_sortedValue : Room := { frames := 2, cells := 0, slots := 0, locals := 44 }
def wp_X3_sortedValue_L28 (o : Nat) (K12 : Int32 → MEM → Prop) (x3_2 : Int32) (r_6 : Int32) : Nat → Int32 → MEM → Prop
  | 0, _, _ => False
  | n28 + 1, x5_8, M_9 => (x5_8 ≤ 0 → ((KD (RF o 8) = (0, 60) ∧ (vp_in x5_8 60 ∧ (∀ M_12 : MEM, M_12 = uI M_9 (RF o 8) x5_8.toNatClampNeg r_6 → (∀ x3_13 : Int32, x3_13 = x3_2 + 1 → (K12 x3_13 M_12))))))) ∧ (¬ x5_8 ≤ 0 → (KD (RF o 8) = (0, 60) ∧ vp_in (x5_8 - 1) 60 ∧ (((mI M_9 (RF o 8) (x5_8 - 1).toNatClampNeg) ≤ r_6 → ((vp_in x5_8 60 ∧ (∀ M_17 : MEM, M_17 = uI M_9 (RF o 8) x5_8.toNatClampNeg r_6 → (∀ x3_18 : Int32, x3_18 = x3_2 + 1 → (K12 x3_18 M_17)))))) ∧ (¬ (mI M_9 (RF o 8) (x5_8 - 1).toNatClampNeg) ≤ r_6 → (vp_in (x5_8 - 1) 60 ∧ ((vp_in x5_8 60 ∧ (∀ M_21 : MEM, M_21 = uI M_9 (RF o 8) x5_8.toNatClampNeg (mI M_9 (RF o 8) (x5_8 - 1).toNatClampNeg) → (∀ x5_22 : Int32, x5_22 = x5_8 + (-1) → ((wp_X3_sortedValue_L28 o K12 x3_2 r_6 n28) x5_22 M_21))))))))))
def wp_X3_sortedValue_L12 (o : Nat) (p1 : Int32) (Q : Int32 → MEM → Prop) (v_1 : Int32) : Nat → Int32 → MEM → Prop
  | 0, _, _ => False
  | n12 + 1, x3_2, M_3 => (v_1 ≤ x3_2 → ((p1 < 0 → (Q 0 M_3)) ∧ (¬ p1 < 0 → ((p1 < v_1 → (KD (RF o 8) = (0, 60) ∧ vp_in p1 60 ∧ (Q (mI M_3 (RF o 8) p1.toNatClampNeg) M_3))) ∧ (¬ p1 < v_1 → (Q 0 M_3)))))) ∧ (¬ v_1 ≤ x3_2 → (wp_X3_partAt o x3_2 4 M_3 (fun r_6 => ∃ m28 : Nat, wp_X3_sortedValue_L28 o (wp_X3_sortedValue_L12 o p1 Q v_1 n12) x3_2 r_6 m28 x3_2 M_3)))
def wp_X3_sortedValue (o : Nat) (p1 : Int32) (M : MEM) (Q : Int32 → MEM → Prop) : Prop := KD o = (13, 0) ∧ (∀ v_1 : Int32, v_1 = (if (60 : Int32) < (mI M o 2) then 60 else (mI M o 2)) → (∃ m12 : Nat, wp_X3_sortedValue_L12 o p1 Q v_1 m12 0 M))
set_option maxRecDepth 100000 in
set_option maxHeartbeats 4000000 in
theorem met_X3_sortedValue {l : Launch} (hl : l.stackTraces = false) {E : MK} {o : Nat} {p1 : Int32} {M : MEM} {Q : Int32 → MEM → Prop} (hw : wp_X3_sortedValue o p1 M Q) : gMet l E yX3_sortedValue rmX3_sortedValue [gR E o, .int p1] M (qI Q) gNo := by
  obtain ⟨hk0, hw⟩ := hw
  refine g_met hl (cc := cX3_sortedValue) (maxL := 6) (ret := (some .int)) (hh := []) (loc := [(0, gR E o), (1, .int p1)]) (by decide +kernel) (Or.inl ⟨tw823, rfl⟩) (Nat.le_of_ble_eq_true rfl) rfl (fun K hK C => ?_)
  have C : GC K E cX3_sortedValue RX3 6 (some .int) [] rmX3_sortedValue := C
  refine g_aload_n C dX3_sortedValue_0 0 rfl rfl ?_
  refine gf_RX3_38 C hk0 dX3_sortedValue_1 ?_
  refine g_bipush C dX3_sortedValue_4 (v := 60) rfl ?_
  refine g_min C dX3_sortedValue_6 tw469 tw374 tw6 tw375 (Nat.le_of_ble_eq_true rfl) (Nat.le_of_ble_eq_true rfl) (Nat.le_of_ble_eq_true rfl) (Nat.le_of_ble_eq_true rfl) ?_
  refine g_nmI (fun v_1 ev_1 => ?_)
  have hw := hw v_1 ev_1
  refine g_istore_n C dX3_sortedValue_9 rfl (Nat.le_of_ble_eq_true rfl) (loc' := [(2, .int v_1), (0, gR E o), (1, .int p1)]) rfl ?_
  refine g_iconst C dX3_sortedValue_10 (v := 0) rfl ?_
  refine g_istore_n C dX3_sortedValue_11 rfl (Nat.le_of_ble_eq_true rfl) (loc' := [(3, .int 0), (2, .int v_1), (0, gR E o), (1, .int p1)]) rfl ?_
  obtain ⟨m12, hw⟩ := hw
  have hL12 : ∀ (n12 : Nat) (x3_2 : Int32) (M_3 : MEM), wp_X3_sortedValue_L12 o p1 Q v_1 n12 x3_2 M_3 → GX K E 6 M_3 [(0, gR E o), (1, .int p1), (2, .int v_1), (3, .int x3_2)] [] 12 0 0 (gEnd K E (qI Q) gNo rmX3_sortedValue.cells rmX3_sortedValue.slots) := by
    intro n12
    induction n12 with
    | zero => intro _ _ hw; exact False.elim hw
    | succ n12 ih12 =>
      intro x3_2 M_3 hw
      refine g_iload_n C dX3_sortedValue_12 3 rfl rfl ?_
      refine g_iload_n C dX3_sortedValue_13 2 rfl rfl ?_
      refine g_icmp_ge C dX3_sortedValue_14 (tgt := 84) (by decide) (fun c14 => ?_) (fun c14 => ?_)
      · have hw := hw.1 c14
        refine g_iload_n C dX3_sortedValue_84 1 rfl rfl ?_
        refine g_if_lt C dX3_sortedValue_85 (tgt := 93) (by decide) (fun c85 => ?_) (fun c85 => ?_)
        · have hw := hw.1 c85
          refine g_iconst C dX3_sortedValue_93 (v := 0) rfl ?_
          refine g_goto C dX3_sortedValue_94 (tgt := 103) (by decide) ?_
          exact g_iret C dX3_sortedValue_103 (Nat.le_of_ble_eq_true rfl) (Nat.le_of_ble_eq_true rfl) ⟨_, rfl, hw⟩
        · have hw := hw.2 c85
          refine g_iload_n C dX3_sortedValue_88 1 rfl rfl ?_
          refine g_iload_n C dX3_sortedValue_89 2 rfl rfl ?_
          refine g_icmp_lt C dX3_sortedValue_90 (tgt := 97) (by decide) (fun c90 => ?_) (fun c90 => ?_)
          · have hw := hw.1 c90
            refine g_aload_n C dX3_sortedValue_97 0 rfl rfl ?_
            refine gf_RX3_35 C hk0 dX3_sortedValue_98 ?_
            refine g_iload_n C dX3_sortedValue_101 1 rfl rfl ?_
            obtain ⟨hk_4, hw⟩ := hw
            obtain ⟨hi_5, hw⟩ := hw
            refine g_iaload C hk_4 hi_5 dX3_sortedValue_102 ?_
            exact g_iret C dX3_sortedValue_103 (Nat.le_of_ble_eq_true rfl) (Nat.le_of_ble_eq_true rfl) ⟨_, rfl, hw⟩
          · have hw := hw.2 c90
            refine g_iconst C dX3_sortedValue_93 (v := 0) rfl ?_
            refine g_goto C dX3_sortedValue_94 (tgt := 103) (by decide) ?_
            exact g_iret C dX3_sortedValue_103 (Nat.le_of_ble_eq_true rfl) (Nat.le_of_ble_eq_true rfl) ⟨_, rfl, hw⟩
      · have hw := hw.2 c14
        refine g_aload_n C dX3_sortedValue_17 0 rfl rfl ?_
        refine g_iload_n C dX3_sortedValue_18 3 rfl rfl ?_
        refine g_iconst C dX3_sortedValue_19 (v := 4) rfl ?_
        refine g_cV C dX3_sortedValue_20 (met_X3_partAt C.st hw) (gc_X3_partAt _ (Nat.le_of_ble_eq_true rfl) (Nat.le_of_ble_eq_true rfl)) tw719 tw669 tw670 (ci := 3) rfl (by decide) hk0 rfl (Nat.le_of_ble_eq_true rfl) (c2 := 0) (s2 := 0) rfl rfl (Nat.le_of_ble_eq_true rfl) (Nat.le_of_ble_eq_true rfl) rfl (kIp (fun r_6 hw => ?_)) tNo
        refine g_istore C dX3_sortedValue_23 (Nat.le_of_ble_eq_true rfl) (loc' := [(4, .int r_6), (0, gR E o), (1, .int p1), (2, .int v_1), (3, .int x3_2)]) rfl ?_
        refine g_iload_n C dX3_sortedValue_25 4 rfl rfl ?_
        refine g_istore C dX3_sortedValue_26 (Nat.le_of_ble_eq_true rfl) (loc' := [(5, .int x3_2), (4, .int r_6), (0, gR E o), (1, .int p1), (2, .int v_1), (3, .int x3_2)]) rfl ?_
        obtain ⟨m28, hw⟩ := hw
        have hL28 : ∀ (n28 : Nat) (x5_8 : Int32) (M_9 : MEM), wp_X3_sortedValue_L28 o (wp_X3_sortedValue_L12 o p1 Q v_1 n12) x3_2 r_6 n28 x5_8 M_9 → GX K E 6 M_9 [(0, gR E o), (1, .int p1), (2, .int v_1), (3, .int x3_2), (4, .int r_6), (5, .int x5_8)] [] 28 0 0 (gEnd K E (qI Q) gNo rmX3_sortedValue.cells rmX3_sortedValue.slots) := by
          intro n28
          induction n28 with
          | zero => intro _ _ hw; exact False.elim hw
          | succ n28 ih28 =>
            intro x5_8 M_9 hw
            refine g_iload C (j := 0) dX3_sortedValue_28 5 rfl ?_
            refine g_if_le C dX3_sortedValue_30 (tgt := 69) (by decide) (fun c30 => ?_) (fun c30 => ?_)
            · have hw := hw.1 c30
              refine g_aload_n C dX3_sortedValue_69 0 rfl rfl ?_
              refine gf_RX3_35 C hk0 dX3_sortedValue_70 ?_
              refine g_iload C (j := 0) dX3_sortedValue_73 5 rfl ?_
              refine g_iload C (j := 0) dX3_sortedValue_75 4 rfl ?_
              obtain ⟨hk_10, hw⟩ := hw
              obtain ⟨hi_11, hw⟩ := hw
              refine g_iastore C hk_10 hi_11 dX3_sortedValue_77 ?_
              refine g_nmM (fun M_12 eM_12 => ?_)
              have hw := hw M_12 eM_12
              obtain ⟨x3_13, ex3_13⟩ : ∃ y : Int32, y = x3_2 + 1 := ⟨_, rfl⟩
              have hw := hw x3_13 ex3_13
              refine g_iinc C (j := 0) dX3_sortedValue_78 3 rfl (v := x3_13) (by rw [ex3_13]; rfl) (Nat.le_of_ble_eq_true rfl) (loc' := [(3, .int x3_13), (0, gR E o), (1, .int p1), (2, .int v_1), (4, .int r_6), (5, .int x5_8)]) rfl ?_
              refine g_goto C dX3_sortedValue_81 (tgt := 12) (by decide) ?_
              refine g_sub [1, 2, 3, 0] rfl ?_
              exact ih12 _ _ hw
            · have hw := hw.2 c30
              refine g_aload_n C dX3_sortedValue_33 0 rfl rfl ?_
              refine gf_RX3_35 C hk0 dX3_sortedValue_34 ?_
              refine g_iload C (j := 0) dX3_sortedValue_37 5 rfl ?_
              refine g_iconst C dX3_sortedValue_39 (v := 1) rfl ?_
              refine g_isub C dX3_sortedValue_40 ?_
              obtain ⟨hk_14, hw⟩ := hw
              obtain ⟨hi_15, hw⟩ := hw
              refine g_iaload C hk_14 hi_15 dX3_sortedValue_41 ?_
              refine g_iload C (j := 0) dX3_sortedValue_42 4 rfl ?_
              refine g_icmp_le C dX3_sortedValue_44 (tgt := 69) (by decide) (fun c44 => ?_) (fun c44 => ?_)
              · have hw := hw.1 c44
                refine g_aload_n C dX3_sortedValue_69 0 rfl rfl ?_
                refine gf_RX3_35 C hk0 dX3_sortedValue_70 ?_
                refine g_iload C (j := 0) dX3_sortedValue_73 5 rfl ?_
                refine g_iload C (j := 0) dX3_sortedValue_75 4 rfl ?_
                obtain ⟨hi_16, hw⟩ := hw
                refine g_iastore C hk_14 hi_16 dX3_sortedValue_77 ?_
                refine g_nmM (fun M_17 eM_17 => ?_)
                have hw := hw M_17 eM_17
                obtain ⟨x3_18, ex3_18⟩ : ∃ y : Int32, y = x3_2 + 1 := ⟨_, rfl⟩
                have hw := hw x3_18 ex3_18
                refine g_iinc C (j := 0) dX3_sortedValue_78 3 rfl (v := x3_18) (by rw [ex3_18]; rfl) (Nat.le_of_ble_eq_true rfl) (loc' := [(3, .int x3_18), (0, gR E o), (1, .int p1), (2, .int v_1), (4, .int r_6), (5, .int x5_8)]) rfl ?_
                refine g_goto C dX3_sortedValue_81 (tgt := 12) (by decide) ?_
                refine g_sub [1, 2, 3, 0] rfl ?_
                exact ih12 _ _ hw
              · have hw := hw.2 c44
                refine g_aload_n C dX3_sortedValue_47 0 rfl rfl ?_
                refine gf_RX3_35 C hk0 dX3_sortedValue_48 ?_
                refine g_iload C (j := 0) dX3_sortedValue_51 5 rfl ?_
                refine g_aload_n C dX3_sortedValue_53 0 rfl rfl ?_
                refine gf_RX3_35 C hk0 dX3_sortedValue_54 ?_
                refine g_iload C (j := 0) dX3_sortedValue_57 5 rfl ?_
                refine g_iconst C dX3_sortedValue_59 (v := 1) rfl ?_
                refine g_isub C dX3_sortedValue_60 ?_
                obtain ⟨hi_19, hw⟩ := hw
                refine g_iaload C hk_14 hi_19 dX3_sortedValue_61 ?_
                obtain ⟨hi_20, hw⟩ := hw
                refine g_iastore C hk_14 hi_20 dX3_sortedValue_62 ?_
                refine g_nmM (fun M_21 eM_21 => ?_)
                have hw := hw M_21 eM_21
                obtain ⟨x5_22, ex5_22⟩ : ∃ y : Int32, y = x5_8 + (-1) := ⟨_, rfl⟩
                have hw := hw x5_22 ex5_22
                refine g_iinc C (j := 0) dX3_sortedValue_63 5 rfl (v := x5_22) (by rw [ex5_22]; rfl) (Nat.le_of_ble_eq_true rfl) (loc' := [(5, .int x5_22), (0, gR E o), (1, .int p1), (2, .int v_1), (3, .int x3_2), (4, .int r_6)]) rfl ?_
                refine g_goto C dX3_sortedValue_66 (tgt := 28) (by decide) ?_
                refine g_sub [1, 2, 3, 4, 5, 0] rfl ?_
                exact ih28 _ _ hw
        refine g_sub [2, 3, 4, 5, 1, 0] rfl ?_
        exact hL28 m28 _ _ hw
  refine g_sub [2, 3, 1, 0] rfl ?_
  exact hL12 m12 _ _ hw
theorem gc_X3_sortedValue : ∀ rm : Room, rmX3_sortedValue.frames + 1 ≤ rm.frames → 8 + (6 + 11) + rmX3_sortedValue.locals ≤ rm.locals → gCall yX3_sortedValue 6 1 rmX3_sortedValue rm := fun rm a b => ⟨Or.inl ⟨_, _, tw823⟩, tw4, ⟨by decide, by decide⟩, by decide, a, b⟩
abbrev rmX3_shareUpTo : Room := { frames := 2, cells := 0, slots := 0, locals := 44 }
def wp_X3_shareUpTo_L13 (o : Nat) (p1 : Int32) (M : MEM) (Q : UInt32 → Prop) : Nat → Int32 → Int32 → Prop
  | 0, _, _ => False
  | n13 + 1, x2_1, x3_2 => ((mI M o 2) ≤ x3_2 → (∀ f_3 : UInt32, alike32 f_3 (FP.fdiv (FP.i2f x2_1) (FP.i2f (mI M o 2))) = true → (Q f_3))) ∧ (¬ (mI M o 2) ≤ x3_2 → (wp_X3_partAt o x3_2 4 M (fun r_4 => (p1 < r_4 → (∀ x3_6 : Int32, x3_6 = x3_2 + 1 → ((wp_X3_shareUpTo_L13 o p1 M Q n13) x2_1 x3_6))) ∧ (¬ p1 < r_4 → (∀ x2_7 : Int32, x2_7 = x2_1 + 1 → (∀ x3_8 : Int32, x3_8 = x3_2 + 1 → ((wp_X3_shareUpTo_L13 o p1 M Q n13) x2_7 x3_8)))))))
def wp_X3_shareUpTo (o : Nat) (p1 : Int32) (M : MEM) (Q : UInt32 → Prop) : Prop := KD o = (13, 0) ∧ ((0 < (mI M o 2) → (∃ m13 : Nat, wp_X3_shareUpTo_L13 o p1 M Q m13 0 0)) ∧ (¬ 0 < (mI M o 2) → (Q 0)))
set_option maxRecDepth 100000 in
set_option maxHeartbeats 4000000 in
theorem met_X3_shareUpTo {l : Launch} (hl : l.stackTraces = false) {E : MK} {o : Nat} {p1 : Int32} {M : MEM} {Q : UInt32 → Prop} (hw : wp_X3_shareUpTo o p1 M Q) : gMet l E yX3_shareUpTo rmX3_shareUpTo [gR E o, .int p1] M (qFp M Q) gNo := by
  obtain ⟨hk0, hw⟩ := hw
  refine g_met hl (cc := cX3_shareUpTo) (maxL := 4) (ret := (some .float)) (hh := []) (loc := [(0, gR E o), (1, .int p1)]) (by decide +kernel) (Or.inl ⟨tw850, rfl⟩) (Nat.le_of_ble_eq_true rfl) rfl (fun K hK C => ?_)
  have C : GC K E cX3_shareUpTo RX3 4 (some .float) [] rmX3_shareUpTo := C
  refine g_aload_n C dX3_shareUpTo_0 0 rfl rfl ?_
  refine gf_RX3_38 C hk0 dX3_shareUpTo_1 ?_
  refine g_if_gt C dX3_shareUpTo_4 (tgt := 9) (by decide) (fun c4 => ?_) (fun c4 => ?_)
  · have hw := hw.1 c4
    refine g_iconst C dX3_shareUpTo_9 (v := 0) rfl ?_
    refine g_istore_n C dX3_shareUpTo_10 rfl (Nat.le_of_ble_eq_true rfl) (loc' := [(2, .int 0), (0, gR E o), (1, .int p1)]) rfl ?_
    refine g_iconst C dX3_shareUpTo_11 (v := 0) rfl ?_
    refine g_istore_n C dX3_shareUpTo_12 rfl (Nat.le_of_ble_eq_true rfl) (loc' := [(3, .int 0), (2, .int 0), (0, gR E o), (1, .int p1)]) rfl ?_
    obtain ⟨m13, hw⟩ := hw
    have hL13 : ∀ (n13 : Nat) (x2_1 : Int32) (x3_2 : Int32), wp_X3_shareUpTo_L13 o p1 M Q n13 x2_1 x3_2 → GX K E 4 M [(0, gR E o), (1, .int p1), (2, .int x2_1), (3, .int x3_2)] [] 13 0 0 (gEnd K E (qFp M Q) gNo rmX3_shareUpTo.cells rmX3_shareUpTo.slots) := by
      intro n13
      induction n13 with
      | zero => intro _ _ hw; exact False.elim hw
      | succ n13 ih13 =>
        intro x2_1 x3_2 hw
        refine g_iload_n C dX3_shareUpTo_13 3 rfl rfl ?_
        refine g_aload_n C dX3_shareUpTo_14 0 rfl rfl ?_
        refine gf_RX3_38 C hk0 dX3_shareUpTo_15 ?_
        refine g_icmp_ge C dX3_shareUpTo_18 (tgt := 40) (by decide) (fun c18 => ?_) (fun c18 => ?_)
        · have hw := hw.1 c18
          refine g_iload_n C dX3_shareUpTo_40 2 rfl rfl ?_
          refine g_i2f C dX3_shareUpTo_41 ?_
          refine g_aload_n C dX3_shareUpTo_42 0 rfl rfl ?_
          refine gf_RX3_38 C hk0 dX3_shareUpTo_43 ?_
          refine g_i2f C dX3_shareUpTo_46 ?_
          refine g_fdiv C dX3_shareUpTo_47 (fun f_3 ef_3 => ?_)
          have hw := hw f_3 ef_3
          exact g_fret C dX3_shareUpTo_48 (Nat.le_of_ble_eq_true rfl) (Nat.le_of_ble_eq_true rfl) ⟨_, rfl, rfl, hw⟩
        · have hw := hw.2 c18
          refine g_aload_n C dX3_shareUpTo_21 0 rfl rfl ?_
          refine g_iload_n C dX3_shareUpTo_22 3 rfl rfl ?_
          refine g_iconst C dX3_shareUpTo_23 (v := 4) rfl ?_
          refine g_cV C dX3_shareUpTo_24 (met_X3_partAt C.st hw) (gc_X3_partAt _ (Nat.le_of_ble_eq_true rfl) (Nat.le_of_ble_eq_true rfl)) tw719 tw669 tw670 (ci := 3) rfl (by decide) hk0 rfl (Nat.le_of_ble_eq_true rfl) (c2 := 0) (s2 := 0) rfl rfl (Nat.le_of_ble_eq_true rfl) (Nat.le_of_ble_eq_true rfl) rfl (kIp (fun r_4 hw => ?_)) tNo
          refine g_iload_n C dX3_shareUpTo_27 1 rfl rfl ?_
          refine g_icmp_gt C dX3_shareUpTo_28 (tgt := 34) (by decide) (fun c28 => ?_) (fun c28 => ?_)
          · have hw := hw.1 c28
            obtain ⟨x3_6, ex3_6⟩ : ∃ y : Int32, y = x3_2 + 1 := ⟨_, rfl⟩
            have hw := hw x3_6 ex3_6
            refine g_iinc C (j := 0) dX3_shareUpTo_34 3 rfl (v := x3_6) (by rw [ex3_6]; rfl) (Nat.le_of_ble_eq_true rfl) (loc' := [(3, .int x3_6), (0, gR E o), (1, .int p1), (2, .int x2_1)]) rfl ?_
            refine g_goto C dX3_shareUpTo_37 (tgt := 13) (by decide) ?_
            refine g_sub [1, 2, 3, 0] rfl ?_
            exact ih13 _ _ hw
          · have hw := hw.2 c28
            obtain ⟨x2_7, ex2_7⟩ : ∃ y : Int32, y = x2_1 + 1 := ⟨_, rfl⟩
            have hw := hw x2_7 ex2_7
            refine g_iinc C (j := 0) dX3_shareUpTo_31 2 rfl (v := x2_7) (by rw [ex2_7]; rfl) (Nat.le_of_ble_eq_true rfl) (loc' := [(2, .int x2_7), (0, gR E o), (1, .int p1), (3, .int x3_2)]) rfl ?_
            obtain ⟨x3_8, ex3_8⟩ : ∃ y : Int32, y = x3_2 + 1 := ⟨_, rfl⟩
            have hw := hw x3_8 ex3_8
            refine g_iinc C (j := 0) dX3_shareUpTo_34 3 rfl (v := x3_8) (by rw [ex3_8]; rfl) (Nat.le_of_ble_eq_true rfl) (loc' := [(3, .int x3_8), (2, .int x2_7), (0, gR E o), (1, .int p1)]) rfl ?_
            refine g_goto C dX3_shareUpTo_37 (tgt := 13) (by decide) ?_
            refine g_sub [2, 3, 1, 0] rfl ?_
            exact ih13 _ _ hw
    refine g_sub [2, 3, 1, 0] rfl ?_
    exact hL13 m13 _ _ hw
  · have hw := hw.2 c4
    refine g_fconst C dX3_shareUpTo_7 ?_
    exact g_fret C dX3_shareUpTo_8 (Nat.le_of_ble_eq_true rfl) (Nat.le_of_ble_eq_true rfl) ⟨_, rfl, rfl, hw⟩
theorem gc_X3_shareUpTo : ∀ rm : Room, rmX3_shareUpTo.frames + 1 ≤ rm.frames → 8 + (4 + 11) + rmX3_shareUpTo.locals ≤ rm.locals → gCall yX3_shareUpTo 4 1 rmX3_shareUpTo rm := fun rm a b => ⟨Or.inl ⟨_, _, tw850⟩, tw4, ⟨by decide, by decide⟩, by decide, a, b⟩
abbrev rmJ9_floorDiv_f86c9 : Room := { frames := 0, cells := 0, slots := 0, locals := 0 }
def wp_J9_floorDiv_f86c9 (p1 : Int64) (p2 : Int64) (M : MEM) (Q : Int64 → Prop) : Prop := ¬ p2 = 0 ∧ (∀ x4_2 : Int64, x4_2 = p1 / p2 → ((0 ≤ (p1 ^^^ p2) → (Q x4_2)) ∧ (¬ 0 ≤ (p1 ^^^ p2) → (((x4_2 * p2) = p1 → (Q x4_2)) ∧ (¬ (x4_2 * p2) = p1 → (Q (x4_2 - 1)))))))
set_option maxRecDepth 100000 in
set_option maxHeartbeats 4000000 in
theorem met_J9_floorDiv_f86c9 {l : Launch} (hl : l.stackTraces = false) {E : MK} {p1 : Int64} {p2 : Int64} {M : MEM} {Q : Int64 → Prop} (hw : wp_J9_floorDiv_f86c9 p1 p2 M Q) : gMet l E yJ9_floorDiv_f86c9 rmJ9_floorDiv_f86c9 [.long p1, .long p2] M (qLp M Q) gNo := by
  refine g_met hl (cc := cJ9_floorDiv_f86c9) (maxL := 6) (ret := (some .long)) (hh := []) (loc := [(0, .long p1), (2, .long p2)]) (by decide +kernel) (Or.inl ⟨tw783, rfl⟩) (Nat.le_of_ble_eq_true rfl) rfl (fun K hK C => ?_)
  have C : GC K E cJ9_floorDiv_f86c9 RJ9 6 (some .long) [] rmJ9_floorDiv_f86c9 := C
  refine g_lload_n C dJ9_floorDiv_f86c9_0 0 rfl rfl ?_
  refine g_lload_n C dJ9_floorDiv_f86c9_1 1 rfl rfl ?_
  obtain ⟨hz_1, hw⟩ := hw
  refine g_ldiv C dJ9_floorDiv_f86c9_2 hz_1 ?_
  refine g_nmL (fun x4_2 ex4_2 => ?_)
  have hw := hw x4_2 ex4_2
  refine g_lstore C dJ9_floorDiv_f86c9_3 (Nat.le_of_ble_eq_true rfl) (loc' := [(4, .long x4_2), (0, .long p1), (2, .long p2)]) rfl ?_
  refine g_lload_n C dJ9_floorDiv_f86c9_5 1 rfl rfl ?_
  refine g_lload_n C dJ9_floorDiv_f86c9_6 2 rfl rfl ?_
  refine g_lxor C dJ9_floorDiv_f86c9_7 ?_
  refine g_lconst C dJ9_floorDiv_f86c9_8 (v := 0) rfl ?_
  refine g_lc_ge C dJ9_floorDiv_f86c9_9 dJ9_floorDiv_f86c9_10 (tgt := 27) (by decide) (fun c10 => ?_) (fun c10 => ?_)
  · have hw := hw.1 c10
    refine g_lload C (j := 0) dJ9_floorDiv_f86c9_27 0 rfl ?_
    exact g_lret C dJ9_floorDiv_f86c9_29 (Nat.le_of_ble_eq_true rfl) (Nat.le_of_ble_eq_true rfl) ⟨_, rfl, rfl, hw⟩
  · have hw := hw.2 c10
    refine g_lload C (j := 0) dJ9_floorDiv_f86c9_13 0 rfl ?_
    refine g_lload_n C dJ9_floorDiv_f86c9_15 2 rfl rfl ?_
    refine g_lmul C dJ9_floorDiv_f86c9_16 ?_
    refine g_lload_n C dJ9_floorDiv_f86c9_17 1 rfl rfl ?_
    refine g_lc_eq C dJ9_floorDiv_f86c9_18 dJ9_floorDiv_f86c9_19 (tgt := 27) (by decide) (fun c19 => ?_) (fun c19 => ?_)
    · have hw := hw.1 c19
      refine g_lload C (j := 0) dJ9_floorDiv_f86c9_27 0 rfl ?_
      exact g_lret C dJ9_floorDiv_f86c9_29 (Nat.le_of_ble_eq_true rfl) (Nat.le_of_ble_eq_true rfl) ⟨_, rfl, rfl, hw⟩
    · have hw := hw.2 c19
      refine g_lload C (j := 0) dJ9_floorDiv_f86c9_22 0 rfl ?_
      refine g_lconst C dJ9_floorDiv_f86c9_24 (v := 1) rfl ?_
      refine g_lsub C dJ9_floorDiv_f86c9_25 ?_
      exact g_lret C dJ9_floorDiv_f86c9_26 (Nat.le_of_ble_eq_true rfl) (Nat.le_of_ble_eq_true rfl) ⟨_, rfl, rfl, hw⟩
theorem gc_J9_floorDiv_f86c9 : ∀ rm : Room, rmJ9_floorDiv_f86c9.frames + 1 ≤ rm.frames → 8 + (6 + 11) + rmJ9_floorDiv_f86c9.locals ≤ rm.locals → gCall yJ9_floorDiv_f86c9 6 2 rmJ9_floorDiv_f86c9 rm := fun rm a b => ⟨Or.inl ⟨_, _, tw783⟩, tw6, ⟨by decide, by decide⟩, by decide, a, b⟩
abbrev rmX5_rounded : Room := { frames := 1, cells := 0, slots := 0, locals := 25 }
def wp_X5_rounded (p1 : Int64) (p2 : Int64) (M : MEM) (Q : Int64 → Prop) : Prop := (0 < p2 → (wp_J9_floorDiv_f86c9 ((2 * p1) + p2) (2 * p2) M (fun r_1 => Q r_1))) ∧ (¬ 0 < p2 → (Q 0))
set_option maxRecDepth 100000 in
set_option maxHeartbeats 4000000 in
theorem met_X5_rounded {l : Launch} (hl : l.stackTraces = false) {E : MK} {p1 : Int64} {p2 : Int64} {M : MEM} {Q : Int64 → Prop} (hw : wp_X5_rounded p1 p2 M Q) : gMet l E yX5_rounded rmX5_rounded [.long p1, .long p2] M (qLp M Q) gNo := by
  refine g_met hl (cc := cX5_rounded) (maxL := 4) (ret := (some .long)) (hh := []) (loc := [(0, .long p1), (2, .long p2)]) (by decide +kernel) (Or.inl ⟨tw779, rfl⟩) (Nat.le_of_ble_eq_true rfl) rfl (fun K hK C => ?_)
  have C : GC K E cX5_rounded RX5 4 (some .long) [] rmX5_rounded := C
  refine g_lload_n C dX5_rounded_0 1 rfl rfl ?_
  refine g_lconst C dX5_rounded_1 (v := 0) rfl ?_
  refine g_lc_gt C dX5_rounded_2 dX5_rounded_3 (tgt := 8) (by decide) (fun c3 => ?_) (fun c3 => ?_)
  · have hw := hw.1 c3
    refine g_ldc2 C dX5_rounded_8 tw780 ?_
    refine g_lload_n C dX5_rounded_11 0 rfl rfl ?_
    refine g_lmul C dX5_rounded_12 ?_
    refine g_lload_n C dX5_rounded_13 1 rfl rfl ?_
    refine g_ladd C dX5_rounded_14 ?_
    refine g_ldc2 C dX5_rounded_15 tw780 ?_
    refine g_lload_n C dX5_rounded_18 1 rfl rfl ?_
    refine g_lmul C dX5_rounded_19 ?_
    refine g_cS C dX5_rounded_20 (met_J9_floorDiv_f86c9 C.st hw) (gc_J9_floorDiv_f86c9 _ (Nat.le_of_ble_eq_true rfl) (Nat.le_of_ble_eq_true rfl)) (Or.inl tw781) tw782 rfl (Nat.le_of_ble_eq_true rfl) (c2 := 0) (s2 := 0) rfl rfl (Nat.le_of_ble_eq_true rfl) (Nat.le_of_ble_eq_true rfl) rfl (kLp (fun r_1 hw => ?_)) tNo
    exact g_lret C dX5_rounded_23 (Nat.le_of_ble_eq_true rfl) (Nat.le_of_ble_eq_true rfl) ⟨_, rfl, rfl, hw⟩
  · have hw := hw.2 c3
    refine g_lconst C dX5_rounded_6 (v := 0) rfl ?_
    exact g_lret C dX5_rounded_7 (Nat.le_of_ble_eq_true rfl) (Nat.le_of_ble_eq_true rfl) ⟨_, rfl, rfl, hw⟩
theorem gc_X5_rounded : ∀ rm : Room, rmX5_rounded.frames + 1 ≤ rm.frames → 8 + (4 + 11) + rmX5_rounded.locals ≤ rm.locals → gCall yX5_rounded 4 2 rmX5_rounded rm := fun rm a b => ⟨Or.inl ⟨_, _, tw779⟩, tw1, ⟨by decide, by decide⟩, by decide, a, b⟩
abbrev rmX3_estimatedCount : Room := { frames := 2, cells := 0, slots := 0, locals := 48 }
def wp_X3_estimatedCount (o : Nat) (M : MEM) (Q : Int64 → Prop) : Prop := KD o = (13, 0) ∧ (KD (mO M o) = (14, 0) ∧ (((mI M (mO M o) 1) = 3 → (wp_X3_isComplete o M (fun r_2 => (r_2 = 0 → (wp_X3_candidateAt o (mI M o 2) M (fun r_4 => wp_X3_mixAt o r_4 M (fun r_6 => wp_X5_rounded (((mI M o 2 : Int32).toInt64) * 2147483648) r_6 M (fun r_8 => Q r_8))))) ∧ (¬ r_2 = 0 → (Q ((mI M o 2 : Int32).toInt64)))))) ∧ (¬ (mI M (mO M o) 1) = 3 → (wp_X4_count (mO M o) M (fun r_10 => Q r_10.toInt64)))))
set_option maxRecDepth 100000 in
set_option maxHeartbeats 4000000 in
theorem met_X3_estimatedCount {l : Launch} (hl : l.stackTraces = false) {E : MK} {o : Nat} {M : MEM} {Q : Int64 → Prop} (hw : wp_X3_estimatedCount o M Q) : gMet l E yX3_estimatedCount rmX3_estimatedCount [gR E o] M (qLp M Q) gNo := by
  obtain ⟨hk0, hw⟩ := hw
  refine g_met hl (cc := cX3_estimatedCount) (maxL := 1) (ret := (some .long)) (hh := []) (loc := [(0, gR E o)]) (by decide +kernel) (Or.inl ⟨tw795, rfl⟩) (Nat.le_of_ble_eq_true rfl) rfl (fun K hK C => ?_)
  have C : GC K E cX3_estimatedCount RX3 1 (some .long) [] rmX3_estimatedCount := C
  refine g_aload_n C dX3_estimatedCount_0 0 rfl rfl ?_
  refine gf_RX3_12 C hk0 dX3_estimatedCount_1 ?_
  obtain ⟨hk_1, hw⟩ := hw
  refine gf_RX3_59 C hk_1 dX3_estimatedCount_4 ?_
  refine g_iconst C dX3_estimatedCount_7 (v := 3) rfl ?_
  refine g_icmp_eq C dX3_estimatedCount_8 (tgt := 20) (by decide) (fun c8 => ?_) (fun c8 => ?_)
  · have hw := hw.1 c8
    refine g_aload_n C dX3_estimatedCount_20 0 rfl rfl ?_
    refine g_cV C dX3_estimatedCount_21 (met_X3_isComplete C.st hw) (gc_X3_isComplete _ (Nat.le_of_ble_eq_true rfl) (Nat.le_of_ble_eq_true rfl)) tw776 tw527 tw528 (ci := 3) rfl (by decide) hk0 rfl (Nat.le_of_ble_eq_true rfl) (c2 := 0) (s2 := 0) rfl rfl (Nat.le_of_ble_eq_true rfl) (Nat.le_of_ble_eq_true rfl) rfl (kIp (fun r_2 hw => ?_)) tNo
    refine g_if_eq C dX3_estimatedCount_24 (tgt := 35) (by decide) (fun c24 => ?_) (fun c24 => ?_)
    · have hw := hw.1 c24
      refine g_aload_n C dX3_estimatedCount_35 0 rfl rfl ?_
      refine gf_RX3_38 C hk0 dX3_estimatedCount_36 ?_
      refine g_i2l C dX3_estimatedCount_39 ?_
      refine g_ldc2 C dX3_estimatedCount_40 tw770 ?_
      refine g_lmul C dX3_estimatedCount_43 ?_
      refine g_aload_n C dX3_estimatedCount_44 0 rfl rfl ?_
      refine g_aload_n C dX3_estimatedCount_45 0 rfl rfl ?_
      refine g_aload_n C dX3_estimatedCount_46 0 rfl rfl ?_
      refine gf_RX3_38 C hk0 dX3_estimatedCount_47 ?_
      refine g_cV C dX3_estimatedCount_50 (met_X3_candidateAt C.st hw) (gc_X3_candidateAt _ (Nat.le_of_ble_eq_true rfl) (Nat.le_of_ble_eq_true rfl)) tw506 tw508 twp11 (ci := 3) rfl (by decide) hk0 rfl (Nat.le_of_ble_eq_true rfl) (c2 := 0) (s2 := 0) rfl rfl (Nat.le_of_ble_eq_true rfl) (Nat.le_of_ble_eq_true rfl) rfl (kIp (fun r_4 hw => ?_)) tNo
      refine g_cV C dX3_estimatedCount_53 (met_X3_mixAt C.st hw) (gc_X3_mixAt _ (Nat.le_of_ble_eq_true rfl) (Nat.le_of_ble_eq_true rfl)) tw498 tw500 twp9 (ci := 3) rfl (by decide) hk0 rfl (Nat.le_of_ble_eq_true rfl) (c2 := 0) (s2 := 0) rfl rfl (Nat.le_of_ble_eq_true rfl) (Nat.le_of_ble_eq_true rfl) rfl (kLp (fun r_6 hw => ?_)) tNo
      refine g_cS C dX3_estimatedCount_56 (met_X5_rounded C.st hw) (gc_X5_rounded _ (Nat.le_of_ble_eq_true rfl) (Nat.le_of_ble_eq_true rfl)) (Or.inr ⟨_, List.mem_of_getElem? (i := 7) rfl⟩) tw778 rfl (Nat.le_of_ble_eq_true rfl) (c2 := 0) (s2 := 0) rfl rfl (Nat.le_of_ble_eq_true rfl) (Nat.le_of_ble_eq_true rfl) rfl (kLp (fun r_8 hw => ?_)) tNo
      exact g_lret C dX3_estimatedCount_59 (Nat.le_of_ble_eq_true rfl) (Nat.le_of_ble_eq_true rfl) ⟨_, rfl, rfl, hw⟩
    · have hw := hw.2 c24
      refine g_aload_n C dX3_estimatedCount_27 0 rfl rfl ?_
      refine gf_RX3_38 C hk0 dX3_estimatedCount_28 ?_
      refine g_i2l C dX3_estimatedCount_31 ?_
      refine g_goto C dX3_estimatedCount_32 (tgt := 59) (by decide) ?_
      exact g_lret C dX3_estimatedCount_59 (Nat.le_of_ble_eq_true rfl) (Nat.le_of_ble_eq_true rfl) ⟨_, rfl, rfl, hw⟩
  · have hw := hw.2 c8
    refine g_aload_n C dX3_estimatedCount_11 0 rfl rfl ?_
    refine gf_RX3_12 C hk0 dX3_estimatedCount_12 ?_
    refine g_cV C dX3_estimatedCount_15 (met_X4_count C.st hw) (gc_X4_count _ (Nat.le_of_ble_eq_true rfl) (Nat.le_of_ble_eq_true rfl)) tw468 tw361 tw362 (ci := 4) rfl (by decide) hk_1 rfl (Nat.le_of_ble_eq_true rfl) (c2 := 0) (s2 := 0) rfl rfl (Nat.le_of_ble_eq_true rfl) (Nat.le_of_ble_eq_true rfl) rfl (kIp (fun r_10 hw => ?_)) tNo
    refine g_i2l C dX3_estimatedCount_18 ?_
    exact g_lret C dX3_estimatedCount_19 (Nat.le_of_ble_eq_true rfl) (Nat.le_of_ble_eq_true rfl) ⟨_, rfl, rfl, hw⟩
theorem gc_X3_estimatedCount : ∀ rm : Room, rmX3_estimatedCount.frames + 1 ≤ rm.frames → 8 + (1 + 11) + rmX3_estimatedCount.locals ≤ rm.locals → gCall yX3_estimatedCount 1 0 rmX3_estimatedCount rm := fun rm a b => ⟨Or.inl ⟨_, _, tw795⟩, tw4, ⟨by decide, by decide⟩, by decide, a, b⟩
abbrev rmX3_totalled : Room := { frames := 2, cells := 0, slots := 0, locals := 44 }
def wp_X3_totalled (o : Nat) (p1 : Int32) (p2 : Int32) (p3 : Int32) (p4 : Int32) (M : MEM) (Q : Int64 → Prop) : Prop := KD o = (13, 0) ∧ (wp_X3_partAt o p1 1 M (fun r_1 => wp_X5_isWithin r_1.toInt64 p3.toInt64 p4.toInt64 M (fun r_3 => (r_3 = 0 → (Q 0)) ∧ (¬ r_3 = 0 → (wp_X3_partAt o p1 p2 M (fun r_5 => Q r_5.toInt64))))))
set_option maxRecDepth 100000 in
set_option maxHeartbeats 4000000 in
theorem met_X3_totalled {l : Launch} (hl : l.stackTraces = false) {E : MK} {o : Nat} {p1 : Int32} {p2 : Int32} {p3 : Int32} {p4 : Int32} {M : MEM} {Q : Int64 → Prop} (hw : wp_X3_totalled o p1 p2 p3 p4 M Q) : gMet l E yX3_totalled rmX3_totalled [gR E o, .int p1, .int p2, .int p3, .int p4] M (qLp M Q) gNo := by
  obtain ⟨hk0, hw⟩ := hw
  refine g_met hl (cc := cX3_totalled) (maxL := 5) (ret := (some .long)) (hh := []) (loc := [(0, gR E o), (1, .int p1), (2, .int p2), (3, .int p3), (4, .int p4)]) (by decide +kernel) (Or.inl ⟨tw774, rfl⟩) (Nat.le_of_ble_eq_true rfl) rfl (fun K hK C => ?_)
  have C : GC K E cX3_totalled RX3 5 (some .long) [] rmX3_totalled := C
  refine g_aload_n C dX3_totalled_0 0 rfl rfl ?_
  refine g_iload_n C dX3_totalled_1 1 rfl rfl ?_
  refine g_iconst C dX3_totalled_2 (v := 1) rfl ?_
  refine g_cV C dX3_totalled_3 (met_X3_partAt C.st hw) (gc_X3_partAt _ (Nat.le_of_ble_eq_true rfl) (Nat.le_of_ble_eq_true rfl)) tw719 tw669 tw670 (ci := 3) rfl (by decide) hk0 rfl (Nat.le_of_ble_eq_true rfl) (c2 := 0) (s2 := 0) rfl rfl (Nat.le_of_ble_eq_true rfl) (Nat.le_of_ble_eq_true rfl) rfl (kIp (fun r_1 hw => ?_)) tNo
  refine g_i2l C dX3_totalled_6 ?_
  refine g_iload_n C dX3_totalled_7 3 rfl rfl ?_
  refine g_i2l C dX3_totalled_8 ?_
  refine g_iload C (j := 0) dX3_totalled_9 4 rfl ?_
  refine g_i2l C dX3_totalled_11 ?_
  refine g_cS C dX3_totalled_12 (met_X5_isWithin C.st hw) (gc_X5_isWithin _ (Nat.le_of_ble_eq_true rfl) (Nat.le_of_ble_eq_true rfl)) (Or.inr ⟨_, List.mem_of_getElem? (i := 6) rfl⟩) tw337 rfl (Nat.le_of_ble_eq_true rfl) (c2 := 0) (s2 := 0) rfl rfl (Nat.le_of_ble_eq_true rfl) (Nat.le_of_ble_eq_true rfl) rfl (kIp (fun r_3 hw => ?_)) tNo
  refine g_if_eq C dX3_totalled_15 (tgt := 28) (by decide) (fun c15 => ?_) (fun c15 => ?_)
  · have hw := hw.1 c15
    refine g_lconst C dX3_totalled_28 (v := 0) rfl ?_
    exact g_lret C dX3_totalled_29 (Nat.le_of_ble_eq_true rfl) (Nat.le_of_ble_eq_true rfl) ⟨_, rfl, rfl, hw⟩
  · have hw := hw.2 c15
    refine g_aload_n C dX3_totalled_18 0 rfl rfl ?_
    refine g_iload_n C dX3_totalled_19 1 rfl rfl ?_
    refine g_iload_n C dX3_totalled_20 2 rfl rfl ?_
    refine g_cV C dX3_totalled_21 (met_X3_partAt C.st hw) (gc_X3_partAt _ (Nat.le_of_ble_eq_true rfl) (Nat.le_of_ble_eq_true rfl)) tw719 tw669 tw670 (ci := 3) rfl (by decide) hk0 rfl (Nat.le_of_ble_eq_true rfl) (c2 := 0) (s2 := 0) rfl rfl (Nat.le_of_ble_eq_true rfl) (Nat.le_of_ble_eq_true rfl) rfl (kIp (fun r_5 hw => ?_)) tNo
    refine g_i2l C dX3_totalled_24 ?_
    refine g_goto C dX3_totalled_25 (tgt := 29) (by decide) ?_
    exact g_lret C dX3_totalled_29 (Nat.le_of_ble_eq_true rfl) (Nat.le_of_ble_eq_true rfl) ⟨_, rfl, rfl, hw⟩
theorem gc_X3_totalled : ∀ rm : Room, rmX3_totalled.frames + 1 ≤ rm.frames → 8 + (5 + 11) + rmX3_totalled.locals ≤ rm.locals → gCall yX3_totalled 5 4 rmX3_totalled rm := fun rm a b => ⟨Or.inl ⟨_, _, tw774⟩, tw4, ⟨by decide, by decide⟩, by decide, a, b⟩
abbrev rmX4_countOfStratum : Room := { frames := 1, cells := 0, slots := 0, locals := 22 }
def wp_X4_countOfStratum_L4 (o : Nat) (p1 : Int32) (M : MEM) (Q : Int32 → Prop) : Nat → Int32 → Int32 → Prop
  | 0, _, _ => False
  | n4 + 1, x2_1, x3_2 => ((mI M o 5) ≤ x3_2 → (Q x2_1)) ∧ (¬ (mI M o 5) ≤ x3_2 → (wp_X4_partAt o x3_2 2 M (fun r_3 => (¬ r_3 = p1 → (∀ x3_5 : Int32, x3_5 = x3_2 + 1 → ((wp_X4_countOfStratum_L4 o p1 M Q n4) x2_1 x3_5))) ∧ (r_3 = p1 → (∀ x2_6 : Int32, x2_6 = x2_1 + 1 → (∀ x3_7 : Int32, x3_7 = x3_2 + 1 → ((wp_X4_countOfStratum_L4 o p1 M Q n4) x2_6 x3_7)))))))
def wp_X4_countOfStratum (o : Nat) (p1 : Int32) (M : MEM) (Q : Int32 → Prop) : Prop := KD o = (14, 0) ∧ (∃ m4 : Nat, wp_X4_countOfStratum_L4 o p1 M Q m4 0 0)
set_option maxRecDepth 100000 in
set_option maxHeartbeats 4000000 in
theorem met_X4_countOfStratum {l : Launch} (hl : l.stackTraces = false) {E : MK} {o : Nat} {p1 : Int32} {M : MEM} {Q : Int32 → Prop} (hw : wp_X4_countOfStratum o p1 M Q) : gMet l E yX4_countOfStratum rmX4_countOfStratum [gR E o, .int p1] M (qIp M Q) gNo := by
  obtain ⟨hk0, hw⟩ := hw
  refine g_met hl (cc := cX4_countOfStratum) (maxL := 4) (ret := (some .int)) (hh := []) (loc := [(0, gR E o), (1, .int p1)]) (by decide +kernel) (Or.inl ⟨tw791, rfl⟩) (Nat.le_of_ble_eq_true rfl) rfl (fun K hK C => ?_)
  have C : GC K E cX4_countOfStratum RX4 4 (some .int) [] rmX4_countOfStratum := C
  refine g_iconst C dX4_countOfStratum_0 (v := 0) rfl ?_
  refine g_istore_n C dX4_countOfStratum_1 rfl (Nat.le_of_ble_eq_true rfl) (loc' := [(2, .int 0), (0, gR E o), (1, .int p1)]) rfl ?_
  refine g_iconst C dX4_countOfStratum_2 (v := 0) rfl ?_
  refine g_istore_n C dX4_countOfStratum_3 rfl (Nat.le_of_ble_eq_true rfl) (loc' := [(3, .int 0), (2, .int 0), (0, gR E o), (1, .int p1)]) rfl ?_
  obtain ⟨m4, hw⟩ := hw
  have hL4 : ∀ (n4 : Nat) (x2_1 : Int32) (x3_2 : Int32), wp_X4_countOfStratum_L4 o p1 M Q n4 x2_1 x3_2 → GX K E 4 M [(0, gR E o), (1, .int p1), (2, .int x2_1), (3, .int x3_2)] [] 4 0 0 (gEnd K E (qIp M Q) gNo rmX4_countOfStratum.cells rmX4_countOfStratum.slots) := by
    intro n4
    induction n4 with
    | zero => intro _ _ hw; exact False.elim hw
    | succ n4 ih4 =>
      intro x2_1 x3_2 hw
      refine g_iload_n C dX4_countOfStratum_4 3 rfl rfl ?_
      refine g_aload_n C dX4_countOfStratum_5 0 rfl rfl ?_
      refine gf_RX4_22 C hk0 dX4_countOfStratum_6 ?_
      refine g_icmp_ge C dX4_countOfStratum_9 (tgt := 31) (by decide) (fun c9 => ?_) (fun c9 => ?_)
      · have hw := hw.1 c9
        refine g_iload_n C dX4_countOfStratum_31 2 rfl rfl ?_
        exact g_iret C dX4_countOfStratum_32 (Nat.le_of_ble_eq_true rfl) (Nat.le_of_ble_eq_true rfl) ⟨_, rfl, rfl, hw⟩
      · have hw := hw.2 c9
        refine g_aload_n C dX4_countOfStratum_12 0 rfl rfl ?_
        refine g_iload_n C dX4_countOfStratum_13 3 rfl rfl ?_
        refine g_iconst C dX4_countOfStratum_14 (v := 2) rfl ?_
        refine g_cV C dX4_countOfStratum_15 (met_X4_partAt C.st hw) (gc_X4_partAt _ (Nat.le_of_ble_eq_true rfl) (Nat.le_of_ble_eq_true rfl)) tw474 tw475 tw476 (ci := 4) rfl (by decide) hk0 rfl (Nat.le_of_ble_eq_true rfl) (c2 := 0) (s2 := 0) rfl rfl (Nat.le_of_ble_eq_true rfl) (Nat.le_of_ble_eq_true rfl) rfl (kIp (fun r_3 hw => ?_)) tNo
        refine g_iload_n C dX4_countOfStratum_18 1 rfl rfl ?_
        refine g_icmp_ne C dX4_countOfStratum_19 (tgt := 25) (by decide) (fun c19 => ?_) (fun c19 => ?_)
        · have hw := hw.1 c19
          obtain ⟨x3_5, ex3_5⟩ : ∃ y : Int32, y = x3_2 + 1 := ⟨_, rfl⟩
          have hw := hw x3_5 ex3_5
          refine g_iinc C (j := 0) dX4_countOfStratum_25 3 rfl (v := x3_5) (by rw [ex3_5]; rfl) (Nat.le_of_ble_eq_true rfl) (loc' := [(3, .int x3_5), (0, gR E o), (1, .int p1), (2, .int x2_1)]) rfl ?_
          refine g_goto C dX4_countOfStratum_28 (tgt := 4) (by decide) ?_
          refine g_sub [1, 2, 3, 0] rfl ?_
          exact ih4 _ _ hw
        · have hw := hw.2 c19
          obtain ⟨x2_6, ex2_6⟩ : ∃ y : Int32, y = x2_1 + 1 := ⟨_, rfl⟩
          have hw := hw x2_6 ex2_6
          refine g_iinc C (j := 0) dX4_countOfStratum_22 2 rfl (v := x2_6) (by rw [ex2_6]; rfl) (Nat.le_of_ble_eq_true rfl) (loc' := [(2, .int x2_6), (0, gR E o), (1, .int p1), (3, .int x3_2)]) rfl ?_
          obtain ⟨x3_7, ex3_7⟩ : ∃ y : Int32, y = x3_2 + 1 := ⟨_, rfl⟩
          have hw := hw x3_7 ex3_7
          refine g_iinc C (j := 0) dX4_countOfStratum_25 3 rfl (v := x3_7) (by rw [ex3_7]; rfl) (Nat.le_of_ble_eq_true rfl) (loc' := [(3, .int x3_7), (2, .int x2_6), (0, gR E o), (1, .int p1)]) rfl ?_
          refine g_goto C dX4_countOfStratum_28 (tgt := 4) (by decide) ?_
          refine g_sub [2, 3, 1, 0] rfl ?_
          exact ih4 _ _ hw
  refine g_sub [2, 3, 1, 0] rfl ?_
  exact hL4 m4 _ _ hw
theorem gc_X4_countOfStratum : ∀ rm : Room, rmX4_countOfStratum.frames + 1 ≤ rm.frames → 8 + (4 + 11) + rmX4_countOfStratum.locals ≤ rm.locals → gCall yX4_countOfStratum 4 1 rmX4_countOfStratum rm := fun rm a b => ⟨Or.inl ⟨_, _, tw791⟩, tw2, ⟨by decide, by decide⟩, by decide, a, b⟩
abbrev rmX3_stratifiedTotal : Room := { frames := 3, cells := 0, slots := 0, locals := 68 }
def wp_X3_stratifiedTotal_L21 (o : Nat) (p1 : Int32) (p2 : Int32) (p3 : Int32) (M : MEM) (K6 : Int64 → Int32 → Prop) (x4_1 : Int64) (x6_2 : Int32) : Nat → Int64 → Int32 → Int32 → Prop
  | 0, _, _, _ => False
  | n21 + 1, x7_3, x9_4, x10_5 => ((mI M o 2) ≤ x10_5 → (KD (mO M o) = (14, 0) ∧ wp_X4_countOfStratum (mO M o) x6_2 M (fun r_6 => wp_X5_rounded (x7_3 * r_6.toInt64) x9_4.toInt64 M (fun r_9 => ∀ x4_11 : Int64, x4_11 = x4_1 + r_9 → (∀ x6_12 : Int32, x6_12 = x6_2 + 1 → (K6 x4_11 x6_12)))))) ∧ (¬ (mI M o 2) ≤ x10_5 → (wp_X3_partAt o x10_5 2 M (fun r_13 => (¬ r_13 = x6_2 → (∀ x10_15 : Int32, x10_15 = x10_5 + 1 → ((wp_X3_stratifiedTotal_L21 o p1 p2 p3 M K6 x4_1 x6_2 n21) x7_3 x9_4 x10_15))) ∧ (r_13 = x6_2 → (wp_X3_totalled o x10_5 p1 p2 p3 M (fun r_16 => ∀ x7_18 : Int64, x7_18 = x7_3 + r_16 → (∀ x9_19 : Int32, x9_19 = x9_4 + 1 → (∀ x10_20 : Int32, x10_20 = x10_5 + 1 → ((wp_X3_stratifiedTotal_L21 o p1 p2 p3 M K6 x4_1 x6_2 n21) x7_18 x9_19 x10_20)))))))))
def wp_X3_stratifiedTotal_L6 (o : Nat) (p1 : Int32) (p2 : Int32) (p3 : Int32) (M : MEM) (Q : Int64 → Prop) : Nat → Int64 → Int32 → Prop
  | 0, _, _ => False
  | n6 + 1, x4_1, x6_2 => (4 ≤ x6_2 → (Q x4_1)) ∧ (¬ 4 ≤ x6_2 → (∃ m21 : Nat, wp_X3_stratifiedTotal_L21 o p1 p2 p3 M (wp_X3_stratifiedTotal_L6 o p1 p2 p3 M Q n6) x4_1 x6_2 m21 0 0 0))
def wp_X3_stratifiedTotal (o : Nat) (p1 : Int32) (p2 : Int32) (p3 : Int32) (M : MEM) (Q : Int64 → Prop) : Prop := KD o = (13, 0) ∧ (∃ m6 : Nat, wp_X3_stratifiedTotal_L6 o p1 p2 p3 M Q m6 0 0)
set_option maxRecDepth 100000 in
set_option maxHeartbeats 4000000 in
theorem met_X3_stratifiedTotal {l : Launch} (hl : l.stackTraces = false) {E : MK} {o : Nat} {p1 : Int32} {p2 : Int32} {p3 : Int32} {M : MEM} {Q : Int64 → Prop} (hw : wp_X3_stratifiedTotal o p1 p2 p3 M Q) : gMet l E yX3_stratifiedTotal rmX3_stratifiedTotal [gR E o, .int p1, .int p2, .int p3] M (qLp M Q) gNo := by
  obtain ⟨hk0, hw⟩ := hw
  refine g_met hl (cc := cX3_stratifiedTotal) (maxL := 11) (ret := (some .long)) (hh := []) (loc := [(0, gR E o), (1, .int p1), (2, .int p2), (3, .int p3)]) (by decide +kernel) (Or.inl ⟨tw787, rfl⟩) (Nat.le_of_ble_eq_true rfl) rfl (fun K hK C => ?_)
  have C : GC K E cX3_stratifiedTotal RX3 11 (some .long) [] rmX3_stratifiedTotal := C
  refine g_lconst C dX3_stratifiedTotal_0 (v := 0) rfl ?_
  refine g_lstore C dX3_stratifiedTotal_1 (Nat.le_of_ble_eq_true rfl) (loc' := [(4, .long 0), (0, gR E o), (1, .int p1), (2, .int p2), (3, .int p3)]) rfl ?_
  refine g_iconst C dX3_stratifiedTotal_3 (v := 0) rfl ?_
  refine g_istore C dX3_stratifiedTotal_4 (Nat.le_of_ble_eq_true rfl) (loc' := [(6, .int 0), (4, .long 0), (0, gR E o), (1, .int p1), (2, .int p2), (3, .int p3)]) rfl ?_
  obtain ⟨m6, hw⟩ := hw
  have hL6 : ∀ (n6 : Nat) (x4_1 : Int64) (x6_2 : Int32), wp_X3_stratifiedTotal_L6 o p1 p2 p3 M Q n6 x4_1 x6_2 → GX K E 11 M [(0, gR E o), (1, .int p1), (2, .int p2), (3, .int p3), (4, .long x4_1), (6, .int x6_2)] [] 6 0 0 (gEnd K E (qLp M Q) gNo rmX3_stratifiedTotal.cells rmX3_stratifiedTotal.slots) := by
    intro n6
    induction n6 with
    | zero => intro _ _ hw; exact False.elim hw
    | succ n6 ih6 =>
      intro x4_1 x6_2 hw
      refine g_iload C (j := 0) dX3_stratifiedTotal_6 5 rfl ?_
      refine g_iconst C dX3_stratifiedTotal_8 (v := 4) rfl ?_
      refine g_icmp_ge C dX3_stratifiedTotal_9 (tgt := 95) (by decide) (fun c9 => ?_) (fun c9 => ?_)
      · have hw := hw.1 c9
        refine g_lload C (j := 0) dX3_stratifiedTotal_95 4 rfl ?_
        exact g_lret C dX3_stratifiedTotal_97 (Nat.le_of_ble_eq_true rfl) (Nat.le_of_ble_eq_true rfl) ⟨_, rfl, rfl, hw⟩
      · have hw := hw.2 c9
        refine g_lconst C dX3_stratifiedTotal_12 (v := 0) rfl ?_
        refine g_lstore C dX3_stratifiedTotal_13 (Nat.le_of_ble_eq_true rfl) (loc' := [(7, .long 0), (0, gR E o), (1, .int p1), (2, .int p2), (3, .int p3), (4, .long x4_1), (6, .int x6_2)]) rfl ?_
        refine g_iconst C dX3_stratifiedTotal_15 (v := 0) rfl ?_
        refine g_istore C dX3_stratifiedTotal_16 (Nat.le_of_ble_eq_true rfl) (loc' := [(9, .int 0), (7, .long 0), (0, gR E o), (1, .int p1), (2, .int p2), (3, .int p3), (4, .long x4_1), (6, .int x6_2)]) rfl ?_
        refine g_iconst C dX3_stratifiedTotal_18 (v := 0) rfl ?_
        refine g_istore C dX3_stratifiedTotal_19 (Nat.le_of_ble_eq_true rfl) (loc' := [(10, .int 0), (9, .int 0), (7, .long 0), (0, gR E o), (1, .int p1), (2, .int p2), (3, .int p3), (4, .long x4_1), (6, .int x6_2)]) rfl ?_
        obtain ⟨m21, hw⟩ := hw
        have hL21 : ∀ (n21 : Nat) (x7_3 : Int64) (x9_4 : Int32) (x10_5 : Int32), wp_X3_stratifiedTotal_L21 o p1 p2 p3 M (wp_X3_stratifiedTotal_L6 o p1 p2 p3 M Q n6) x4_1 x6_2 n21 x7_3 x9_4 x10_5 → GX K E 11 M [(0, gR E o), (1, .int p1), (2, .int p2), (3, .int p3), (4, .long x4_1), (6, .int x6_2), (7, .long x7_3), (9, .int x9_4), (10, .int x10_5)] [] 21 0 0 (gEnd K E (qLp M Q) gNo rmX3_stratifiedTotal.cells rmX3_stratifiedTotal.slots) := by
          intro n21
          induction n21 with
          | zero => intro _ _ _ hw; exact False.elim hw
          | succ n21 ih21 =>
            intro x7_3 x9_4 x10_5 hw
            refine g_iload C (j := 0) dX3_stratifiedTotal_21 8 rfl ?_
            refine g_aload_n C dX3_stratifiedTotal_23 0 rfl rfl ?_
            refine gf_RX3_38 C hk0 dX3_stratifiedTotal_24 ?_
            refine g_icmp_ge C dX3_stratifiedTotal_27 (tgt := 65) (by decide) (fun c27 => ?_) (fun c27 => ?_)
            · have hw := hw.1 c27
              refine g_lload C (j := 0) dX3_stratifiedTotal_65 4 rfl ?_
              refine g_lload C (j := 0) dX3_stratifiedTotal_67 6 rfl ?_
              refine g_aload_n C dX3_stratifiedTotal_69 0 rfl rfl ?_
              refine gf_RX3_12 C hk0 dX3_stratifiedTotal_70 ?_
              refine g_iload C (j := 0) dX3_stratifiedTotal_73 5 rfl ?_
              obtain ⟨hk_8, hw⟩ := hw
              refine g_cV C dX3_stratifiedTotal_75 (met_X4_countOfStratum C.st hw) (gc_X4_countOfStratum _ (Nat.le_of_ble_eq_true rfl) (Nat.le_of_ble_eq_true rfl)) tw788 tw789 tw790 (ci := 4) rfl (by decide) hk_8 rfl (Nat.le_of_ble_eq_true rfl) (c2 := 0) (s2 := 0) rfl rfl (Nat.le_of_ble_eq_true rfl) (Nat.le_of_ble_eq_true rfl) rfl (kIp (fun r_6 hw => ?_)) tNo
              refine g_i2l C dX3_stratifiedTotal_78 ?_
              refine g_lmul C dX3_stratifiedTotal_79 ?_
              refine g_iload C (j := 0) dX3_stratifiedTotal_80 7 rfl ?_
              refine g_i2l C dX3_stratifiedTotal_82 ?_
              refine g_cS C dX3_stratifiedTotal_83 (met_X5_rounded C.st hw) (gc_X5_rounded _ (Nat.le_of_ble_eq_true rfl) (Nat.le_of_ble_eq_true rfl)) (Or.inr ⟨_, List.mem_of_getElem? (i := 7) rfl⟩) tw778 rfl (Nat.le_of_ble_eq_true rfl) (c2 := 0) (s2 := 0) rfl rfl (Nat.le_of_ble_eq_true rfl) (Nat.le_of_ble_eq_true rfl) rfl (kLp (fun r_9 hw => ?_)) tNo
              refine g_ladd C dX3_stratifiedTotal_86 ?_
              refine g_nmL (fun x4_11 ex4_11 => ?_)
              have hw := hw x4_11 ex4_11
              refine g_lstore C dX3_stratifiedTotal_87 (Nat.le_of_ble_eq_true rfl) (loc' := [(4, .long x4_11), (0, gR E o), (1, .int p1), (2, .int p2), (3, .int p3), (6, .int x6_2), (7, .long x7_3), (9, .int x9_4), (10, .int x10_5)]) rfl ?_
              obtain ⟨x6_12, ex6_12⟩ : ∃ y : Int32, y = x6_2 + 1 := ⟨_, rfl⟩
              have hw := hw x6_12 ex6_12
              refine g_iinc C (j := 0) dX3_stratifiedTotal_89 5 rfl (v := x6_12) (by rw [ex6_12]; rfl) (Nat.le_of_ble_eq_true rfl) (loc' := [(6, .int x6_12), (4, .long x4_11), (0, gR E o), (1, .int p1), (2, .int p2), (3, .int p3), (7, .long x7_3), (9, .int x9_4), (10, .int x10_5)]) rfl ?_
              refine g_goto C dX3_stratifiedTotal_92 (tgt := 6) (by decide) ?_
              refine g_sub [2, 3, 4, 5, 1, 0] rfl ?_
              exact ih6 _ _ hw
            · have hw := hw.2 c27
              refine g_aload_n C dX3_stratifiedTotal_30 0 rfl rfl ?_
              refine g_iload C (j := 0) dX3_stratifiedTotal_31 8 rfl ?_
              refine g_iconst C dX3_stratifiedTotal_33 (v := 2) rfl ?_
              refine g_cV C dX3_stratifiedTotal_34 (met_X3_partAt C.st hw) (gc_X3_partAt _ (Nat.le_of_ble_eq_true rfl) (Nat.le_of_ble_eq_true rfl)) tw719 tw669 tw670 (ci := 3) rfl (by decide) hk0 rfl (Nat.le_of_ble_eq_true rfl) (c2 := 0) (s2 := 0) rfl rfl (Nat.le_of_ble_eq_true rfl) (Nat.le_of_ble_eq_true rfl) rfl (kIp (fun r_13 hw => ?_)) tNo
              refine g_iload C (j := 0) dX3_stratifiedTotal_37 5 rfl ?_
              refine g_icmp_ne C dX3_stratifiedTotal_39 (tgt := 59) (by decide) (fun c39 => ?_) (fun c39 => ?_)
              · have hw := hw.1 c39
                obtain ⟨x10_15, ex10_15⟩ : ∃ y : Int32, y = x10_5 + 1 := ⟨_, rfl⟩
                have hw := hw x10_15 ex10_15
                refine g_iinc C (j := 0) dX3_stratifiedTotal_59 8 rfl (v := x10_15) (by rw [ex10_15]; rfl) (Nat.le_of_ble_eq_true rfl) (loc' := [(10, .int x10_15), (0, gR E o), (1, .int p1), (2, .int p2), (3, .int p3), (4, .long x4_1), (6, .int x6_2), (7, .long x7_3), (9, .int x9_4)]) rfl ?_
                refine g_goto C dX3_stratifiedTotal_62 (tgt := 21) (by decide) ?_
                refine g_sub [1, 2, 3, 4, 5, 6, 7, 8, 0] rfl ?_
                exact ih21 _ _ _ hw
              · have hw := hw.2 c39
                refine g_lload C (j := 0) dX3_stratifiedTotal_42 6 rfl ?_
                refine g_aload_n C dX3_stratifiedTotal_44 0 rfl rfl ?_
                refine g_iload C (j := 0) dX3_stratifiedTotal_45 8 rfl ?_
                refine g_iload_n C dX3_stratifiedTotal_47 1 rfl rfl ?_
                refine g_iload_n C dX3_stratifiedTotal_48 2 rfl rfl ?_
                refine g_iload_n C dX3_stratifiedTotal_49 3 rfl rfl ?_
                refine g_cV C dX3_stratifiedTotal_50 (met_X3_totalled C.st hw) (gc_X3_totalled _ (Nat.le_of_ble_eq_true rfl) (Nat.le_of_ble_eq_true rfl)) tw771 tw773 twp20 (ci := 3) rfl (by decide) hk0 rfl (Nat.le_of_ble_eq_true rfl) (c2 := 0) (s2 := 0) rfl rfl (Nat.le_of_ble_eq_true rfl) (Nat.le_of_ble_eq_true rfl) rfl (kLp (fun r_16 hw => ?_)) tNo
                refine g_ladd C dX3_stratifiedTotal_53 ?_
                refine g_nmL (fun x7_18 ex7_18 => ?_)
                have hw := hw x7_18 ex7_18
                refine g_lstore C dX3_stratifiedTotal_54 (Nat.le_of_ble_eq_true rfl) (loc' := [(7, .long x7_18), (0, gR E o), (1, .int p1), (2, .int p2), (3, .int p3), (4, .long x4_1), (6, .int x6_2), (9, .int x9_4), (10, .int x10_5)]) rfl ?_
                obtain ⟨x9_19, ex9_19⟩ : ∃ y : Int32, y = x9_4 + 1 := ⟨_, rfl⟩
                have hw := hw x9_19 ex9_19
                refine g_iinc C (j := 0) dX3_stratifiedTotal_56 7 rfl (v := x9_19) (by rw [ex9_19]; rfl) (Nat.le_of_ble_eq_true rfl) (loc' := [(9, .int x9_19), (7, .long x7_18), (0, gR E o), (1, .int p1), (2, .int p2), (3, .int p3), (4, .long x4_1), (6, .int x6_2), (10, .int x10_5)]) rfl ?_
                obtain ⟨x10_20, ex10_20⟩ : ∃ y : Int32, y = x10_5 + 1 := ⟨_, rfl⟩
                have hw := hw x10_20 ex10_20
                refine g_iinc C (j := 0) dX3_stratifiedTotal_59 8 rfl (v := x10_20) (by rw [ex10_20]; rfl) (Nat.le_of_ble_eq_true rfl) (loc' := [(10, .int x10_20), (9, .int x9_19), (7, .long x7_18), (0, gR E o), (1, .int p1), (2, .int p2), (3, .int p3), (4, .long x4_1), (6, .int x6_2)]) rfl ?_
                refine g_goto C dX3_stratifiedTotal_62 (tgt := 21) (by decide) ?_
                refine g_sub [3, 4, 5, 6, 7, 8, 2, 1, 0] rfl ?_
                exact ih21 _ _ _ hw
        refine g_sub [3, 4, 5, 6, 7, 8, 2, 1, 0] rfl ?_
        exact hL21 m21 _ _ _ hw
  refine g_sub [2, 3, 4, 5, 1, 0] rfl ?_
  exact hL6 m6 _ _ hw
theorem gc_X3_stratifiedTotal : ∀ rm : Room, rmX3_stratifiedTotal.frames + 1 ≤ rm.frames → 8 + (11 + 11) + rmX3_stratifiedTotal.locals ≤ rm.locals → gCall yX3_stratifiedTotal 11 3 rmX3_stratifiedTotal rm := fun rm a b => ⟨Or.inl ⟨_, _, tw787⟩, tw4, ⟨by decide, by decide⟩, by decide, a, b⟩
abbrev rmX3_weightedTotal : Room := { frames := 3, cells := 0, slots := 0, locals := 68 }
def wp_X3_weightedTotal_J94 (M : MEM) (x7_8 : Int64) (K41 : Int64 → Int32 → Prop) (x9_9 : Int64) (x11_10 : Int32) (r_11 : Int64) (x14_15 : Int64) (s_18 : Int32) : Prop := (s_18 = 0 → (wp_X5_rounded (r_11 * x7_8) x14_15 M (fun r_19 => ∀ x9_21 : Int64, x9_21 = x9_9 + r_19 → (∀ x11_22 : Int32, x11_22 = x11_10 + 1 → (K41 x9_21 x11_22))))) ∧ (¬ s_18 = 0 → (∀ x9_23 : Int64, x9_23 = x9_9 + r_11 → (∀ x11_24 : Int32, x11_24 = x11_10 + 1 → (K41 x9_23 x11_24))))
def wp_X3_weightedTotal_J89 (M : MEM) (x7_8 : Int64) (K41 : Int64 → Int32 → Prop) (x9_9 : Int64) (x11_10 : Int32) (r_11 : Int64) (x14_15 : Int64) : Prop := wp_X3_weightedTotal_J94 M x7_8 K41 x9_9 x11_10 r_11 x14_15 1
def wp_X3_weightedTotal_L41 (o : Nat) (p1 : Int32) (p2 : Int32) (p3 : Int32) (M : MEM) (Q : Int64 → Prop) (r_3 : Int64) (x7_8 : Int64) : Nat → Int64 → Int32 → Prop
  | 0, _, _ => False
  | n41 + 1, x9_9, x11_10 => ((mI M o 2) ≤ x11_10 → (Q x9_9)) ∧ (¬ (mI M o 2) ≤ x11_10 → (wp_X3_totalled o x11_10 p1 p2 p3 M (fun r_11 => wp_X3_partAt o x11_10 3 M (fun r_13 => ∀ x14_15 : Int64, x14_15 = r_13.toInt64 * r_3 → (wp_X3_isComplete o M (fun r_16 => (¬ r_16 = 0 → (wp_X3_weightedTotal_J89 M x7_8 (wp_X3_weightedTotal_L41 o p1 p2 p3 M Q r_3 x7_8 n41) x9_9 x11_10 r_11 x14_15)) ∧ (r_16 = 0 → ((x14_15 < x7_8 → (wp_X3_weightedTotal_J94 M x7_8 (wp_X3_weightedTotal_L41 o p1 p2 p3 M Q r_3 x7_8 n41) x9_9 x11_10 r_11 x14_15 0)) ∧ (¬ x14_15 < x7_8 → (wp_X3_weightedTotal_J89 M x7_8 (wp_X3_weightedTotal_L41 o p1 p2 p3 M Q r_3 x7_8 n41) x9_9 x11_10 r_11 x14_15))))))))))
def wp_X3_weightedTotal (o : Nat) (p1 : Int32) (p2 : Int32) (p3 : Int32) (M : MEM) (Q : Int64 → Prop) : Prop := KD o = (13, 0) ∧ (wp_X3_candidateAt o (mI M o 2) M (fun r_1 => wp_X3_mixAt o r_1 M (fun r_3 => KD (mO M o) = (14, 0) ∧ wp_X4_partAt (mO M o) r_1 3 M (fun r_5 => ∀ x7_8 : Int64, x7_8 = 2147483648 * r_5.toInt64 → (∃ m41 : Nat, wp_X3_weightedTotal_L41 o p1 p2 p3 M Q r_3 x7_8 m41 0 0)))))
set_option maxRecDepth 100000 in
set_option maxHeartbeats 4000000 in
theorem met_X3_weightedTotal {l : Launch} (hl : l.stackTraces = false) {E : MK} {o : Nat} {p1 : Int32} {p2 : Int32} {p3 : Int32} {M : MEM} {Q : Int64 → Prop} (hw : wp_X3_weightedTotal o p1 p2 p3 M Q) : gMet l E yX3_weightedTotal rmX3_weightedTotal [gR E o, .int p1, .int p2, .int p3] M (qLp M Q) gNo := by
  obtain ⟨hk0, hw⟩ := hw
  refine g_met hl (cc := cX3_weightedTotal) (maxL := 17) (ret := (some .long)) (hh := []) (loc := [(0, gR E o), (1, .int p1), (2, .int p2), (3, .int p3)]) (by decide +kernel) (Or.inl ⟨tw769, rfl⟩) (Nat.le_of_ble_eq_true rfl) rfl (fun K hK C => ?_)
  have C : GC K E cX3_weightedTotal RX3 17 (some .long) [] rmX3_weightedTotal := C
  refine g_aload_n C dX3_weightedTotal_0 0 rfl rfl ?_
  refine g_aload_n C dX3_weightedTotal_1 0 rfl rfl ?_
  refine gf_RX3_38 C hk0 dX3_weightedTotal_2 ?_
  refine g_cV C dX3_weightedTotal_5 (met_X3_candidateAt C.st hw) (gc_X3_candidateAt _ (Nat.le_of_ble_eq_true rfl) (Nat.le_of_ble_eq_true rfl)) tw506 tw508 twp11 (ci := 3) rfl (by decide) hk0 rfl (Nat.le_of_ble_eq_true rfl) (c2 := 0) (s2 := 0) rfl rfl (Nat.le_of_ble_eq_true rfl) (Nat.le_of_ble_eq_true rfl) rfl (kIp (fun r_1 hw => ?_)) tNo
  refine g_istore C dX3_weightedTotal_8 (Nat.le_of_ble_eq_true rfl) (loc' := [(4, .int r_1), (0, gR E o), (1, .int p1), (2, .int p2), (3, .int p3)]) rfl ?_
  refine g_aload_n C dX3_weightedTotal_10 1 rfl rfl ?_
  refine g_iload C (j := 0) dX3_weightedTotal_11 0 rfl ?_
  refine g_cV C dX3_weightedTotal_13 (met_X3_mixAt C.st hw) (gc_X3_mixAt _ (Nat.le_of_ble_eq_true rfl) (Nat.le_of_ble_eq_true rfl)) tw498 tw500 twp9 (ci := 3) rfl (by decide) hk0 rfl (Nat.le_of_ble_eq_true rfl) (c2 := 0) (s2 := 0) rfl rfl (Nat.le_of_ble_eq_true rfl) (Nat.le_of_ble_eq_true rfl) rfl (kLp (fun r_3 hw => ?_)) tNo
  refine g_lstore C dX3_weightedTotal_16 (Nat.le_of_ble_eq_true rfl) (loc' := [(5, .long r_3), (4, .int r_1), (0, gR E o), (1, .int p1), (2, .int p2), (3, .int p3)]) rfl ?_
  refine g_ldc2 C dX3_weightedTotal_18 tw770 ?_
  refine g_aload_n C dX3_weightedTotal_21 2 rfl rfl ?_
  refine gf_RX3_12 C hk0 dX3_weightedTotal_22 ?_
  refine g_iload C (j := 0) dX3_weightedTotal_25 1 rfl ?_
  refine g_iconst C dX3_weightedTotal_27 (v := 3) rfl ?_
  obtain ⟨hk_7, hw⟩ := hw
  refine g_cV C dX3_weightedTotal_28 (met_X4_partAt C.st hw) (gc_X4_partAt _ (Nat.le_of_ble_eq_true rfl) (Nat.le_of_ble_eq_true rfl)) tw497 tw475 tw476 (ci := 4) rfl (by decide) hk_7 rfl (Nat.le_of_ble_eq_true rfl) (c2 := 0) (s2 := 0) rfl rfl (Nat.le_of_ble_eq_true rfl) (Nat.le_of_ble_eq_true rfl) rfl (kIp (fun r_5 hw => ?_)) tNo
  refine g_i2l C dX3_weightedTotal_31 ?_
  refine g_lmul C dX3_weightedTotal_32 ?_
  refine g_nmL (fun x7_8 ex7_8 => ?_)
  have hw := hw x7_8 ex7_8
  refine g_lstore C dX3_weightedTotal_33 (Nat.le_of_ble_eq_true rfl) (loc' := [(7, .long x7_8), (5, .long r_3), (4, .int r_1), (0, gR E o), (1, .int p1), (2, .int p2), (3, .int p3)]) rfl ?_
  refine g_lconst C dX3_weightedTotal_35 (v := 0) rfl ?_
  refine g_lstore C dX3_weightedTotal_36 (Nat.le_of_ble_eq_true rfl) (loc' := [(9, .long 0), (7, .long x7_8), (5, .long r_3), (4, .int r_1), (0, gR E o), (1, .int p1), (2, .int p2), (3, .int p3)]) rfl ?_
  refine g_iconst C dX3_weightedTotal_38 (v := 0) rfl ?_
  refine g_istore C dX3_weightedTotal_39 (Nat.le_of_ble_eq_true rfl) (loc' := [(11, .int 0), (9, .long 0), (7, .long x7_8), (5, .long r_3), (4, .int r_1), (0, gR E o), (1, .int p1), (2, .int p2), (3, .int p3)]) rfl ?_
  obtain ⟨m41, hw⟩ := hw
  have hL41 : ∀ (n41 : Nat) (x9_9 : Int64) (x11_10 : Int32), wp_X3_weightedTotal_L41 o p1 p2 p3 M Q r_3 x7_8 n41 x9_9 x11_10 → GX K E 17 M [(0, gR E o), (1, .int p1), (2, .int p2), (3, .int p3), (5, .long r_3), (7, .long x7_8), (9, .long x9_9), (11, .int x11_10)] [] 41 0 0 (gEnd K E (qLp M Q) gNo rmX3_weightedTotal.cells rmX3_weightedTotal.slots) := by
    intro n41
    induction n41 with
    | zero => intro _ _ hw; exact False.elim hw
    | succ n41 ih41 =>
      intro x9_9 x11_10 hw
      refine g_iload C (j := 0) dX3_weightedTotal_41 7 rfl ?_
      refine g_aload_n C dX3_weightedTotal_43 0 rfl rfl ?_
      refine gf_RX3_38 C hk0 dX3_weightedTotal_44 ?_
      refine g_icmp_ge C dX3_weightedTotal_47 (tgt := 127) (by decide) (fun c47 => ?_) (fun c47 => ?_)
      · have hw := hw.1 c47
        refine g_lload C (j := 0) dX3_weightedTotal_127 6 rfl ?_
        exact g_lret C dX3_weightedTotal_129 (Nat.le_of_ble_eq_true rfl) (Nat.le_of_ble_eq_true rfl) ⟨_, rfl, rfl, hw⟩
      · have hw := hw.2 c47
        refine g_aload_n C dX3_weightedTotal_50 0 rfl rfl ?_
        refine g_iload C (j := 0) dX3_weightedTotal_51 7 rfl ?_
        refine g_iload_n C dX3_weightedTotal_53 1 rfl rfl ?_
        refine g_iload_n C dX3_weightedTotal_54 2 rfl rfl ?_
        refine g_iload_n C dX3_weightedTotal_55 3 rfl rfl ?_
        refine g_cV C dX3_weightedTotal_56 (met_X3_totalled C.st hw) (gc_X3_totalled _ (Nat.le_of_ble_eq_true rfl) (Nat.le_of_ble_eq_true rfl)) tw771 tw773 twp20 (ci := 3) rfl (by decide) hk0 rfl (Nat.le_of_ble_eq_true rfl) (c2 := 0) (s2 := 0) rfl rfl (Nat.le_of_ble_eq_true rfl) (Nat.le_of_ble_eq_true rfl) rfl (kLp (fun r_11 hw => ?_)) tNo
        refine g_lstore C dX3_weightedTotal_59 (Nat.le_of_ble_eq_true rfl) (loc' := [(12, .long r_11), (0, gR E o), (1, .int p1), (2, .int p2), (3, .int p3), (5, .long r_3), (7, .long x7_8), (9, .long x9_9), (11, .int x11_10)]) rfl ?_
        refine g_aload_n C dX3_weightedTotal_61 1 rfl rfl ?_
        refine g_iload C (j := 0) dX3_weightedTotal_62 8 rfl ?_
        refine g_iconst C dX3_weightedTotal_64 (v := 3) rfl ?_
        refine g_cV C dX3_weightedTotal_65 (met_X3_partAt C.st hw) (gc_X3_partAt _ (Nat.le_of_ble_eq_true rfl) (Nat.le_of_ble_eq_true rfl)) tw719 tw669 tw670 (ci := 3) rfl (by decide) hk0 rfl (Nat.le_of_ble_eq_true rfl) (c2 := 0) (s2 := 0) rfl rfl (Nat.le_of_ble_eq_true rfl) (Nat.le_of_ble_eq_true rfl) rfl (kIp (fun r_13 hw => ?_)) tNo
        refine g_i2l C dX3_weightedTotal_68 ?_
        refine g_lload C (j := 0) dX3_weightedTotal_69 5 rfl ?_
        refine g_lmul C dX3_weightedTotal_71 ?_
        refine g_nmL (fun x14_15 ex14_15 => ?_)
        have hw := hw x14_15 ex14_15
        refine g_lstore C dX3_weightedTotal_72 (Nat.le_of_ble_eq_true rfl) (loc' := [(14, .long x14_15), (12, .long r_11), (0, gR E o), (1, .int p1), (2, .int p2), (3, .int p3), (5, .long r_3), (7, .long x7_8), (9, .long x9_9), (11, .int x11_10)]) rfl ?_
        refine g_aload_n C dX3_weightedTotal_74 2 rfl rfl ?_
        refine g_cV C dX3_weightedTotal_75 (met_X3_isComplete C.st hw) (gc_X3_isComplete _ (Nat.le_of_ble_eq_true rfl) (Nat.le_of_ble_eq_true rfl)) tw776 tw527 tw528 (ci := 3) rfl (by decide) hk0 rfl (Nat.le_of_ble_eq_true rfl) (c2 := 0) (s2 := 0) rfl rfl (Nat.le_of_ble_eq_true rfl) (Nat.le_of_ble_eq_true rfl) rfl (kIp (fun r_16 hw => ?_)) tNo
        have hJ94 : ∀ (s_18 : Int32), wp_X3_weightedTotal_J94 M x7_8 (wp_X3_weightedTotal_L41 o p1 p2 p3 M Q r_3 x7_8 n41) x9_9 x11_10 r_11 x14_15 s_18 → GX K E 17 M [(0, gR E o), (1, .int p1), (2, .int p2), (3, .int p3), (5, .long r_3), (7, .long x7_8), (9, .long x9_9), (11, .int x11_10), (12, .long r_11), (14, .long x14_15)] [.int s_18] 94 0 0 (gEnd K E (qLp M Q) gNo rmX3_weightedTotal.cells rmX3_weightedTotal.slots) := by
          intro s_18 hw
          refine g_istore C dX3_weightedTotal_94 (Nat.le_of_ble_eq_true rfl) (loc' := [(16, .int s_18), (0, gR E o), (1, .int p1), (2, .int p2), (3, .int p3), (5, .long r_3), (7, .long x7_8), (9, .long x9_9), (11, .int x11_10), (12, .long r_11), (14, .long x14_15)]) rfl ?_
          refine g_lload C (j := 0) dX3_weightedTotal_96 7 rfl ?_
          refine g_iload C (j := 0) dX3_weightedTotal_98 0 rfl ?_
          refine g_if_eq C dX3_weightedTotal_100 (tgt := 108) (by decide) (fun c100 => ?_) (fun c100 => ?_)
          · have hw := hw.1 c100
            refine g_lload C (j := 0) dX3_weightedTotal_108 9 rfl ?_
            refine g_lload C (j := 0) dX3_weightedTotal_110 6 rfl ?_
            refine g_lmul C dX3_weightedTotal_112 ?_
            refine g_lload C (j := 0) dX3_weightedTotal_113 10 rfl ?_
            refine g_cS C dX3_weightedTotal_115 (met_X5_rounded C.st hw) (gc_X5_rounded _ (Nat.le_of_ble_eq_true rfl) (Nat.le_of_ble_eq_true rfl)) (Or.inr ⟨_, List.mem_of_getElem? (i := 7) rfl⟩) tw778 rfl (Nat.le_of_ble_eq_true rfl) (c2 := 0) (s2 := 0) rfl rfl (Nat.le_of_ble_eq_true rfl) (Nat.le_of_ble_eq_true rfl) rfl (kLp (fun r_19 hw => ?_)) tNo
            refine g_ladd C dX3_weightedTotal_118 ?_
            refine g_nmL (fun x9_21 ex9_21 => ?_)
            have hw := hw x9_21 ex9_21
            refine g_lstore C dX3_weightedTotal_119 (Nat.le_of_ble_eq_true rfl) (loc' := [(9, .long x9_21), (16, .int s_18), (0, gR E o), (1, .int p1), (2, .int p2), (3, .int p3), (5, .long r_3), (7, .long x7_8), (11, .int x11_10), (12, .long r_11), (14, .long x14_15)]) rfl ?_
            obtain ⟨x11_22, ex11_22⟩ : ∃ y : Int32, y = x11_10 + 1 := ⟨_, rfl⟩
            have hw := hw x11_22 ex11_22
            refine g_iinc C (j := 0) dX3_weightedTotal_121 8 rfl (v := x11_22) (by rw [ex11_22]; rfl) (Nat.le_of_ble_eq_true rfl) (loc' := [(11, .int x11_22), (9, .long x9_21), (16, .int s_18), (0, gR E o), (1, .int p1), (2, .int p2), (3, .int p3), (5, .long r_3), (7, .long x7_8), (12, .long r_11), (14, .long x14_15)]) rfl ?_
            refine g_goto C dX3_weightedTotal_124 (tgt := 41) (by decide) ?_
            refine g_sub [3, 4, 5, 6, 7, 8, 1, 0] rfl ?_
            exact ih41 _ _ hw
          · have hw := hw.2 c100
            refine g_lload C (j := 0) dX3_weightedTotal_103 9 rfl ?_
            refine g_goto C dX3_weightedTotal_105 (tgt := 118) (by decide) ?_
            refine g_ladd C dX3_weightedTotal_118 ?_
            refine g_nmL (fun x9_23 ex9_23 => ?_)
            have hw := hw x9_23 ex9_23
            refine g_lstore C dX3_weightedTotal_119 (Nat.le_of_ble_eq_true rfl) (loc' := [(9, .long x9_23), (16, .int s_18), (0, gR E o), (1, .int p1), (2, .int p2), (3, .int p3), (5, .long r_3), (7, .long x7_8), (11, .int x11_10), (12, .long r_11), (14, .long x14_15)]) rfl ?_
            obtain ⟨x11_24, ex11_24⟩ : ∃ y : Int32, y = x11_10 + 1 := ⟨_, rfl⟩
            have hw := hw x11_24 ex11_24
            refine g_iinc C (j := 0) dX3_weightedTotal_121 8 rfl (v := x11_24) (by rw [ex11_24]; rfl) (Nat.le_of_ble_eq_true rfl) (loc' := [(11, .int x11_24), (9, .long x9_23), (16, .int s_18), (0, gR E o), (1, .int p1), (2, .int p2), (3, .int p3), (5, .long r_3), (7, .long x7_8), (12, .long r_11), (14, .long x14_15)]) rfl ?_
            refine g_goto C dX3_weightedTotal_124 (tgt := 41) (by decide) ?_
            refine g_sub [3, 4, 5, 6, 7, 8, 1, 0] rfl ?_
            exact ih41 _ _ hw
        have hJ89 : wp_X3_weightedTotal_J89 M x7_8 (wp_X3_weightedTotal_L41 o p1 p2 p3 M Q r_3 x7_8 n41) x9_9 x11_10 r_11 x14_15 → GX K E 17 M [(0, gR E o), (1, .int p1), (2, .int p2), (3, .int p3), (5, .long r_3), (7, .long x7_8), (9, .long x9_9), (11, .int x11_10), (12, .long r_11), (14, .long x14_15)] [] 89 0 0 (gEnd K E (qLp M Q) gNo rmX3_weightedTotal.cells rmX3_weightedTotal.slots) := by
          intro hw
          refine g_iconst C dX3_weightedTotal_89 (v := 1) rfl ?_
          refine g_goto C dX3_weightedTotal_90 (tgt := 94) (by decide) ?_
          exact hJ94 _ hw
        refine g_if_ne C dX3_weightedTotal_78 (tgt := 89) (by decide) (fun c78 => ?_) (fun c78 => ?_)
        · have hw := hw.1 c78
          refine g_sub [2, 3, 4, 5, 6, 7, 8, 9, 1, 0] rfl ?_
          exact hJ89 hw
        · have hw := hw.2 c78
          refine g_lload C (j := 0) dX3_weightedTotal_81 0 rfl ?_
          refine g_lload C (j := 0) dX3_weightedTotal_83 7 rfl ?_
          refine g_lc_lt C dX3_weightedTotal_85 dX3_weightedTotal_86 (tgt := 93) (by decide) (fun c86 => ?_) (fun c86 => ?_)
          · have hw := hw.1 c86
            refine g_iconst C dX3_weightedTotal_93 (v := 0) rfl ?_
            refine g_sub [2, 3, 4, 5, 6, 7, 8, 9, 1, 0] rfl ?_
            exact hJ94 _ hw
          · have hw := hw.2 c86
            refine g_sub [2, 3, 4, 5, 6, 7, 8, 9, 1, 0] rfl ?_
            exact hJ89 hw
  refine g_sub [5, 6, 7, 8, 3, 2, 1, 0] rfl ?_
  exact hL41 m41 _ _ hw
theorem gc_X3_weightedTotal : ∀ rm : Room, rmX3_weightedTotal.frames + 1 ≤ rm.frames → 8 + (17 + 11) + rmX3_weightedTotal.locals ≤ rm.locals → gCall yX3_weightedTotal 17 3 rmX3_weightedTotal rm := fun rm a b => ⟨Or.inl ⟨_, _, tw769⟩, tw4, ⟨by decide, by decide⟩, by decide, a, b⟩
abbrev rmX3_estimatedTotal : Room := { frames := 4, cells := 0, slots := 0, locals := 104 }
def wp_X3_estimatedTotal_L44 (o : Nat) (p1 : Int32) (p2 : Int32) (p3 : Int32) (M : MEM) (Q : Int64 → Prop) : Nat → Int64 → Int32 → Prop
  | 0, _, _ => False
  | n44 + 1, x4_2, x6_3 => ((mI M o 2) ≤ x6_3 → (wp_X3_estimatedCount o M (fun r_4 => wp_X5_rounded (x4_2 * r_4) ((mI M o 2 : Int32).toInt64) M (fun r_6 => Q r_6)))) ∧ (¬ (mI M o 2) ≤ x6_3 → (wp_X3_totalled o x6_3 p1 p2 p3 M (fun r_8 => ∀ x4_10 : Int64, x4_10 = x4_2 + r_8 → (∀ x6_11 : Int32, x6_11 = x6_3 + 1 → ((wp_X3_estimatedTotal_L44 o p1 p2 p3 M Q n44) x4_10 x6_11)))))
def wp_X3_estimatedTotal (o : Nat) (p1 : Int32) (p2 : Int32) (p3 : Int32) (M : MEM) (Q : Int64 → Prop) : Prop := KD o = (13, 0) ∧ (KD (mO M o) = (14, 0) ∧ ((¬ (mI M (mO M o) 1) = 1 → ((¬ (mI M (mO M o) 1) = 2 → (∃ m44 : Nat, wp_X3_estimatedTotal_L44 o p1 p2 p3 M Q m44 0 0)) ∧ ((mI M (mO M o) 1) = 2 → (wp_X3_stratifiedTotal o p1 p2 p3 M (fun r_12 => Q r_12))))) ∧ ((mI M (mO M o) 1) = 1 → (wp_X3_weightedTotal o p1 p2 p3 M (fun r_14 => Q r_14)))))
set_option maxRecDepth 100000 in
set_option maxHeartbeats 4000000 in
theorem met_X3_estimatedTotal {l : Launch} (hl : l.stackTraces = false) {E : MK} {o : Nat} {p1 : Int32} {p2 : Int32} {p3 : Int32} {M : MEM} {Q : Int64 → Prop} (hw : wp_X3_estimatedTotal o p1 p2 p3 M Q) : gMet l E yX3_estimatedTotal rmX3_estimatedTotal [gR E o, .int p1, .int p2, .int p3] M (qLp M Q) gNo := by
  obtain ⟨hk0, hw⟩ := hw
  refine g_met hl (cc := cX3_estimatedTotal) (maxL := 7) (ret := (some .long)) (hh := []) (loc := [(0, gR E o), (1, .int p1), (2, .int p2), (3, .int p3)]) (by decide +kernel) (Or.inl ⟨tw765, rfl⟩) (Nat.le_of_ble_eq_true rfl) rfl (fun K hK C => ?_)
  have C : GC K E cX3_estimatedTotal RX3 7 (some .long) [] rmX3_estimatedTotal := C
  refine g_aload_n C dX3_estimatedTotal_0 0 rfl rfl ?_
  refine gf_RX3_12 C hk0 dX3_estimatedTotal_1 ?_
  obtain ⟨hk_1, hw⟩ := hw
  refine gf_RX3_59 C hk_1 dX3_estimatedTotal_4 ?_
  refine g_iconst C dX3_estimatedTotal_7 (v := 1) rfl ?_
  refine g_icmp_ne C dX3_estimatedTotal_8 (tgt := 19) (by decide) (fun c8 => ?_) (fun c8 => ?_)
  · have hw := hw.1 c8
    refine g_aload_n C dX3_estimatedTotal_19 0 rfl rfl ?_
    refine gf_RX3_12 C hk0 dX3_estimatedTotal_20 ?_
    refine gf_RX3_59 C hk_1 dX3_estimatedTotal_23 ?_
    refine g_iconst C dX3_estimatedTotal_26 (v := 2) rfl ?_
    refine g_icmp_ne C dX3_estimatedTotal_27 (tgt := 38) (by decide) (fun c27 => ?_) (fun c27 => ?_)
    · have hw := hw.1 c27
      refine g_lconst C dX3_estimatedTotal_38 (v := 0) rfl ?_
      refine g_lstore C dX3_estimatedTotal_39 (Nat.le_of_ble_eq_true rfl) (loc' := [(4, .long 0), (0, gR E o), (1, .int p1), (2, .int p2), (3, .int p3)]) rfl ?_
      refine g_iconst C dX3_estimatedTotal_41 (v := 0) rfl ?_
      refine g_istore C dX3_estimatedTotal_42 (Nat.le_of_ble_eq_true rfl) (loc' := [(6, .int 0), (4, .long 0), (0, gR E o), (1, .int p1), (2, .int p2), (3, .int p3)]) rfl ?_
      obtain ⟨m44, hw⟩ := hw
      have hL44 : ∀ (n44 : Nat) (x4_2 : Int64) (x6_3 : Int32), wp_X3_estimatedTotal_L44 o p1 p2 p3 M Q n44 x4_2 x6_3 → GX K E 7 M [(0, gR E o), (1, .int p1), (2, .int p2), (3, .int p3), (4, .long x4_2), (6, .int x6_3)] [] 44 0 0 (gEnd K E (qLp M Q) gNo rmX3_estimatedTotal.cells rmX3_estimatedTotal.slots) := by
        intro n44
        induction n44 with
        | zero => intro _ _ hw; exact False.elim hw
        | succ n44 ih44 =>
          intro x4_2 x6_3 hw
          refine g_iload C (j := 0) dX3_estimatedTotal_44 5 rfl ?_
          refine g_aload_n C dX3_estimatedTotal_46 0 rfl rfl ?_
          refine gf_RX3_38 C hk0 dX3_estimatedTotal_47 ?_
          refine g_icmp_ge C dX3_estimatedTotal_50 (tgt := 73) (by decide) (fun c50 => ?_) (fun c50 => ?_)
          · have hw := hw.1 c50
            refine g_lload C (j := 0) dX3_estimatedTotal_73 4 rfl ?_
            refine g_aload_n C dX3_estimatedTotal_75 0 rfl rfl ?_
            refine g_cV C dX3_estimatedTotal_76 (met_X3_estimatedCount C.st hw) (gc_X3_estimatedCount _ (Nat.le_of_ble_eq_true rfl) (Nat.le_of_ble_eq_true rfl)) tw792 tw793 tw794 (ci := 3) rfl (by decide) hk0 rfl (Nat.le_of_ble_eq_true rfl) (c2 := 0) (s2 := 0) rfl rfl (Nat.le_of_ble_eq_true rfl) (Nat.le_of_ble_eq_true rfl) rfl (kLp (fun r_4 hw => ?_)) tNo
            refine g_lmul C dX3_estimatedTotal_79 ?_
            refine g_aload_n C dX3_estimatedTotal_80 0 rfl rfl ?_
            refine gf_RX3_38 C hk0 dX3_estimatedTotal_81 ?_
            refine g_i2l C dX3_estimatedTotal_84 ?_
            refine g_cS C dX3_estimatedTotal_85 (met_X5_rounded C.st hw) (gc_X5_rounded _ (Nat.le_of_ble_eq_true rfl) (Nat.le_of_ble_eq_true rfl)) (Or.inr ⟨_, List.mem_of_getElem? (i := 7) rfl⟩) tw778 rfl (Nat.le_of_ble_eq_true rfl) (c2 := 0) (s2 := 0) rfl rfl (Nat.le_of_ble_eq_true rfl) (Nat.le_of_ble_eq_true rfl) rfl (kLp (fun r_6 hw => ?_)) tNo
            exact g_lret C dX3_estimatedTotal_88 (Nat.le_of_ble_eq_true rfl) (Nat.le_of_ble_eq_true rfl) ⟨_, rfl, rfl, hw⟩
          · have hw := hw.2 c50
            refine g_lload C (j := 0) dX3_estimatedTotal_53 4 rfl ?_
            refine g_aload_n C dX3_estimatedTotal_55 0 rfl rfl ?_
            refine g_iload C (j := 0) dX3_estimatedTotal_56 5 rfl ?_
            refine g_iload_n C dX3_estimatedTotal_58 1 rfl rfl ?_
            refine g_iload_n C dX3_estimatedTotal_59 2 rfl rfl ?_
            refine g_iload_n C dX3_estimatedTotal_60 3 rfl rfl ?_
            refine g_cV C dX3_estimatedTotal_61 (met_X3_totalled C.st hw) (gc_X3_totalled _ (Nat.le_of_ble_eq_true rfl) (Nat.le_of_ble_eq_true rfl)) tw771 tw773 twp20 (ci := 3) rfl (by decide) hk0 rfl (Nat.le_of_ble_eq_true rfl) (c2 := 0) (s2 := 0) rfl rfl (Nat.le_of_ble_eq_true rfl) (Nat.le_of_ble_eq_true rfl) rfl (kLp (fun r_8 hw => ?_)) tNo
            refine g_ladd C dX3_estimatedTotal_64 ?_
            refine g_nmL (fun x4_10 ex4_10 => ?_)
            have hw := hw x4_10 ex4_10
            refine g_lstore C dX3_estimatedTotal_65 (Nat.le_of_ble_eq_true rfl) (loc' := [(4, .long x4_10), (0, gR E o), (1, .int p1), (2, .int p2), (3, .int p3), (6, .int x6_3)]) rfl ?_
            obtain ⟨x6_11, ex6_11⟩ : ∃ y : Int32, y = x6_3 + 1 := ⟨_, rfl⟩
            have hw := hw x6_11 ex6_11
            refine g_iinc C (j := 0) dX3_estimatedTotal_67 5 rfl (v := x6_11) (by rw [ex6_11]; rfl) (Nat.le_of_ble_eq_true rfl) (loc' := [(6, .int x6_11), (4, .long x4_10), (0, gR E o), (1, .int p1), (2, .int p2), (3, .int p3)]) rfl ?_
            refine g_goto C dX3_estimatedTotal_70 (tgt := 44) (by decide) ?_
            refine g_sub [2, 3, 4, 5, 1, 0] rfl ?_
            exact ih44 _ _ hw
      refine g_sub [2, 3, 4, 5, 1, 0] rfl ?_
      exact hL44 m44 _ _ hw
    · have hw := hw.2 c27
      refine g_aload_n C dX3_estimatedTotal_30 0 rfl rfl ?_
      refine g_iload_n C dX3_estimatedTotal_31 1 rfl rfl ?_
      refine g_iload_n C dX3_estimatedTotal_32 2 rfl rfl ?_
      refine g_iload_n C dX3_estimatedTotal_33 3 rfl rfl ?_
      refine g_cV C dX3_estimatedTotal_34 (met_X3_stratifiedTotal C.st hw) (gc_X3_stratifiedTotal _ (Nat.le_of_ble_eq_true rfl) (Nat.le_of_ble_eq_true rfl)) tw784 tw786 twp21 (ci := 3) rfl (by decide) hk0 rfl (Nat.le_of_ble_eq_true rfl) (c2 := 0) (s2 := 0) rfl rfl (Nat.le_of_ble_eq_true rfl) (Nat.le_of_ble_eq_true rfl) rfl (kLp (fun r_12 hw => ?_)) tNo
      exact g_lret C dX3_estimatedTotal_37 (Nat.le_of_ble_eq_true rfl) (Nat.le_of_ble_eq_true rfl) ⟨_, rfl, rfl, hw⟩
  · have hw := hw.2 c8
    refine g_aload_n C dX3_estimatedTotal_11 0 rfl rfl ?_
    refine g_iload_n C dX3_estimatedTotal_12 1 rfl rfl ?_
    refine g_iload_n C dX3_estimatedTotal_13 2 rfl rfl ?_
    refine g_iload_n C dX3_estimatedTotal_14 3 rfl rfl ?_
    refine g_cV C dX3_estimatedTotal_15 (met_X3_weightedTotal C.st hw) (gc_X3_weightedTotal _ (Nat.le_of_ble_eq_true rfl) (Nat.le_of_ble_eq_true rfl)) tw766 tw768 twp19 (ci := 3) rfl (by decide) hk0 rfl (Nat.le_of_ble_eq_true rfl) (c2 := 0) (s2 := 0) rfl rfl (Nat.le_of_ble_eq_true rfl) (Nat.le_of_ble_eq_true rfl) rfl (kLp (fun r_14 hw => ?_)) tNo
    exact g_lret C dX3_estimatedTotal_18 (Nat.le_of_ble_eq_true rfl) (Nat.le_of_ble_eq_true rfl) ⟨_, rfl, rfl, hw⟩
theorem gc_X3_estimatedTotal : ∀ rm : Room, rmX3_estimatedTotal.frames + 1 ≤ rm.frames → 8 + (7 + 11) + rmX3_estimatedTotal.locals ≤ rm.locals → gCall yX3_estimatedTotal 7 3 rmX3_estimatedTotal rm := fun rm a b => ⟨Or.inl ⟨_, _, tw765⟩, tw4, ⟨by decide, by decide⟩, by decide, a, b⟩
abbrev rmX4_isFilled : Room := { frames := 0, cells := 0, slots := 0, locals := 0 }
def wp_X4_isFilled (o : Nat) (M : MEM) (Q : Int32 → Prop) : Prop := KD o = (14, 0) ∧ (gB (mI M o 0) ∧ Q (mI M o 0))
set_option maxRecDepth 100000 in
set_option maxHeartbeats 4000000 in
theorem met_X4_isFilled {l : Launch} (hl : l.stackTraces = false) {E : MK} {o : Nat} {M : MEM} {Q : Int32 → Prop} (hw : wp_X4_isFilled o M Q) : gMet l E yX4_isFilled rmX4_isFilled [gR E o] M (qIp M Q) gNo := by
  obtain ⟨hk0, hw⟩ := hw
  refine g_met hl (cc := cX4_isFilled) (maxL := 1) (ret := (some .boolean)) (hh := []) (loc := [(0, gR E o)]) (by decide +kernel) (Or.inl ⟨tw226, rfl⟩) (Nat.le_of_ble_eq_true rfl) rfl (fun K hK C => ?_)
  have C : GC K E cX4_isFilled RX4 1 (some .boolean) [] rmX4_isFilled := C
  refine g_aload_n C dX4_isFilled_0 0 rfl rfl ?_
  refine gf_RX4_18 C hk0 dX4_isFilled_1 ?_
  obtain ⟨hb_1, hw⟩ := hw
  exact g_zret C dX4_isFilled_4 hb_1.1 (Nat.le_of_ble_eq_true rfl) (Nat.le_of_ble_eq_true rfl) ⟨_, rfl, rfl, hw⟩
theorem gc_X4_isFilled : ∀ rm : Room, rmX4_isFilled.frames + 1 ≤ rm.frames → 8 + (1 + 11) + rmX4_isFilled.locals ≤ rm.locals → gCall yX4_isFilled 1 0 rmX4_isFilled rm := fun rm a b => ⟨Or.inl ⟨_, _, tw226⟩, tw2, ⟨by decide, by decide⟩, by decide, a, b⟩
abbrev rmX4_empty : Room := { frames := 0, cells := 0, slots := 0, locals := 0 }
def wp_X4_empty (o : Nat) (M : MEM) (Q : MEM → Prop) : Prop := KD o = (14, 0) ∧ ((∀ M_1 : MEM, M_1 = uI M o 0 0 → ((∀ M_2 : MEM, M_2 = uI M_1 o 5 0 → (Q M_2)))))
set_option maxRecDepth 100000 in
set_option maxHeartbeats 4000000 in
theorem met_X4_empty {l : Launch} (hl : l.stackTraces = false) {E : MK} {o : Nat} {M : MEM} {Q : MEM → Prop} (hw : wp_X4_empty o M Q) : gMet l E yX4_empty rmX4_empty [gR E o] M (qV Q) gNo := by
  obtain ⟨hk0, hw⟩ := hw
  refine g_met hl (cc := cX4_empty) (maxL := 1) (ret := none) (hh := []) (loc := [(0, gR E o)]) (by decide +kernel) (Or.inl ⟨tw390, rfl⟩) (Nat.le_of_ble_eq_true rfl) rfl (fun K hK C => ?_)
  have C : GC K E cX4_empty RX4 1 none [] rmX4_empty := C
  refine g_aload_n C dX4_empty_0 0 rfl rfl ?_
  refine g_iconst C dX4_empty_1 (v := 0) rfl ?_
  refine pf_RX4_18 C hk0 gB0 dX4_empty_2 ?_
  refine g_nmM (fun M_1 eM_1 => ?_)
  have hw := hw M_1 eM_1
  refine g_aload_n C dX4_empty_5 0 rfl rfl ?_
  refine g_iconst C dX4_empty_6 (v := 0) rfl ?_
  refine pf_RX4_22 C hk0 dX4_empty_7 ?_
  refine g_nmM (fun M_2 eM_2 => ?_)
  have hw := hw M_2 eM_2
  exact g_vret C dX4_empty_10 (Nat.le_of_ble_eq_true rfl) (Nat.le_of_ble_eq_true rfl) ⟨rfl, hw⟩
theorem gc_X4_empty : ∀ rm : Room, rmX4_empty.frames + 1 ≤ rm.frames → 8 + (1 + 11) + rmX4_empty.locals ≤ rm.locals → gCall yX4_empty 1 0 rmX4_empty rm := fun rm a b => ⟨Or.inl ⟨_, _, tw390⟩, tw2, ⟨by decide, by decide⟩, by decide, a, b⟩
abbrev rmX4_isLike : Room := { frames := 0, cells := 0, slots := 0, locals := 0 }
def wp_X4_isLike (o : Nat) (p1 : Nat) (M : MEM) (Q : Int32 → Prop) : Prop := KD o = (14, 0) ∧ (KD p1 = (14, 0) ∧ ((¬ (mI M o 1) = (mI M p1 1) → (Q 0)) ∧ ((mI M o 1) = (mI M p1 1) → ((¬ (mI M o 2) = (mI M p1 2) → (Q 0)) ∧ ((mI M o 2) = (mI M p1 2) → ((¬ (mI M o 3) = (mI M p1 3) → (Q 0)) ∧ ((mI M o 3) = (mI M p1 3) → (Q 1))))))))
set_option maxRecDepth 100000 in
set_option maxHeartbeats 4000000 in
theorem met_X4_isLike {l : Launch} (hl : l.stackTraces = false) {E : MK} {o : Nat} {p1 : Nat} {M : MEM} {Q : Int32 → Prop} (hw : wp_X4_isLike o p1 M Q) : gMet l E yX4_isLike rmX4_isLike [gR E o, gR E p1] M (qIp M Q) gNo := by
  obtain ⟨hk0, hw⟩ := hw
  refine g_met hl (cc := cX4_isLike) (maxL := 2) (ret := (some .boolean)) (hh := []) (loc := [(0, gR E o), (1, gR E p1)]) (by decide +kernel) (Or.inl ⟨tw602, rfl⟩) (Nat.le_of_ble_eq_true rfl) rfl (fun K hK C => ?_)
  have C : GC K E cX4_isLike RX4 2 (some .boolean) [] rmX4_isLike := C
  refine g_aload_n C dX4_isLike_0 0 rfl rfl ?_
  refine gf_RX4_26 C hk0 dX4_isLike_1 ?_
  refine g_aload_n C dX4_isLike_4 1 rfl rfl ?_
  obtain ⟨hk_1, hw⟩ := hw
  refine gf_RX4_26 C hk_1 dX4_isLike_5 ?_
  refine g_icmp_ne C dX4_isLike_8 (tgt := 37) (by decide) (fun c8 => ?_) (fun c8 => ?_)
  · have hw := hw.1 c8
    refine g_iconst C dX4_isLike_37 (v := 0) rfl ?_
    exact g_zret C dX4_isLike_38 gB0.1 (Nat.le_of_ble_eq_true rfl) (Nat.le_of_ble_eq_true rfl) ⟨_, rfl, rfl, hw⟩
  · have hw := hw.2 c8
    refine g_aload_n C dX4_isLike_11 0 rfl rfl ?_
    refine gf_RX4_29 C hk0 dX4_isLike_12 ?_
    refine g_aload_n C dX4_isLike_15 1 rfl rfl ?_
    refine gf_RX4_29 C hk_1 dX4_isLike_16 ?_
    refine g_icmp_ne C dX4_isLike_19 (tgt := 37) (by decide) (fun c19 => ?_) (fun c19 => ?_)
    · have hw := hw.1 c19
      refine g_iconst C dX4_isLike_37 (v := 0) rfl ?_
      exact g_zret C dX4_isLike_38 gB0.1 (Nat.le_of_ble_eq_true rfl) (Nat.le_of_ble_eq_true rfl) ⟨_, rfl, rfl, hw⟩
    · have hw := hw.2 c19
      refine g_aload_n C dX4_isLike_22 0 rfl rfl ?_
      refine gf_RX4_32 C hk0 dX4_isLike_23 ?_
      refine g_aload_n C dX4_isLike_26 1 rfl rfl ?_
      refine gf_RX4_32 C hk_1 dX4_isLike_27 ?_
      refine g_icmp_ne C dX4_isLike_30 (tgt := 37) (by decide) (fun c30 => ?_) (fun c30 => ?_)
      · have hw := hw.1 c30
        refine g_iconst C dX4_isLike_37 (v := 0) rfl ?_
        exact g_zret C dX4_isLike_38 gB0.1 (Nat.le_of_ble_eq_true rfl) (Nat.le_of_ble_eq_true rfl) ⟨_, rfl, rfl, hw⟩
      · have hw := hw.2 c30
        refine g_iconst C dX4_isLike_33 (v := 1) rfl ?_
        refine g_goto C dX4_isLike_34 (tgt := 38) (by decide) ?_
        exact g_zret C dX4_isLike_38 gB1.1 (Nat.le_of_ble_eq_true rfl) (Nat.le_of_ble_eq_true rfl) ⟨_, rfl, rfl, hw⟩
theorem gc_X4_isLike : ∀ rm : Room, rmX4_isLike.frames + 1 ≤ rm.frames → 8 + (2 + 11) + rmX4_isLike.locals ≤ rm.locals → gCall yX4_isLike 2 1 rmX4_isLike rm := fun rm a b => ⟨Or.inl ⟨_, _, tw602⟩, tw2, ⟨by decide, by decide⟩, by decide, a, b⟩
