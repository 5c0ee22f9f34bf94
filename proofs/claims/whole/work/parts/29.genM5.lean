abbrev rmX6_write : Room := { frames := 2, cells := 0, slots := 0, locals := 47 }
def wp_X6_write_L111 (o : Nat) (p1 : Int32) (K87 : Int32 → MEM → Prop) (x2_23 : Int32) : Nat → Int32 → MEM → Prop
  | 0, _, _ => False
  | n111 + 1, x3_31, M_32 => (5 ≤ x3_31 → (∀ x2_33 : Int32, x2_33 = x2_23 + 1 → (K87 x2_33 M_32))) ∧ (¬ 5 ≤ x3_31 → (wp_X6_item o p1 x2_23 x3_31 M_32 (fun r_34 => wp_X6_prints o 44 r_34 M_32 (fun M_37 => ∀ x3_38 : Int32, x3_38 = x3_31 + 1 → ((wp_X6_write_L111 o p1 K87 x2_23 n111) x3_38 M_37)))))
def wp_X6_write_L87 (o : Nat) (p1 : Int32) (Q : Int32 → MEM → Prop) : Nat → Int32 → MEM → Prop
  | 0, _, _ => False
  | n87 + 1, x2_23, M_24 => wp_X6_many o p1 M_24 (fun r_25 => (r_25 ≤ x2_23 → (Q (mI M_24 o 24) M_24)) ∧ (¬ r_25 ≤ x2_23 → (wp_X6_item o p1 x2_23 0 M_24 (fun r_27 => wp_X6_prints o 59 r_27 M_24 (fun M_30 => ∃ m111 : Nat, wp_X6_write_L111 o p1 (wp_X6_write_L87 o p1 Q n87) x2_23 m111 1 M_30)))))
def wp_X6_write (o : Nat) (p1 : Int32) (M : MEM) (Q : Int32 → MEM → Prop) : Prop := KD o = (16, 0) ∧ (wp_X6_isSlot p1 M (fun r_1 => (¬ r_1 = 0 → (wp_X6_isThere o p1 M (fun r_3 => (¬ r_3 = 0 → ((∀ M_5 : MEM, M_5 = uI M o 0 0 → ((∀ M_6 : MEM, M_6 = uI M_5 o 24 0 → (wp_X6_of o p1 1 M_6 (fun r_7 => wp_X6_prints o 32 r_7 M_6 (fun M_10 => wp_X6_of o p1 2 M_10 (fun r_11 => wp_X6_prints o 47 r_11 M_10 (fun M_14 => wp_X6_of o p1 3 M_14 (fun r_15 => wp_X6_prints o 47 r_15 M_14 (fun M_18 => wp_X6_of o p1 4 M_18 (fun r_19 => wp_X6_prints o 47 r_19 M_18 (fun M_22 => ∃ m87 : Nat, wp_X6_write_L87 o p1 Q m87 0 M_22)))))))))))))) ∧ (r_3 = 0 → (wp_X6_fails o 2 M (fun r_39 M_40 => Q r_39 M_40)))))) ∧ (r_1 = 0 → (wp_X6_fails o 1 M (fun r_41 M_42 => Q r_41 M_42)))))
set_option maxRecDepth 100000 in
set_option maxHeartbeats 4000000 in
theorem met_X6_write {l : Launch} (hl : l.stackTraces = false) {E : MK} {o : Nat} {p1 : Int32} {M : MEM} {Q : Int32 → MEM → Prop} (hw : wp_X6_write o p1 M Q) : gMet l E yX6_write rmX6_write [gR E o, .int p1] M (qI Q) gNo := by
  obtain ⟨hk0, hw⟩ := hw
  refine g_met hl (cc := cX6_write) (maxL := 4) (ret := (some .int)) (hh := []) (loc := [(0, gR E o), (1, .int p1)]) (by decide +kernel) (Or.inl ⟨tw1436, rfl⟩) (Nat.le_of_ble_eq_true rfl) rfl (fun K hK C => ?_)
  have C : GC K E cX6_write RX6 4 (some .int) [] rmX6_write := C
  refine g_iload_n C dX6_write_0 1 rfl rfl ?_
  refine g_cS C dX6_write_1 (met_X6_isSlot C.st hw) (gc_X6_isSlot _ (Nat.le_of_ble_eq_true rfl) (Nat.le_of_ble_eq_true rfl)) (Or.inl tw1128) tw1129 rfl (Nat.le_of_ble_eq_true rfl) (c2 := 0) (s2 := 0) rfl rfl (Nat.le_of_ble_eq_true rfl) (Nat.le_of_ble_eq_true rfl) rfl (kIp (fun r_1 hw => ?_)) tNo
  refine g_if_ne C dX6_write_4 (tgt := 13) (by decide) (fun c4 => ?_) (fun c4 => ?_)
  · have hw := hw.1 c4
    refine g_aload_n C dX6_write_13 0 rfl rfl ?_
    refine g_iload_n C dX6_write_14 1 rfl rfl ?_
    refine g_cV C dX6_write_15 (met_X6_isThere C.st hw) (gc_X6_isThere _ (Nat.le_of_ble_eq_true rfl) (Nat.le_of_ble_eq_true rfl)) tw1152 tw1154 twp31 (ci := 6) rfl (by decide) hk0 rfl (Nat.le_of_ble_eq_true rfl) (c2 := 0) (s2 := 0) rfl rfl (Nat.le_of_ble_eq_true rfl) (Nat.le_of_ble_eq_true rfl) rfl (kIp (fun r_3 hw => ?_)) tNo
    refine g_if_ne C dX6_write_18 (tgt := 27) (by decide) (fun c18 => ?_) (fun c18 => ?_)
    · have hw := hw.1 c18
      refine g_aload_n C dX6_write_27 0 rfl rfl ?_
      refine g_iconst C dX6_write_28 (v := 0) rfl ?_
      refine pf_RX6_57 C hk0 dX6_write_29 ?_
      refine g_nmM (fun M_5 eM_5 => ?_)
      have hw := hw M_5 eM_5
      refine g_aload_n C dX6_write_32 0 rfl rfl ?_
      refine g_iconst C dX6_write_33 (v := 0) rfl ?_
      refine pf_RX6_305 C hk0 dX6_write_34 ?_
      refine g_nmM (fun M_6 eM_6 => ?_)
      have hw := hw M_6 eM_6
      refine g_aload_n C dX6_write_37 0 rfl rfl ?_
      refine g_bipush C dX6_write_38 (v := 32) rfl ?_
      refine g_aload_n C dX6_write_40 0 rfl rfl ?_
      refine g_iload_n C dX6_write_41 1 rfl rfl ?_
      refine g_iconst C dX6_write_42 (v := 1) rfl ?_
      refine g_cV C dX6_write_43 (met_X6_of C.st hw) (gc_X6_of _ (Nat.le_of_ble_eq_true rfl) (Nat.le_of_ble_eq_true rfl)) tw1160 tw1162 twp33 (ci := 6) rfl (by decide) hk0 rfl (Nat.le_of_ble_eq_true rfl) (c2 := 0) (s2 := 0) rfl rfl (Nat.le_of_ble_eq_true rfl) (Nat.le_of_ble_eq_true rfl) rfl (kIp (fun r_7 hw => ?_)) tNo
      refine g_cV C dX6_write_46 (met_X6_prints C.st hw) (gc_X6_prints _ (Nat.le_of_ble_eq_true rfl) (Nat.le_of_ble_eq_true rfl)) tw1437 tw1439 twp67 (ci := 6) rfl (by decide) hk0 rfl (Nat.le_of_ble_eq_true rfl) (c2 := 0) (s2 := 0) rfl rfl (Nat.le_of_ble_eq_true rfl) (Nat.le_of_ble_eq_true rfl) rfl (kV (fun M_10 hw => ?_)) tNo
      refine g_aload_n C dX6_write_49 0 rfl rfl ?_
      refine g_bipush C dX6_write_50 (v := 47) rfl ?_
      refine g_aload_n C dX6_write_52 0 rfl rfl ?_
      refine g_iload_n C dX6_write_53 1 rfl rfl ?_
      refine g_iconst C dX6_write_54 (v := 2) rfl ?_
      refine g_cV C dX6_write_55 (met_X6_of C.st hw) (gc_X6_of _ (Nat.le_of_ble_eq_true rfl) (Nat.le_of_ble_eq_true rfl)) tw1160 tw1162 twp33 (ci := 6) rfl (by decide) hk0 rfl (Nat.le_of_ble_eq_true rfl) (c2 := 0) (s2 := 0) rfl rfl (Nat.le_of_ble_eq_true rfl) (Nat.le_of_ble_eq_true rfl) rfl (kIp (fun r_11 hw => ?_)) tNo
      refine g_cV C dX6_write_58 (met_X6_prints C.st hw) (gc_X6_prints _ (Nat.le_of_ble_eq_true rfl) (Nat.le_of_ble_eq_true rfl)) tw1437 tw1439 twp67 (ci := 6) rfl (by decide) hk0 rfl (Nat.le_of_ble_eq_true rfl) (c2 := 0) (s2 := 0) rfl rfl (Nat.le_of_ble_eq_true rfl) (Nat.le_of_ble_eq_true rfl) rfl (kV (fun M_14 hw => ?_)) tNo
      refine g_aload_n C dX6_write_61 0 rfl rfl ?_
      refine g_bipush C dX6_write_62 (v := 47) rfl ?_
      refine g_aload_n C dX6_write_64 0 rfl rfl ?_
      refine g_iload_n C dX6_write_65 1 rfl rfl ?_
      refine g_iconst C dX6_write_66 (v := 3) rfl ?_
      refine g_cV C dX6_write_67 (met_X6_of C.st hw) (gc_X6_of _ (Nat.le_of_ble_eq_true rfl) (Nat.le_of_ble_eq_true rfl)) tw1160 tw1162 twp33 (ci := 6) rfl (by decide) hk0 rfl (Nat.le_of_ble_eq_true rfl) (c2 := 0) (s2 := 0) rfl rfl (Nat.le_of_ble_eq_true rfl) (Nat.le_of_ble_eq_true rfl) rfl (kIp (fun r_15 hw => ?_)) tNo
      refine g_cV C dX6_write_70 (met_X6_prints C.st hw) (gc_X6_prints _ (Nat.le_of_ble_eq_true rfl) (Nat.le_of_ble_eq_true rfl)) tw1437 tw1439 twp67 (ci := 6) rfl (by decide) hk0 rfl (Nat.le_of_ble_eq_true rfl) (c2 := 0) (s2 := 0) rfl rfl (Nat.le_of_ble_eq_true rfl) (Nat.le_of_ble_eq_true rfl) rfl (kV (fun M_18 hw => ?_)) tNo
      refine g_aload_n C dX6_write_73 0 rfl rfl ?_
      refine g_bipush C dX6_write_74 (v := 47) rfl ?_
      refine g_aload_n C dX6_write_76 0 rfl rfl ?_
      refine g_iload_n C dX6_write_77 1 rfl rfl ?_
      refine g_iconst C dX6_write_78 (v := 4) rfl ?_
      refine g_cV C dX6_write_79 (met_X6_of C.st hw) (gc_X6_of _ (Nat.le_of_ble_eq_true rfl) (Nat.le_of_ble_eq_true rfl)) tw1160 tw1162 twp33 (ci := 6) rfl (by decide) hk0 rfl (Nat.le_of_ble_eq_true rfl) (c2 := 0) (s2 := 0) rfl rfl (Nat.le_of_ble_eq_true rfl) (Nat.le_of_ble_eq_true rfl) rfl (kIp (fun r_19 hw => ?_)) tNo
      refine g_cV C dX6_write_82 (met_X6_prints C.st hw) (gc_X6_prints _ (Nat.le_of_ble_eq_true rfl) (Nat.le_of_ble_eq_true rfl)) tw1437 tw1439 twp67 (ci := 6) rfl (by decide) hk0 rfl (Nat.le_of_ble_eq_true rfl) (c2 := 0) (s2 := 0) rfl rfl (Nat.le_of_ble_eq_true rfl) (Nat.le_of_ble_eq_true rfl) rfl (kV (fun M_22 hw => ?_)) tNo
      refine g_iconst C dX6_write_85 (v := 0) rfl ?_
      refine g_istore_n C dX6_write_86 rfl (Nat.le_of_ble_eq_true rfl) (loc' := [(2, .int 0), (0, gR E o), (1, .int p1)]) rfl ?_
      obtain ⟨m87, hw⟩ := hw
      have hL87 : ∀ (n87 : Nat) (x2_23 : Int32) (M_24 : MEM), wp_X6_write_L87 o p1 Q n87 x2_23 M_24 → GX K E 4 M_24 [(0, gR E o), (1, .int p1), (2, .int x2_23)] [] 87 0 0 (gEnd K E (qI Q) gNo rmX6_write.cells rmX6_write.slots) := by
        intro n87
        induction n87 with
        | zero => intro _ _ hw; exact False.elim hw
        | succ n87 ih87 =>
          intro x2_23 M_24 hw
          refine g_iload_n C dX6_write_87 2 rfl rfl ?_
          refine g_aload_n C dX6_write_88 0 rfl rfl ?_
          refine g_iload_n C dX6_write_89 1 rfl rfl ?_
          refine g_cV C dX6_write_90 (met_X6_many C.st hw) (gc_X6_many _ (Nat.le_of_ble_eq_true rfl) (Nat.le_of_ble_eq_true rfl)) tw1156 tw1158 twp32 (ci := 6) rfl (by decide) hk0 rfl (Nat.le_of_ble_eq_true rfl) (c2 := 0) (s2 := 0) rfl rfl (Nat.le_of_ble_eq_true rfl) (Nat.le_of_ble_eq_true rfl) rfl (kIp (fun r_25 hw => ?_)) tNo
          refine g_icmp_ge C dX6_write_93 (tgt := 141) (by decide) (fun c93 => ?_) (fun c93 => ?_)
          · have hw := hw.1 c93
            refine g_aload_n C dX6_write_141 0 rfl rfl ?_
            refine gf_RX6_305 C hk0 dX6_write_142 ?_
            exact g_iret C dX6_write_145 (Nat.le_of_ble_eq_true rfl) (Nat.le_of_ble_eq_true rfl) ⟨_, rfl, hw⟩
          · have hw := hw.2 c93
            refine g_aload_n C dX6_write_96 0 rfl rfl ?_
            refine g_bipush C dX6_write_97 (v := 59) rfl ?_
            refine g_aload_n C dX6_write_99 0 rfl rfl ?_
            refine g_iload_n C dX6_write_100 1 rfl rfl ?_
            refine g_iload_n C dX6_write_101 2 rfl rfl ?_
            refine g_iconst C dX6_write_102 (v := 0) rfl ?_
            refine g_cV C dX6_write_103 (met_X6_item C.st hw) (gc_X6_item _ (Nat.le_of_ble_eq_true rfl) (Nat.le_of_ble_eq_true rfl)) tw1197 tw1199 twp38 (ci := 6) rfl (by decide) hk0 rfl (Nat.le_of_ble_eq_true rfl) (c2 := 0) (s2 := 0) rfl rfl (Nat.le_of_ble_eq_true rfl) (Nat.le_of_ble_eq_true rfl) rfl (kIp (fun r_27 hw => ?_)) tNo
            refine g_cV C dX6_write_106 (met_X6_prints C.st hw) (gc_X6_prints _ (Nat.le_of_ble_eq_true rfl) (Nat.le_of_ble_eq_true rfl)) tw1437 tw1439 twp67 (ci := 6) rfl (by decide) hk0 rfl (Nat.le_of_ble_eq_true rfl) (c2 := 0) (s2 := 0) rfl rfl (Nat.le_of_ble_eq_true rfl) (Nat.le_of_ble_eq_true rfl) rfl (kV (fun M_30 hw => ?_)) tNo
            refine g_iconst C dX6_write_109 (v := 1) rfl ?_
            refine g_istore_n C dX6_write_110 rfl (Nat.le_of_ble_eq_true rfl) (loc' := [(3, .int 1), (0, gR E o), (1, .int p1), (2, .int x2_23)]) rfl ?_
            obtain ⟨m111, hw⟩ := hw
            have hL111 : ∀ (n111 : Nat) (x3_31 : Int32) (M_32 : MEM), wp_X6_write_L111 o p1 (wp_X6_write_L87 o p1 Q n87) x2_23 n111 x3_31 M_32 → GX K E 4 M_32 [(0, gR E o), (1, .int p1), (2, .int x2_23), (3, .int x3_31)] [] 111 0 0 (gEnd K E (qI Q) gNo rmX6_write.cells rmX6_write.slots) := by
              intro n111
              induction n111 with
              | zero => intro _ _ hw; exact False.elim hw
              | succ n111 ih111 =>
                intro x3_31 M_32 hw
                refine g_iload_n C dX6_write_111 3 rfl rfl ?_
                refine g_iconst C dX6_write_112 (v := 5) rfl ?_
                refine g_icmp_ge C dX6_write_113 (tgt := 135) (by decide) (fun c113 => ?_) (fun c113 => ?_)
                · have hw := hw.1 c113
                  obtain ⟨x2_33, ex2_33⟩ : ∃ y : Int32, y = x2_23 + 1 := ⟨_, rfl⟩
                  have hw := hw x2_33 ex2_33
                  refine g_iinc C (j := 0) dX6_write_135 2 rfl (v := x2_33) (by rw [ex2_33]; rfl) (Nat.le_of_ble_eq_true rfl) (loc' := [(2, .int x2_33), (0, gR E o), (1, .int p1), (3, .int x3_31)]) rfl ?_
                  refine g_goto C dX6_write_138 (tgt := 87) (by decide) ?_
                  refine g_sub [1, 2, 0] rfl ?_
                  exact ih87 _ _ hw
                · have hw := hw.2 c113
                  refine g_aload_n C dX6_write_116 0 rfl rfl ?_
                  refine g_bipush C dX6_write_117 (v := 44) rfl ?_
                  refine g_aload_n C dX6_write_119 0 rfl rfl ?_
                  refine g_iload_n C dX6_write_120 1 rfl rfl ?_
                  refine g_iload_n C dX6_write_121 2 rfl rfl ?_
                  refine g_iload_n C dX6_write_122 3 rfl rfl ?_
                  refine g_cV C dX6_write_123 (met_X6_item C.st hw) (gc_X6_item _ (Nat.le_of_ble_eq_true rfl) (Nat.le_of_ble_eq_true rfl)) tw1197 tw1199 twp38 (ci := 6) rfl (by decide) hk0 rfl (Nat.le_of_ble_eq_true rfl) (c2 := 0) (s2 := 0) rfl rfl (Nat.le_of_ble_eq_true rfl) (Nat.le_of_ble_eq_true rfl) rfl (kIp (fun r_34 hw => ?_)) tNo
                  refine g_cV C dX6_write_126 (met_X6_prints C.st hw) (gc_X6_prints _ (Nat.le_of_ble_eq_true rfl) (Nat.le_of_ble_eq_true rfl)) tw1437 tw1439 twp67 (ci := 6) rfl (by decide) hk0 rfl (Nat.le_of_ble_eq_true rfl) (c2 := 0) (s2 := 0) rfl rfl (Nat.le_of_ble_eq_true rfl) (Nat.le_of_ble_eq_true rfl) rfl (kV (fun M_37 hw => ?_)) tNo
                  obtain ⟨x3_38, ex3_38⟩ : ∃ y : Int32, y = x3_31 + 1 := ⟨_, rfl⟩
                  have hw := hw x3_38 ex3_38
                  refine g_iinc C (j := 0) dX6_write_129 3 rfl (v := x3_38) (by rw [ex3_38]; rfl) (Nat.le_of_ble_eq_true rfl) (loc' := [(3, .int x3_38), (0, gR E o), (1, .int p1), (2, .int x2_23)]) rfl ?_
                  refine g_goto C dX6_write_132 (tgt := 111) (by decide) ?_
                  refine g_sub [1, 2, 3, 0] rfl ?_
                  exact ih111 _ _ hw
            refine g_sub [1, 2, 3, 0] rfl ?_
            exact hL111 m111 _ _ hw
      refine g_sub [1, 2, 0] rfl ?_
      exact hL87 m87 _ _ hw
    · have hw := hw.2 c18
      refine g_aload_n C dX6_write_21 0 rfl rfl ?_
      refine g_iconst C dX6_write_22 (v := 2) rfl ?_
      refine g_cV C dX6_write_23 (met_X6_fails C.st hw) (gc_X6_fails _ (Nat.le_of_ble_eq_true rfl) (Nat.le_of_ble_eq_true rfl)) tw1131 tw1133 twp28 (ci := 6) rfl (by decide) hk0 rfl (Nat.le_of_ble_eq_true rfl) (c2 := 0) (s2 := 0) rfl rfl (Nat.le_of_ble_eq_true rfl) (Nat.le_of_ble_eq_true rfl) rfl (kI (fun r_39 M_40 hw => ?_)) tNo
      exact g_iret C dX6_write_26 (Nat.le_of_ble_eq_true rfl) (Nat.le_of_ble_eq_true rfl) ⟨_, rfl, hw⟩
  · have hw := hw.2 c4
    refine g_aload_n C dX6_write_7 0 rfl rfl ?_
    refine g_iconst C dX6_write_8 (v := 1) rfl ?_
    refine g_cV C dX6_write_9 (met_X6_fails C.st hw) (gc_X6_fails _ (Nat.le_of_ble_eq_true rfl) (Nat.le_of_ble_eq_true rfl)) tw1131 tw1133 twp28 (ci := 6) rfl (by decide) hk0 rfl (Nat.le_of_ble_eq_true rfl) (c2 := 0) (s2 := 0) rfl rfl (Nat.le_of_ble_eq_true rfl) (Nat.le_of_ble_eq_true rfl) rfl (kI (fun r_41 M_42 hw => ?_)) tNo
    exact g_iret C dX6_write_12 (Nat.le_of_ble_eq_true rfl) (Nat.le_of_ble_eq_true rfl) ⟨_, rfl, hw⟩
theorem gc_X6_write : ∀ rm : Room, rmX6_write.frames + 1 ≤ rm.frames → 8 + (4 + 11) + rmX6_write.locals ≤ rm.locals → gCall yX6_write 4 1 rmX6_write rm := fun rm a b => ⟨Or.inl ⟨_, _, tw1436⟩, tw8, ⟨by decide, by decide⟩, by decide, a, b⟩
abbrev rmX6_text : Room := { frames := 1, cells := 0, slots := 0, locals := 25 }
def wp_X6_text_J22 (o : Nat) (p1 : Int32) (M : MEM) (Q : Int32 → MEM → Prop) (s_3 : Int32) : Prop := (∀ M_4 : MEM, M_4 = uI M o 0 s_3 → ((¬ (mI M_4 o 0) = 0 → (Q 0 M_4)) ∧ ((mI M_4 o 0) = 0 → (KD (RF o 20) = (0, 1400) ∧ vp_in p1 1400 ∧ (gC (gch (mI M_4 (RF o 20) p1.toNatClampNeg)) ∧ Q (gch (mI M_4 (RF o 20) p1.toNatClampNeg)) M_4)))))
def wp_X6_text (o : Nat) (p1 : Int32) (M : MEM) (Q : Int32 → MEM → Prop) : Prop := KD o = (16, 0) ∧ (wp_X6_isBetween p1.toInt64 0 (((mI M o 24) - 1 : Int32).toInt64) M (fun r_1 => (r_1 = 0 → (wp_X6_text_J22 o p1 M Q 1)) ∧ (¬ r_1 = 0 → (wp_X6_text_J22 o p1 M Q 0))))
set_option maxRecDepth 100000 in
set_option maxHeartbeats 4000000 in
theorem met_X6_text {l : Launch} (hl : l.stackTraces = false) {E : MK} {o : Nat} {p1 : Int32} {M : MEM} {Q : Int32 → MEM → Prop} (hw : wp_X6_text o p1 M Q) : gMet l E yX6_text rmX6_text [gR E o, .int p1] M (qI Q) gNo := by
  obtain ⟨hk0, hw⟩ := hw
  refine g_met hl (cc := cX6_text) (maxL := 2) (ret := (some .char)) (hh := []) (loc := [(0, gR E o), (1, .int p1)]) (by decide +kernel) (Or.inl ⟨tw1449, rfl⟩) (Nat.le_of_ble_eq_true rfl) rfl (fun K hK C => ?_)
  have C : GC K E cX6_text RX6 2 (some .char) [] rmX6_text := C
  refine g_aload_n C dX6_text_0 0 rfl rfl ?_
  refine g_iload_n C dX6_text_1 1 rfl rfl ?_
  refine g_i2l C dX6_text_2 ?_
  refine g_lconst C dX6_text_3 (v := 0) rfl ?_
  refine g_aload_n C dX6_text_4 0 rfl rfl ?_
  refine gf_RX6_305 C hk0 dX6_text_5 ?_
  refine g_iconst C dX6_text_8 (v := 1) rfl ?_
  refine g_isub C dX6_text_9 ?_
  refine g_i2l C dX6_text_10 ?_
  refine g_cS C dX6_text_11 (met_X6_isBetween C.st hw) (gc_X6_isBetween _ (Nat.le_of_ble_eq_true rfl) (Nat.le_of_ble_eq_true rfl)) (Or.inl tw1139) tw1140 rfl (Nat.le_of_ble_eq_true rfl) (c2 := 0) (s2 := 0) rfl rfl (Nat.le_of_ble_eq_true rfl) (Nat.le_of_ble_eq_true rfl) rfl (kIp (fun r_1 hw => ?_)) tNo
  have hJ22 : ∀ (s_3 : Int32), wp_X6_text_J22 o p1 M Q s_3 → GX K E 2 M [(0, gR E o), (1, .int p1)] [.int s_3, gR E o] 22 0 0 (gEnd K E (qI Q) gNo rmX6_text.cells rmX6_text.slots) := by
    intro s_3 hw
    refine pf_RX6_57 C hk0 dX6_text_22 ?_
    refine g_nmM (fun M_4 eM_4 => ?_)
    have hw := hw M_4 eM_4
    refine g_aload_n C dX6_text_25 0 rfl rfl ?_
    refine gf_RX6_57 C hk0 dX6_text_26 ?_
    refine g_if_ne C dX6_text_29 (tgt := 42) (by decide) (fun c29 => ?_) (fun c29 => ?_)
    · have hw := hw.1 c29
      refine g_iconst C dX6_text_42 (v := 0) rfl ?_
      exact g_zret C dX6_text_43 rfl (Nat.le_of_ble_eq_true rfl) (Nat.le_of_ble_eq_true rfl) ⟨_, rfl, hw⟩
    · have hw := hw.2 c29
      refine g_aload_n C dX6_text_32 0 rfl rfl ?_
      refine gf_RX6_48 C hk0 dX6_text_33 ?_
      refine g_iload_n C dX6_text_36 1 rfl rfl ?_
      obtain ⟨hk_5, hw⟩ := hw
      obtain ⟨hi_6, hw⟩ := hw
      refine g_iaload C hk_5 hi_6 dX6_text_37 ?_
      refine g_i2c C dX6_text_38 ?_
      refine g_goto C dX6_text_39 (tgt := 43) (by decide) ?_
      obtain ⟨hc_7, hw⟩ := hw
      exact g_zret C dX6_text_43 hc_7 (Nat.le_of_ble_eq_true rfl) (Nat.le_of_ble_eq_true rfl) ⟨_, rfl, hw⟩
  refine g_if_eq C dX6_text_14 (tgt := 21) (by decide) (fun c14 => ?_) (fun c14 => ?_)
  · have hw := hw.1 c14
    refine g_iconst C dX6_text_21 (v := 1) rfl ?_
    exact hJ22 _ hw
  · have hw := hw.2 c14
    refine g_iconst C dX6_text_17 (v := 0) rfl ?_
    refine g_goto C dX6_text_18 (tgt := 22) (by decide) ?_
    exact hJ22 _ hw
theorem gc_X6_text : ∀ rm : Room, rmX6_text.frames + 1 ≤ rm.frames → 8 + (2 + 11) + rmX6_text.locals ≤ rm.locals → gCall yX6_text 2 1 rmX6_text rm := fun rm a b => ⟨Or.inl ⟨_, _, tw1449⟩, tw8, ⟨by decide, by decide⟩, by decide, a, b⟩
abbrev rmX6_undo : Room := { frames := 1, cells := 0, slots := 0, locals := 21 }
def wp_X6_undo_L30 (o : Nat) (Q : Int32 → MEM → Prop) : Nat → Int32 → MEM → Prop
  | 0, _, _ => False
  | n30 + 1, x1_3, M_4 => (1241 ≤ x1_3 → (Q (mI M_4 o 27) M_4)) ∧ (¬ 1241 ≤ x1_3 → (KD (RF o 25) = (0, 12410) ∧ vp_in ((1241 * (mI M_4 o 27)) + x1_3) 12410 ∧ ((KD (RF o 1) = (0, 1241) ∧ (vp_in x1_3 1241 ∧ (∀ M_9 : MEM, M_9 = uI M_4 (RF o 1) x1_3.toNatClampNeg (mI M_4 (RF o 25) ((1241 * (mI M_4 o 27)) + x1_3).toNatClampNeg) → (∀ x1_10 : Int32, x1_10 = x1_3 + 1 → ((wp_X6_undo_L30 o Q n30) x1_10 M_9))))))))
def wp_X6_undo (o : Nat) (M : MEM) (Q : Int32 → MEM → Prop) : Prop := KD o = (16, 0) ∧ ((¬ (mI M o 27) = 0 → ((∀ M_1 : MEM, M_1 = uI M o 0 0 → ((∀ M_2 : MEM, M_2 = uI M_1 o 27 ((mI M_1 o 27) - 1) → (∃ m30 : Nat, wp_X6_undo_L30 o Q m30 0 M_2)))))) ∧ ((mI M o 27) = 0 → (wp_X6_fails o 1 M (fun r_11 M_12 => Q r_11 M_12))))
set_option maxRecDepth 100000 in
set_option maxHeartbeats 4000000 in
theorem met_X6_undo {l : Launch} (hl : l.stackTraces = false) {E : MK} {o : Nat} {M : MEM} {Q : Int32 → MEM → Prop} (hw : wp_X6_undo o M Q) : gMet l E yX6_undo rmX6_undo [gR E o] M (qI Q) gNo := by
  obtain ⟨hk0, hw⟩ := hw
  refine g_met hl (cc := cX6_undo) (maxL := 2) (ret := (some .int)) (hh := []) (loc := [(0, gR E o)]) (by decide +kernel) (Or.inl ⟨tw1453, rfl⟩) (Nat.le_of_ble_eq_true rfl) rfl (fun K hK C => ?_)
  have C : GC K E cX6_undo RX6 2 (some .int) [] rmX6_undo := C
  refine g_aload_n C dX6_undo_0 0 rfl rfl ?_
  refine gf_RX6_312 C hk0 dX6_undo_1 ?_
  refine g_if_ne C dX6_undo_4 (tgt := 13) (by decide) (fun c4 => ?_) (fun c4 => ?_)
  · have hw := hw.1 c4
    refine g_aload_n C dX6_undo_13 0 rfl rfl ?_
    refine g_iconst C dX6_undo_14 (v := 0) rfl ?_
    refine pf_RX6_57 C hk0 dX6_undo_15 ?_
    refine g_nmM (fun M_1 eM_1 => ?_)
    have hw := hw M_1 eM_1
    refine g_aload_n C dX6_undo_18 0 rfl rfl ?_
    refine g_dup C dX6_undo_19 rfl ?_
    refine gf_RX6_312 C hk0 dX6_undo_20 ?_
    refine g_iconst C dX6_undo_23 (v := 1) rfl ?_
    refine g_isub C dX6_undo_24 ?_
    refine pf_RX6_312 C hk0 dX6_undo_25 ?_
    refine g_nmM (fun M_2 eM_2 => ?_)
    have hw := hw M_2 eM_2
    refine g_iconst C dX6_undo_28 (v := 0) rfl ?_
    refine g_istore_n C dX6_undo_29 rfl (Nat.le_of_ble_eq_true rfl) (loc' := [(1, .int 0), (0, gR E o)]) rfl ?_
    obtain ⟨m30, hw⟩ := hw
    have hL30 : ∀ (n30 : Nat) (x1_3 : Int32) (M_4 : MEM), wp_X6_undo_L30 o Q n30 x1_3 M_4 → GX K E 2 M_4 [(0, gR E o), (1, .int x1_3)] [] 30 0 0 (gEnd K E (qI Q) gNo rmX6_undo.cells rmX6_undo.slots) := by
      intro n30
      induction n30 with
      | zero => intro _ _ hw; exact False.elim hw
      | succ n30 ih30 =>
        intro x1_3 M_4 hw
        refine g_iload_n C dX6_undo_30 1 rfl rfl ?_
        refine g_sipush C dX6_undo_31 (v := 1241) rfl ?_
        refine g_icmp_ge C dX6_undo_34 (tgt := 64) (by decide) (fun c34 => ?_) (fun c34 => ?_)
        · have hw := hw.1 c34
          refine g_aload_n C dX6_undo_64 0 rfl rfl ?_
          refine gf_RX6_312 C hk0 dX6_undo_65 ?_
          exact g_iret C dX6_undo_68 (Nat.le_of_ble_eq_true rfl) (Nat.le_of_ble_eq_true rfl) ⟨_, rfl, hw⟩
        · have hw := hw.2 c34
          refine g_aload_n C dX6_undo_37 0 rfl rfl ?_
          refine gf_RX6_7 C hk0 dX6_undo_38 ?_
          refine g_iload_n C dX6_undo_41 1 rfl rfl ?_
          refine g_aload_n C dX6_undo_42 0 rfl rfl ?_
          refine gf_RX6_51 C hk0 dX6_undo_43 ?_
          refine g_sipush C dX6_undo_46 (v := 1241) rfl ?_
          refine g_aload_n C dX6_undo_49 0 rfl rfl ?_
          refine gf_RX6_312 C hk0 dX6_undo_50 ?_
          refine g_imul C dX6_undo_53 ?_
          refine g_iload_n C dX6_undo_54 1 rfl rfl ?_
          refine g_iadd C dX6_undo_55 ?_
          obtain ⟨hk_5, hw⟩ := hw
          obtain ⟨hi_6, hw⟩ := hw
          refine g_iaload C hk_5 hi_6 dX6_undo_56 ?_
          obtain ⟨hk_7, hw⟩ := hw
          obtain ⟨hi_8, hw⟩ := hw
          refine g_iastore C hk_7 hi_8 dX6_undo_57 ?_
          refine g_nmM (fun M_9 eM_9 => ?_)
          have hw := hw M_9 eM_9
          obtain ⟨x1_10, ex1_10⟩ : ∃ y : Int32, y = x1_3 + 1 := ⟨_, rfl⟩
          have hw := hw x1_10 ex1_10
          refine g_iinc C (j := 0) dX6_undo_58 1 rfl (v := x1_10) (by rw [ex1_10]; rfl) (Nat.le_of_ble_eq_true rfl) (loc' := [(1, .int x1_10), (0, gR E o)]) rfl ?_
          refine g_goto C dX6_undo_61 (tgt := 30) (by decide) ?_
          refine g_sub [1, 0] rfl ?_
          exact ih30 _ _ hw
    refine g_sub [1, 0] rfl ?_
    exact hL30 m30 _ _ hw
  · have hw := hw.2 c4
    refine g_aload_n C dX6_undo_7 0 rfl rfl ?_
    refine g_iconst C dX6_undo_8 (v := 1) rfl ?_
    refine g_cV C dX6_undo_9 (met_X6_fails C.st hw) (gc_X6_fails _ (Nat.le_of_ble_eq_true rfl) (Nat.le_of_ble_eq_true rfl)) tw1131 tw1133 twp28 (ci := 6) rfl (by decide) hk0 rfl (Nat.le_of_ble_eq_true rfl) (c2 := 0) (s2 := 0) rfl rfl (Nat.le_of_ble_eq_true rfl) (Nat.le_of_ble_eq_true rfl) rfl (kI (fun r_11 M_12 hw => ?_)) tNo
    exact g_iret C dX6_undo_12 (Nat.le_of_ble_eq_true rfl) (Nat.le_of_ble_eq_true rfl) ⟨_, rfl, hw⟩
theorem gc_X6_undo : ∀ rm : Room, rmX6_undo.frames + 1 ≤ rm.frames → 8 + (2 + 11) + rmX6_undo.locals ≤ rm.locals → gCall yX6_undo 2 0 rmX6_undo rm := fun rm a b => ⟨Or.inl ⟨_, _, tw1453⟩, tw8, ⟨by decide, by decide⟩, by decide, a, b⟩
abbrev rmX6_there : Room := { frames := 0, cells := 0, slots := 0, locals := 0 }
def wp_X6_there (o : Nat) (M : MEM) (Q : Int32 → Prop) : Prop := KD o = (16, 0) ∧ (KD (RF o 1) = (0, 1241) ∧ (Q ((((mI M (RF o 1) 0) + (mI M (RF o 1) 310)) + (mI M (RF o 1) 620)) + (mI M (RF o 1) 930))))
set_option maxRecDepth 100000 in
set_option maxHeartbeats 4000000 in
theorem met_X6_there {l : Launch} (hl : l.stackTraces = false) {E : MK} {o : Nat} {M : MEM} {Q : Int32 → Prop} (hw : wp_X6_there o M Q) : gMet l E yX6_there rmX6_there [gR E o] M (qIp M Q) gNo := by
  obtain ⟨hk0, hw⟩ := hw
  refine g_met hl (cc := cX6_there) (maxL := 1) (ret := (some .int)) (hh := []) (loc := [(0, gR E o)]) (by decide +kernel) (Or.inl ⟨tw1461, rfl⟩) (Nat.le_of_ble_eq_true rfl) rfl (fun K hK C => ?_)
  have C : GC K E cX6_there RX6 1 (some .int) [] rmX6_there := C
  refine g_aload_n C dX6_there_0 0 rfl rfl ?_
  refine gf_RX6_7 C hk0 dX6_there_1 ?_
  refine g_iconst C dX6_there_4 (v := 0) rfl ?_
  obtain ⟨hk_1, hw⟩ := hw
  refine g_iaload C hk_1 (i := 0) (vp_lit rfl) dX6_there_5 ?_
  refine g_aload_n C dX6_there_6 0 rfl rfl ?_
  refine gf_RX6_7 C hk0 dX6_there_7 ?_
  refine g_sipush C dX6_there_10 (v := 310) rfl ?_
  refine g_iaload C hk_1 (i := 310) (vp_lit rfl) dX6_there_13 ?_
  refine g_iadd C dX6_there_14 ?_
  refine g_aload_n C dX6_there_15 0 rfl rfl ?_
  refine gf_RX6_7 C hk0 dX6_there_16 ?_
  refine g_sipush C dX6_there_19 (v := 620) rfl ?_
  refine g_iaload C hk_1 (i := 620) (vp_lit rfl) dX6_there_22 ?_
  refine g_iadd C dX6_there_23 ?_
  refine g_aload_n C dX6_there_24 0 rfl rfl ?_
  refine gf_RX6_7 C hk0 dX6_there_25 ?_
  refine g_sipush C dX6_there_28 (v := 930) rfl ?_
  refine g_iaload C hk_1 (i := 930) (vp_lit rfl) dX6_there_31 ?_
  refine g_iadd C dX6_there_32 ?_
  exact g_iret C dX6_there_33 (Nat.le_of_ble_eq_true rfl) (Nat.le_of_ble_eq_true rfl) ⟨_, rfl, rfl, hw⟩
theorem gc_X6_there : ∀ rm : Room, rmX6_there.frames + 1 ≤ rm.frames → 8 + (1 + 11) + rmX6_there.locals ≤ rm.locals → gCall yX6_there 1 0 rmX6_there rm := fun rm a b => ⟨Or.inl ⟨_, _, tw1461⟩, tw8, ⟨by decide, by decide⟩, by decide, a, b⟩
abbrev rmX6_save : Room := { frames := 1, cells := 0, slots := 0, locals := 20 }
def wp_X6_save_L12 (o : Nat) (Q : Int32 → MEM → Prop) : Nat → Int32 → MEM → Prop
  | 0, _, _ => False
  | n12 + 1, x1_3, M_4 => (1241 ≤ x1_3 → (wp_X6_there o M_4 (fun r_5 => Q r_5 M_4))) ∧ (¬ 1241 ≤ x1_3 → (KD (RF o 1) = (0, 1241) ∧ vp_in x1_3 1241 ∧ ((KD (RF o 26) = (0, 1241) ∧ (vp_in x1_3 1241 ∧ (∀ M_11 : MEM, M_11 = uI M_4 (RF o 26) x1_3.toNatClampNeg (mI M_4 (RF o 1) x1_3.toNatClampNeg) → (∀ x1_12 : Int32, x1_12 = x1_3 + 1 → ((wp_X6_save_L12 o Q n12) x1_12 M_11))))))))
def wp_X6_save (o : Nat) (M : MEM) (Q : Int32 → MEM → Prop) : Prop := KD o = (16, 0) ∧ ((∀ M_1 : MEM, M_1 = uI M o 0 0 → ((∀ M_2 : MEM, M_2 = uI M_1 o 28 1 → (∃ m12 : Nat, wp_X6_save_L12 o Q m12 0 M_2)))))
set_option maxRecDepth 100000 in
set_option maxHeartbeats 4000000 in
theorem met_X6_save {l : Launch} (hl : l.stackTraces = false) {E : MK} {o : Nat} {M : MEM} {Q : Int32 → MEM → Prop} (hw : wp_X6_save o M Q) : gMet l E yX6_save rmX6_save [gR E o] M (qI Q) gNo := by
  obtain ⟨hk0, hw⟩ := hw
  refine g_met hl (cc := cX6_save) (maxL := 2) (ret := (some .int)) (hh := []) (loc := [(0, gR E o)]) (by decide +kernel) (Or.inl ⟨tw1457, rfl⟩) (Nat.le_of_ble_eq_true rfl) rfl (fun K hK C => ?_)
  have C : GC K E cX6_save RX6 2 (some .int) [] rmX6_save := C
  refine g_aload_n C dX6_save_0 0 rfl rfl ?_
  refine g_iconst C dX6_save_1 (v := 0) rfl ?_
  refine pf_RX6_57 C hk0 dX6_save_2 ?_
  refine g_nmM (fun M_1 eM_1 => ?_)
  have hw := hw M_1 eM_1
  refine g_aload_n C dX6_save_5 0 rfl rfl ?_
  refine g_iconst C dX6_save_6 (v := 1) rfl ?_
  refine pf_RX6_315 C hk0 gB1 dX6_save_7 ?_
  refine g_nmM (fun M_2 eM_2 => ?_)
  have hw := hw M_2 eM_2
  refine g_iconst C dX6_save_10 (v := 0) rfl ?_
  refine g_istore_n C dX6_save_11 rfl (Nat.le_of_ble_eq_true rfl) (loc' := [(1, .int 0), (0, gR E o)]) rfl ?_
  obtain ⟨m12, hw⟩ := hw
  have hL12 : ∀ (n12 : Nat) (x1_3 : Int32) (M_4 : MEM), wp_X6_save_L12 o Q n12 x1_3 M_4 → GX K E 2 M_4 [(0, gR E o), (1, .int x1_3)] [] 12 0 0 (gEnd K E (qI Q) gNo rmX6_save.cells rmX6_save.slots) := by
    intro n12
    induction n12 with
    | zero => intro _ _ hw; exact False.elim hw
    | succ n12 ih12 =>
      intro x1_3 M_4 hw
      refine g_iload_n C dX6_save_12 1 rfl rfl ?_
      refine g_sipush C dX6_save_13 (v := 1241) rfl ?_
      refine g_icmp_ge C dX6_save_16 (tgt := 37) (by decide) (fun c16 => ?_) (fun c16 => ?_)
      · have hw := hw.1 c16
        refine g_aload_n C dX6_save_37 0 rfl rfl ?_
        refine g_cV C dX6_save_38 (met_X6_there C.st hw) (gc_X6_there _ (Nat.le_of_ble_eq_true rfl) (Nat.le_of_ble_eq_true rfl)) tw1458 tw1460 twp69 (ci := 6) rfl (by decide) hk0 rfl (Nat.le_of_ble_eq_true rfl) (c2 := 0) (s2 := 0) rfl rfl (Nat.le_of_ble_eq_true rfl) (Nat.le_of_ble_eq_true rfl) rfl (kIp (fun r_5 hw => ?_)) tNo
        exact g_iret C dX6_save_41 (Nat.le_of_ble_eq_true rfl) (Nat.le_of_ble_eq_true rfl) ⟨_, rfl, hw⟩
      · have hw := hw.2 c16
        refine g_aload_n C dX6_save_19 0 rfl rfl ?_
        refine gf_RX6_54 C hk0 dX6_save_20 ?_
        refine g_iload_n C dX6_save_23 1 rfl rfl ?_
        refine g_aload_n C dX6_save_24 0 rfl rfl ?_
        refine gf_RX6_7 C hk0 dX6_save_25 ?_
        refine g_iload_n C dX6_save_28 1 rfl rfl ?_
        obtain ⟨hk_7, hw⟩ := hw
        obtain ⟨hi_8, hw⟩ := hw
        refine g_iaload C hk_7 hi_8 dX6_save_29 ?_
        obtain ⟨hk_9, hw⟩ := hw
        obtain ⟨hi_10, hw⟩ := hw
        refine g_iastore C hk_9 hi_10 dX6_save_30 ?_
        refine g_nmM (fun M_11 eM_11 => ?_)
        have hw := hw M_11 eM_11
        obtain ⟨x1_12, ex1_12⟩ : ∃ y : Int32, y = x1_3 + 1 := ⟨_, rfl⟩
        have hw := hw x1_12 ex1_12
        refine g_iinc C (j := 0) dX6_save_31 1 rfl (v := x1_12) (by rw [ex1_12]; rfl) (Nat.le_of_ble_eq_true rfl) (loc' := [(1, .int x1_12), (0, gR E o)]) rfl ?_
        refine g_goto C dX6_save_34 (tgt := 12) (by decide) ?_
        refine g_sub [1, 0] rfl ?_
        exact ih12 _ _ hw
  refine g_sub [1, 0] rfl ?_
  exact hL12 m12 _ _ hw
theorem gc_X6_save : ∀ rm : Room, rmX6_save.frames + 1 ≤ rm.frames → 8 + (2 + 11) + rmX6_save.locals ≤ rm.locals → gCall yX6_save 2 0 rmX6_save rm := fun rm a b => ⟨Or.inl ⟨_, _, tw1457⟩, tw8, ⟨by decide, by decide⟩, by decide, a, b⟩
abbrev rmX6_restore : Room := { frames := 1, cells := 0, slots := 0, locals := 21 }
def wp_X6_restore_L20 (o : Nat) (Q : Int32 → MEM → Prop) : Nat → Int32 → MEM → Prop
  | 0, _, _ => False
  | n20 + 1, x1_2, M_3 => (1241 ≤ x1_2 → ((∀ M_4 : MEM, M_4 = uI M_3 o 27 0 → (wp_X6_there o M_4 (fun r_5 => Q r_5 M_4))))) ∧ (¬ 1241 ≤ x1_2 → (KD (RF o 26) = (0, 1241) ∧ vp_in x1_2 1241 ∧ ((KD (RF o 1) = (0, 1241) ∧ (vp_in x1_2 1241 ∧ (∀ M_11 : MEM, M_11 = uI M_3 (RF o 1) x1_2.toNatClampNeg (mI M_3 (RF o 26) x1_2.toNatClampNeg) → (∀ x1_12 : Int32, x1_12 = x1_2 + 1 → ((wp_X6_restore_L20 o Q n20) x1_12 M_11))))))))
def wp_X6_restore (o : Nat) (M : MEM) (Q : Int32 → MEM → Prop) : Prop := KD o = (16, 0) ∧ ((¬ (mI M o 28) = 0 → ((∀ M_1 : MEM, M_1 = uI M o 0 0 → (∃ m20 : Nat, wp_X6_restore_L20 o Q m20 0 M_1)))) ∧ ((mI M o 28) = 0 → (wp_X6_fails o 1 M (fun r_13 M_14 => Q r_13 M_14))))
set_option maxRecDepth 100000 in
set_option maxHeartbeats 4000000 in
theorem met_X6_restore {l : Launch} (hl : l.stackTraces = false) {E : MK} {o : Nat} {M : MEM} {Q : Int32 → MEM → Prop} (hw : wp_X6_restore o M Q) : gMet l E yX6_restore rmX6_restore [gR E o] M (qI Q) gNo := by
  obtain ⟨hk0, hw⟩ := hw
  refine g_met hl (cc := cX6_restore) (maxL := 2) (ret := (some .int)) (hh := []) (loc := [(0, gR E o)]) (by decide +kernel) (Or.inl ⟨tw1465, rfl⟩) (Nat.le_of_ble_eq_true rfl) rfl (fun K hK C => ?_)
  have C : GC K E cX6_restore RX6 2 (some .int) [] rmX6_restore := C
  refine g_aload_n C dX6_restore_0 0 rfl rfl ?_
  refine gf_RX6_315 C hk0 dX6_restore_1 ?_
  refine g_if_ne C dX6_restore_4 (tgt := 13) (by decide) (fun c4 => ?_) (fun c4 => ?_)
  · have hw := hw.1 c4
    refine g_aload_n C dX6_restore_13 0 rfl rfl ?_
    refine g_iconst C dX6_restore_14 (v := 0) rfl ?_
    refine pf_RX6_57 C hk0 dX6_restore_15 ?_
    refine g_nmM (fun M_1 eM_1 => ?_)
    have hw := hw M_1 eM_1
    refine g_iconst C dX6_restore_18 (v := 0) rfl ?_
    refine g_istore_n C dX6_restore_19 rfl (Nat.le_of_ble_eq_true rfl) (loc' := [(1, .int 0), (0, gR E o)]) rfl ?_
    obtain ⟨m20, hw⟩ := hw
    have hL20 : ∀ (n20 : Nat) (x1_2 : Int32) (M_3 : MEM), wp_X6_restore_L20 o Q n20 x1_2 M_3 → GX K E 2 M_3 [(0, gR E o), (1, .int x1_2)] [] 20 0 0 (gEnd K E (qI Q) gNo rmX6_restore.cells rmX6_restore.slots) := by
      intro n20
      induction n20 with
      | zero => intro _ _ hw; exact False.elim hw
      | succ n20 ih20 =>
        intro x1_2 M_3 hw
        refine g_iload_n C dX6_restore_20 1 rfl rfl ?_
        refine g_sipush C dX6_restore_21 (v := 1241) rfl ?_
        refine g_icmp_ge C dX6_restore_24 (tgt := 45) (by decide) (fun c24 => ?_) (fun c24 => ?_)
        · have hw := hw.1 c24
          refine g_aload_n C dX6_restore_45 0 rfl rfl ?_
          refine g_iconst C dX6_restore_46 (v := 0) rfl ?_
          refine pf_RX6_312 C hk0 dX6_restore_47 ?_
          refine g_nmM (fun M_4 eM_4 => ?_)
          have hw := hw M_4 eM_4
          refine g_aload_n C dX6_restore_50 0 rfl rfl ?_
          refine g_cV C dX6_restore_51 (met_X6_there C.st hw) (gc_X6_there _ (Nat.le_of_ble_eq_true rfl) (Nat.le_of_ble_eq_true rfl)) tw1458 tw1460 twp69 (ci := 6) rfl (by decide) hk0 rfl (Nat.le_of_ble_eq_true rfl) (c2 := 0) (s2 := 0) rfl rfl (Nat.le_of_ble_eq_true rfl) (Nat.le_of_ble_eq_true rfl) rfl (kIp (fun r_5 hw => ?_)) tNo
          exact g_iret C dX6_restore_54 (Nat.le_of_ble_eq_true rfl) (Nat.le_of_ble_eq_true rfl) ⟨_, rfl, hw⟩
        · have hw := hw.2 c24
          refine g_aload_n C dX6_restore_27 0 rfl rfl ?_
          refine gf_RX6_7 C hk0 dX6_restore_28 ?_
          refine g_iload_n C dX6_restore_31 1 rfl rfl ?_
          refine g_aload_n C dX6_restore_32 0 rfl rfl ?_
          refine gf_RX6_54 C hk0 dX6_restore_33 ?_
          refine g_iload_n C dX6_restore_36 1 rfl rfl ?_
          obtain ⟨hk_7, hw⟩ := hw
          obtain ⟨hi_8, hw⟩ := hw
          refine g_iaload C hk_7 hi_8 dX6_restore_37 ?_
          obtain ⟨hk_9, hw⟩ := hw
          obtain ⟨hi_10, hw⟩ := hw
          refine g_iastore C hk_9 hi_10 dX6_restore_38 ?_
          refine g_nmM (fun M_11 eM_11 => ?_)
          have hw := hw M_11 eM_11
          obtain ⟨x1_12, ex1_12⟩ : ∃ y : Int32, y = x1_2 + 1 := ⟨_, rfl⟩
          have hw := hw x1_12 ex1_12
          refine g_iinc C (j := 0) dX6_restore_39 1 rfl (v := x1_12) (by rw [ex1_12]; rfl) (Nat.le_of_ble_eq_true rfl) (loc' := [(1, .int x1_12), (0, gR E o)]) rfl ?_
          refine g_goto C dX6_restore_42 (tgt := 20) (by decide) ?_
          refine g_sub [1, 0] rfl ?_
          exact ih20 _ _ hw
    refine g_sub [1, 0] rfl ?_
    exact hL20 m20 _ _ hw
  · have hw := hw.2 c4
    refine g_aload_n C dX6_restore_7 0 rfl rfl ?_
    refine g_iconst C dX6_restore_8 (v := 1) rfl ?_
    refine g_cV C dX6_restore_9 (met_X6_fails C.st hw) (gc_X6_fails _ (Nat.le_of_ble_eq_true rfl) (Nat.le_of_ble_eq_true rfl)) tw1131 tw1133 twp28 (ci := 6) rfl (by decide) hk0 rfl (Nat.le_of_ble_eq_true rfl) (c2 := 0) (s2 := 0) rfl rfl (Nat.le_of_ble_eq_true rfl) (Nat.le_of_ble_eq_true rfl) rfl (kI (fun r_13 M_14 hw => ?_)) tNo
    exact g_iret C dX6_restore_12 (Nat.le_of_ble_eq_true rfl) (Nat.le_of_ble_eq_true rfl) ⟨_, rfl, hw⟩
theorem gc_X6_restore : ∀ rm : Room, rmX6_restore.frames + 1 ≤ rm.frames → 8 + (2 + 11) + rmX6_restore.locals ≤ rm.locals → gCall yX6_restore 2 0 rmX6_restore rm := fun rm a b => ⟨Or.inl ⟨_, _, tw1465⟩, tw8, ⟨by decide, by decide⟩, by decide, a, b⟩
