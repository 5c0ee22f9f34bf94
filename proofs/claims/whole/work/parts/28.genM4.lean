abbrev rmX6_quantile : Room := { frames := 5, cells := 0, slots := 0, locals := 118 }
def wp_X6_quantile_L95 (o : Nat) (K70 : Int32 → MEM → Prop) (x3_10 : Int32) (r_19 : Int32) : Nat → Int32 → MEM → Prop
  | 0, _, _ => False
  | n95 + 1, x5_21, M_22 => (x5_21 ≤ 0 → ((KD (RF o 14) = (0, 60) ∧ (vp_in x5_21 60 ∧ (∀ M_25 : MEM, M_25 = uI M_22 (RF o 14) x5_21.toNatClampNeg r_19 → (∀ x3_26 : Int32, x3_26 = x3_10 + 1 → (K70 x3_26 M_25))))))) ∧ (¬ x5_21 ≤ 0 → (KD (RF o 14) = (0, 60) ∧ vp_in (x5_21 - 1) 60 ∧ (((mI M_22 (RF o 14) (x5_21 - 1).toNatClampNeg) ≤ r_19 → ((vp_in x5_21 60 ∧ (∀ M_30 : MEM, M_30 = uI M_22 (RF o 14) x5_21.toNatClampNeg r_19 → (∀ x3_31 : Int32, x3_31 = x3_10 + 1 → (K70 x3_31 M_30)))))) ∧ (¬ (mI M_22 (RF o 14) (x5_21 - 1).toNatClampNeg) ≤ r_19 → (vp_in (x5_21 - 1) 60 ∧ ((vp_in x5_21 60 ∧ (∀ M_34 : MEM, M_34 = uI M_22 (RF o 14) x5_21.toNatClampNeg (mI M_22 (RF o 14) (x5_21 - 1).toNatClampNeg) → (∀ x5_35 : Int32, x5_35 = x5_21 + (-1) → ((wp_X6_quantile_L95 o K70 x3_10 r_19 n95) x5_35 M_34))))))))))
def wp_X6_quantile_L70 (o : Nat) (p1 : Int32) (p2 : Int32) (Q : Int32 → MEM → Prop) : Nat → Int32 → MEM → Prop
  | 0, _, _ => False
  | n70 + 1, x3_10, M_11 => ((mI M_11 o 6) ≤ x3_10 → (∀ x3_12 : Int32, x3_12 = ((mI M_11 o 6) * p2) / 1000 → (((mI M_11 o 6) ≤ x3_12 → (KD (RF o 14) = (0, 60) ∧ vp_in ((mI M_11 o 6) - 1) 60 ∧ (Q (mI M_11 (RF o 14) ((mI M_11 o 6) - 1).toNatClampNeg) M_11))) ∧ (¬ (mI M_11 o 6) ≤ x3_12 → (KD (RF o 14) = (0, 60) ∧ vp_in x3_12 60 ∧ (Q (mI M_11 (RF o 14) x3_12.toNatClampNeg) M_11)))))) ∧ (¬ (mI M_11 o 6) ≤ x3_10 → (KD (RF o 3) = (0, 60) ∧ vp_in x3_10 60 ∧ (wp_X6_item o p1 (mI M_11 (RF o 3) x3_10.toNatClampNeg) 4 M_11 (fun r_19 => ∃ m95 : Nat, wp_X6_quantile_L95 o (wp_X6_quantile_L70 o p1 p2 Q n70) x3_10 r_19 m95 x3_10 M_11))))
def wp_X6_quantile (o : Nat) (p1 : Int32) (p2 : Int32) (M : MEM) (Q : Int32 → MEM → Prop) : Prop := KD o = (16, 0) ∧ (wp_X6_isSlot p1 M (fun r_1 => (¬ r_1 = 0 → (wp_X6_isBetween p2.toInt64 0 1000 M (fun r_3 => (¬ r_3 = 0 → (wp_X6_isThere o p1 M (fun r_5 => (¬ r_5 = 0 → (wp_X6_finds o p1 M (fun M_8 => (¬ (mI M_8 o 6) = 0 → ((∀ M_9 : MEM, M_9 = uI M_8 o 0 0 → (∃ m70 : Nat, wp_X6_quantile_L70 o p1 p2 Q m70 0 M_9)))) ∧ ((mI M_8 o 6) = 0 → (wp_X6_fails o 4 M_8 (fun r_36 M_37 => Q r_36 M_37)))))) ∧ (r_5 = 0 → (wp_X6_fails o 3 M (fun r_38 M_39 => Q r_38 M_39)))))) ∧ (r_3 = 0 → (wp_X6_fails o 2 M (fun r_40 M_41 => Q r_40 M_41)))))) ∧ (r_1 = 0 → (wp_X6_fails o 1 M (fun r_42 M_43 => Q r_42 M_43)))))
set_option maxRecDepth 100000 in
set_option maxHeartbeats 4000000 in
theorem met_X6_quantile {l : Launch} (hl : l.stackTraces = false) {E : MK} {o : Nat} {p1 : Int32} {p2 : Int32} {M : MEM} {Q : Int32 → MEM → Prop} (hw : wp_X6_quantile o p1 p2 M Q) : gMet l E yX6_quantile rmX6_quantile [gR E o, .int p1, .int p2] M (qI Q) gNo := by
  obtain ⟨hk0, hw⟩ := hw
  refine g_met hl (cc := cX6_quantile) (maxL := 6) (ret := (some .int)) (hh := []) (loc := [(0, gR E o), (1, .int p1), (2, .int p2)]) (by decide +kernel) (Or.inl ⟨tw1378, rfl⟩) (Nat.le_of_ble_eq_true rfl) rfl (fun K hK C => ?_)
  have C : GC K E cX6_quantile RX6 6 (some .int) [] rmX6_quantile := C
  refine g_iload_n C dX6_quantile_0 1 rfl rfl ?_
  refine g_cS C dX6_quantile_1 (met_X6_isSlot C.st hw) (gc_X6_isSlot _ (Nat.le_of_ble_eq_true rfl) (Nat.le_of_ble_eq_true rfl)) (Or.inl tw1128) tw1129 rfl (Nat.le_of_ble_eq_true rfl) (c2 := 0) (s2 := 0) rfl rfl (Nat.le_of_ble_eq_true rfl) (Nat.le_of_ble_eq_true rfl) rfl (kIp (fun r_1 hw => ?_)) tNo
  refine g_if_ne C dX6_quantile_4 (tgt := 13) (by decide) (fun c4 => ?_) (fun c4 => ?_)
  · have hw := hw.1 c4
    refine g_iload_n C dX6_quantile_13 2 rfl rfl ?_
    refine g_i2l C dX6_quantile_14 ?_
    refine g_lconst C dX6_quantile_15 (v := 0) rfl ?_
    refine g_ldc2 C dX6_quantile_16 tw1379 ?_
    refine g_cS C dX6_quantile_19 (met_X6_isBetween C.st hw) (gc_X6_isBetween _ (Nat.le_of_ble_eq_true rfl) (Nat.le_of_ble_eq_true rfl)) (Or.inl tw1139) tw1140 rfl (Nat.le_of_ble_eq_true rfl) (c2 := 0) (s2 := 0) rfl rfl (Nat.le_of_ble_eq_true rfl) (Nat.le_of_ble_eq_true rfl) rfl (kIp (fun r_3 hw => ?_)) tNo
    refine g_if_ne C dX6_quantile_22 (tgt := 31) (by decide) (fun c22 => ?_) (fun c22 => ?_)
    · have hw := hw.1 c22
      refine g_aload_n C dX6_quantile_31 0 rfl rfl ?_
      refine g_iload_n C dX6_quantile_32 1 rfl rfl ?_
      refine g_cV C dX6_quantile_33 (met_X6_isThere C.st hw) (gc_X6_isThere _ (Nat.le_of_ble_eq_true rfl) (Nat.le_of_ble_eq_true rfl)) tw1152 tw1154 twp31 (ci := 6) rfl (by decide) hk0 rfl (Nat.le_of_ble_eq_true rfl) (c2 := 0) (s2 := 0) rfl rfl (Nat.le_of_ble_eq_true rfl) (Nat.le_of_ble_eq_true rfl) rfl (kIp (fun r_5 hw => ?_)) tNo
      refine g_if_ne C dX6_quantile_36 (tgt := 45) (by decide) (fun c36 => ?_) (fun c36 => ?_)
      · have hw := hw.1 c36
        refine g_aload_n C dX6_quantile_45 0 rfl rfl ?_
        refine g_iload_n C dX6_quantile_46 1 rfl rfl ?_
        refine g_cV C dX6_quantile_47 (met_X6_finds C.st hw) (gc_X6_finds _ (Nat.le_of_ble_eq_true rfl) (Nat.le_of_ble_eq_true rfl)) tw1216 tw1218 twp40 (ci := 6) rfl (by decide) hk0 rfl (Nat.le_of_ble_eq_true rfl) (c2 := 0) (s2 := 0) rfl rfl (Nat.le_of_ble_eq_true rfl) (Nat.le_of_ble_eq_true rfl) rfl (kV (fun M_8 hw => ?_)) tNo
        refine g_aload_n C dX6_quantile_50 0 rfl rfl ?_
        refine gf_RX6_160 C hk0 dX6_quantile_51 ?_
        refine g_if_ne C dX6_quantile_54 (tgt := 63) (by decide) (fun c54 => ?_) (fun c54 => ?_)
        · have hw := hw.1 c54
          refine g_aload_n C dX6_quantile_63 0 rfl rfl ?_
          refine g_iconst C dX6_quantile_64 (v := 0) rfl ?_
          refine pf_RX6_57 C hk0 dX6_quantile_65 ?_
          refine g_nmM (fun M_9 eM_9 => ?_)
          have hw := hw M_9 eM_9
          refine g_iconst C dX6_quantile_68 (v := 0) rfl ?_
          refine g_istore_n C dX6_quantile_69 rfl (Nat.le_of_ble_eq_true rfl) (loc' := [(3, .int 0), (0, gR E o), (1, .int p1), (2, .int p2)]) rfl ?_
          obtain ⟨m70, hw⟩ := hw
          have hL70 : ∀ (n70 : Nat) (x3_10 : Int32) (M_11 : MEM), wp_X6_quantile_L70 o p1 p2 Q n70 x3_10 M_11 → GX K E 6 M_11 [(0, gR E o), (1, .int p1), (2, .int p2), (3, .int x3_10)] [] 70 0 0 (gEnd K E (qI Q) gNo rmX6_quantile.cells rmX6_quantile.slots) := by
            intro n70
            induction n70 with
            | zero => intro _ _ hw; exact False.elim hw
            | succ n70 ih70 =>
              intro x3_10 M_11 hw
              refine g_iload_n C dX6_quantile_70 3 rfl rfl ?_
              refine g_aload_n C dX6_quantile_71 0 rfl rfl ?_
              refine gf_RX6_160 C hk0 dX6_quantile_72 ?_
              refine g_icmp_ge C dX6_quantile_75 (tgt := 151) (by decide) (fun c75 => ?_) (fun c75 => ?_)
              · have hw := hw.1 c75
                refine g_aload_n C dX6_quantile_151 0 rfl rfl ?_
                refine gf_RX6_160 C hk0 dX6_quantile_152 ?_
                refine g_iload_n C dX6_quantile_155 2 rfl rfl ?_
                refine g_imul C dX6_quantile_156 ?_
                refine g_sipush C dX6_quantile_157 (v := 1000) rfl ?_
                refine g_idiv C dX6_quantile_160 (by decide) ?_
                refine g_nmI (fun x3_12 ex3_12 => ?_)
                have hw := hw x3_12 ex3_12
                refine g_istore_n C dX6_quantile_161 rfl (Nat.le_of_ble_eq_true rfl) (loc' := [(3, .int x3_12), (0, gR E o), (1, .int p1), (2, .int p2)]) rfl ?_
                refine g_aload_n C dX6_quantile_162 1 rfl rfl ?_
                refine gf_RX6_31 C hk0 dX6_quantile_163 ?_
                refine g_iload_n C dX6_quantile_166 0 rfl rfl ?_
                refine g_aload_n C dX6_quantile_167 1 rfl rfl ?_
                refine gf_RX6_160 C hk0 dX6_quantile_168 ?_
                refine g_icmp_ge C dX6_quantile_171 (tgt := 178) (by decide) (fun c171 => ?_) (fun c171 => ?_)
                · have hw := hw.1 c171
                  refine g_aload_n C dX6_quantile_178 1 rfl rfl ?_
                  refine gf_RX6_160 C hk0 dX6_quantile_179 ?_
                  refine g_iconst C dX6_quantile_182 (v := 1) rfl ?_
                  refine g_isub C dX6_quantile_183 ?_
                  obtain ⟨hk_13, hw⟩ := hw
                  obtain ⟨hi_14, hw⟩ := hw
                  refine g_iaload C hk_13 hi_14 dX6_quantile_184 ?_
                  exact g_iret C dX6_quantile_185 (Nat.le_of_ble_eq_true rfl) (Nat.le_of_ble_eq_true rfl) ⟨_, rfl, hw⟩
                · have hw := hw.2 c171
                  refine g_iload_n C dX6_quantile_174 0 rfl rfl ?_
                  refine g_goto C dX6_quantile_175 (tgt := 184) (by decide) ?_
                  obtain ⟨hk_15, hw⟩ := hw
                  obtain ⟨hi_16, hw⟩ := hw
                  refine g_iaload C hk_15 hi_16 dX6_quantile_184 ?_
                  exact g_iret C dX6_quantile_185 (Nat.le_of_ble_eq_true rfl) (Nat.le_of_ble_eq_true rfl) ⟨_, rfl, hw⟩
              · have hw := hw.2 c75
                refine g_aload_n C dX6_quantile_78 0 rfl rfl ?_
                refine g_iload_n C dX6_quantile_79 1 rfl rfl ?_
                refine g_aload_n C dX6_quantile_80 0 rfl rfl ?_
                refine gf_RX6_16 C hk0 dX6_quantile_81 ?_
                refine g_iload_n C dX6_quantile_84 3 rfl rfl ?_
                obtain ⟨hk_17, hw⟩ := hw
                obtain ⟨hi_18, hw⟩ := hw
                refine g_iaload C hk_17 hi_18 dX6_quantile_85 ?_
                refine g_iconst C dX6_quantile_86 (v := 4) rfl ?_
                refine g_cV C dX6_quantile_87 (met_X6_item C.st hw) (gc_X6_item _ (Nat.le_of_ble_eq_true rfl) (Nat.le_of_ble_eq_true rfl)) tw1197 tw1199 twp38 (ci := 6) rfl (by decide) hk0 rfl (Nat.le_of_ble_eq_true rfl) (c2 := 0) (s2 := 0) rfl rfl (Nat.le_of_ble_eq_true rfl) (Nat.le_of_ble_eq_true rfl) rfl (kIp (fun r_19 hw => ?_)) tNo
                refine g_istore C dX6_quantile_90 (Nat.le_of_ble_eq_true rfl) (loc' := [(4, .int r_19), (0, gR E o), (1, .int p1), (2, .int p2), (3, .int x3_10)]) rfl ?_
                refine g_iload_n C dX6_quantile_92 4 rfl rfl ?_
                refine g_istore C dX6_quantile_93 (Nat.le_of_ble_eq_true rfl) (loc' := [(5, .int x3_10), (4, .int r_19), (0, gR E o), (1, .int p1), (2, .int p2), (3, .int x3_10)]) rfl ?_
                obtain ⟨m95, hw⟩ := hw
                have hL95 : ∀ (n95 : Nat) (x5_21 : Int32) (M_22 : MEM), wp_X6_quantile_L95 o (wp_X6_quantile_L70 o p1 p2 Q n70) x3_10 r_19 n95 x5_21 M_22 → GX K E 6 M_22 [(0, gR E o), (1, .int p1), (2, .int p2), (3, .int x3_10), (4, .int r_19), (5, .int x5_21)] [] 95 0 0 (gEnd K E (qI Q) gNo rmX6_quantile.cells rmX6_quantile.slots) := by
                  intro n95
                  induction n95 with
                  | zero => intro _ _ hw; exact False.elim hw
                  | succ n95 ih95 =>
                    intro x5_21 M_22 hw
                    refine g_iload C (j := 0) dX6_quantile_95 5 rfl ?_
                    refine g_if_le C dX6_quantile_97 (tgt := 136) (by decide) (fun c97 => ?_) (fun c97 => ?_)
                    · have hw := hw.1 c97
                      refine g_aload_n C dX6_quantile_136 0 rfl rfl ?_
                      refine gf_RX6_31 C hk0 dX6_quantile_137 ?_
                      refine g_iload C (j := 0) dX6_quantile_140 5 rfl ?_
                      refine g_iload C (j := 0) dX6_quantile_142 4 rfl ?_
                      obtain ⟨hk_23, hw⟩ := hw
                      obtain ⟨hi_24, hw⟩ := hw
                      refine g_iastore C hk_23 hi_24 dX6_quantile_144 ?_
                      refine g_nmM (fun M_25 eM_25 => ?_)
                      have hw := hw M_25 eM_25
                      obtain ⟨x3_26, ex3_26⟩ : ∃ y : Int32, y = x3_10 + 1 := ⟨_, rfl⟩
                      have hw := hw x3_26 ex3_26
                      refine g_iinc C (j := 0) dX6_quantile_145 3 rfl (v := x3_26) (by rw [ex3_26]; rfl) (Nat.le_of_ble_eq_true rfl) (loc' := [(3, .int x3_26), (0, gR E o), (1, .int p1), (2, .int p2), (4, .int r_19), (5, .int x5_21)]) rfl ?_
                      refine g_goto C dX6_quantile_148 (tgt := 70) (by decide) ?_
                      refine g_sub [1, 2, 3, 0] rfl ?_
                      exact ih70 _ _ hw
                    · have hw := hw.2 c97
                      refine g_aload_n C dX6_quantile_100 0 rfl rfl ?_
                      refine gf_RX6_31 C hk0 dX6_quantile_101 ?_
                      refine g_iload C (j := 0) dX6_quantile_104 5 rfl ?_
                      refine g_iconst C dX6_quantile_106 (v := 1) rfl ?_
                      refine g_isub C dX6_quantile_107 ?_
                      obtain ⟨hk_27, hw⟩ := hw
                      obtain ⟨hi_28, hw⟩ := hw
                      refine g_iaload C hk_27 hi_28 dX6_quantile_108 ?_
                      refine g_iload C (j := 0) dX6_quantile_109 4 rfl ?_
                      refine g_icmp_le C dX6_quantile_111 (tgt := 136) (by decide) (fun c111 => ?_) (fun c111 => ?_)
                      · have hw := hw.1 c111
                        refine g_aload_n C dX6_quantile_136 0 rfl rfl ?_
                        refine gf_RX6_31 C hk0 dX6_quantile_137 ?_
                        refine g_iload C (j := 0) dX6_quantile_140 5 rfl ?_
                        refine g_iload C (j := 0) dX6_quantile_142 4 rfl ?_
                        obtain ⟨hi_29, hw⟩ := hw
                        refine g_iastore C hk_27 hi_29 dX6_quantile_144 ?_
                        refine g_nmM (fun M_30 eM_30 => ?_)
                        have hw := hw M_30 eM_30
                        obtain ⟨x3_31, ex3_31⟩ : ∃ y : Int32, y = x3_10 + 1 := ⟨_, rfl⟩
                        have hw := hw x3_31 ex3_31
                        refine g_iinc C (j := 0) dX6_quantile_145 3 rfl (v := x3_31) (by rw [ex3_31]; rfl) (Nat.le_of_ble_eq_true rfl) (loc' := [(3, .int x3_31), (0, gR E o), (1, .int p1), (2, .int p2), (4, .int r_19), (5, .int x5_21)]) rfl ?_
                        refine g_goto C dX6_quantile_148 (tgt := 70) (by decide) ?_
                        refine g_sub [1, 2, 3, 0] rfl ?_
                        exact ih70 _ _ hw
                      · have hw := hw.2 c111
                        refine g_aload_n C dX6_quantile_114 0 rfl rfl ?_
                        refine gf_RX6_31 C hk0 dX6_quantile_115 ?_
                        refine g_iload C (j := 0) dX6_quantile_118 5 rfl ?_
                        refine g_aload_n C dX6_quantile_120 0 rfl rfl ?_
                        refine gf_RX6_31 C hk0 dX6_quantile_121 ?_
                        refine g_iload C (j := 0) dX6_quantile_124 5 rfl ?_
                        refine g_iconst C dX6_quantile_126 (v := 1) rfl ?_
                        refine g_isub C dX6_quantile_127 ?_
                        obtain ⟨hi_32, hw⟩ := hw
                        refine g_iaload C hk_27 hi_32 dX6_quantile_128 ?_
                        obtain ⟨hi_33, hw⟩ := hw
                        refine g_iastore C hk_27 hi_33 dX6_quantile_129 ?_
                        refine g_nmM (fun M_34 eM_34 => ?_)
                        have hw := hw M_34 eM_34
                        obtain ⟨x5_35, ex5_35⟩ : ∃ y : Int32, y = x5_21 + (-1) := ⟨_, rfl⟩
                        have hw := hw x5_35 ex5_35
                        refine g_iinc C (j := 0) dX6_quantile_130 5 rfl (v := x5_35) (by rw [ex5_35]; rfl) (Nat.le_of_ble_eq_true rfl) (loc' := [(5, .int x5_35), (0, gR E o), (1, .int p1), (2, .int p2), (3, .int x3_10), (4, .int r_19)]) rfl ?_
                        refine g_goto C dX6_quantile_133 (tgt := 95) (by decide) ?_
                        refine g_sub [1, 2, 3, 4, 5, 0] rfl ?_
                        exact ih95 _ _ hw
                refine g_sub [2, 3, 4, 5, 1, 0] rfl ?_
                exact hL95 m95 _ _ hw
          refine g_sub [1, 2, 3, 0] rfl ?_
          exact hL70 m70 _ _ hw
        · have hw := hw.2 c54
          refine g_aload_n C dX6_quantile_57 0 rfl rfl ?_
          refine g_iconst C dX6_quantile_58 (v := 4) rfl ?_
          refine g_cV C dX6_quantile_59 (met_X6_fails C.st hw) (gc_X6_fails _ (Nat.le_of_ble_eq_true rfl) (Nat.le_of_ble_eq_true rfl)) tw1131 tw1133 twp28 (ci := 6) rfl (by decide) hk0 rfl (Nat.le_of_ble_eq_true rfl) (c2 := 0) (s2 := 0) rfl rfl (Nat.le_of_ble_eq_true rfl) (Nat.le_of_ble_eq_true rfl) rfl (kI (fun r_36 M_37 hw => ?_)) tNo
          exact g_iret C dX6_quantile_62 (Nat.le_of_ble_eq_true rfl) (Nat.le_of_ble_eq_true rfl) ⟨_, rfl, hw⟩
      · have hw := hw.2 c36
        refine g_aload_n C dX6_quantile_39 0 rfl rfl ?_
        refine g_iconst C dX6_quantile_40 (v := 3) rfl ?_
        refine g_cV C dX6_quantile_41 (met_X6_fails C.st hw) (gc_X6_fails _ (Nat.le_of_ble_eq_true rfl) (Nat.le_of_ble_eq_true rfl)) tw1131 tw1133 twp28 (ci := 6) rfl (by decide) hk0 rfl (Nat.le_of_ble_eq_true rfl) (c2 := 0) (s2 := 0) rfl rfl (Nat.le_of_ble_eq_true rfl) (Nat.le_of_ble_eq_true rfl) rfl (kI (fun r_38 M_39 hw => ?_)) tNo
        exact g_iret C dX6_quantile_44 (Nat.le_of_ble_eq_true rfl) (Nat.le_of_ble_eq_true rfl) ⟨_, rfl, hw⟩
    · have hw := hw.2 c22
      refine g_aload_n C dX6_quantile_25 0 rfl rfl ?_
      refine g_iconst C dX6_quantile_26 (v := 2) rfl ?_
      refine g_cV C dX6_quantile_27 (met_X6_fails C.st hw) (gc_X6_fails _ (Nat.le_of_ble_eq_true rfl) (Nat.le_of_ble_eq_true rfl)) tw1131 tw1133 twp28 (ci := 6) rfl (by decide) hk0 rfl (Nat.le_of_ble_eq_true rfl) (c2 := 0) (s2 := 0) rfl rfl (Nat.le_of_ble_eq_true rfl) (Nat.le_of_ble_eq_true rfl) rfl (kI (fun r_40 M_41 hw => ?_)) tNo
      exact g_iret C dX6_quantile_30 (Nat.le_of_ble_eq_true rfl) (Nat.le_of_ble_eq_true rfl) ⟨_, rfl, hw⟩
  · have hw := hw.2 c4
    refine g_aload_n C dX6_quantile_7 0 rfl rfl ?_
    refine g_iconst C dX6_quantile_8 (v := 1) rfl ?_
    refine g_cV C dX6_quantile_9 (met_X6_fails C.st hw) (gc_X6_fails _ (Nat.le_of_ble_eq_true rfl) (Nat.le_of_ble_eq_true rfl)) tw1131 tw1133 twp28 (ci := 6) rfl (by decide) hk0 rfl (Nat.le_of_ble_eq_true rfl) (c2 := 0) (s2 := 0) rfl rfl (Nat.le_of_ble_eq_true rfl) (Nat.le_of_ble_eq_true rfl) rfl (kI (fun r_42 M_43 hw => ?_)) tNo
    exact g_iret C dX6_quantile_12 (Nat.le_of_ble_eq_true rfl) (Nat.le_of_ble_eq_true rfl) ⟨_, rfl, hw⟩
theorem gc_X6_quantile : ∀ rm : Room, rmX6_quantile.frames + 1 ≤ rm.frames → 8 + (6 + 11) + rmX6_quantile.locals ≤ rm.locals → gCall yX6_quantile 6 2 rmX6_quantile rm := fun rm a b => ⟨Or.inl ⟨_, _, tw1378⟩, tw8, ⟨by decide, by decide⟩, by decide, a, b⟩
abbrev rmX6_resampled : Room := { frames := 5, cells := 0, slots := 0, locals := 118 }
def wp_X6_resampled_L81 (o : Nat) (p1 : Int32) (p3 : Int32) (Q : UInt64 → MEM → Prop) (M_9 : MEM) : Nat → Int32 → Int32 → Int32 → Prop
  | 0, _, _, _ => False
  | n81 + 1, x4_10, x5_11, x6_12 => (p3 ≤ x6_12 → (∀ f_13 : UInt64, alike64 f_13 (FP.ddiv (FP.i2d x5_11) (FP.i2d p3)) = true → (Q f_13 M_9))) ∧ (¬ p3 ≤ x6_12 → (∀ x4_14 : Int32, x4_14 = (x4_10 * 1103515245) + 12345 → (¬ mI M_9 o 6 = 0 ∧ (KD (RF o 3) = (0, 60) ∧ vp_in ((gush x4_14 8) - (gush x4_14 8) / (mI M_9 o 6) * (mI M_9 o 6)) 60 ∧ (wp_X6_item o p1 (mI M_9 (RF o 3) ((gush x4_14 8) - (gush x4_14 8) / (mI M_9 o 6) * (mI M_9 o 6)).toNatClampNeg) 4 M_9 (fun r_18 => ∀ x5_20 : Int32, x5_20 = x5_11 + r_18 → (∀ x6_21 : Int32, x6_21 = x6_12 + 1 → ((wp_X6_resampled_L81 o p1 p3 Q M_9 n81) x4_14 x5_20 x6_21))))))))
def wp_X6_resampled (o : Nat) (p1 : Int32) (p2 : Int32) (p3 : Int32) (M : MEM) (Q : UInt64 → MEM → Prop) : Prop := KD o = (16, 0) ∧ (wp_X6_isSlot p1 M (fun r_1 => (¬ r_1 = 0 → (wp_X6_isBetween p3.toInt64 1 1000 M (fun r_3 => (¬ r_3 = 0 → (wp_X6_isThere o p1 M (fun r_5 => (¬ r_5 = 0 → (wp_X6_finds o p1 M (fun M_8 => (¬ (mI M_8 o 6) = 0 → ((∀ M_9 : MEM, M_9 = uI M_8 o 0 0 → (∃ m81 : Nat, wp_X6_resampled_L81 o p1 p3 Q M_9 m81 p2 0 0)))) ∧ ((mI M_8 o 6) = 0 → (wp_X6_fails o 4 M_8 (fun r_22 M_23 => Q (FP.i2d r_22) M_23)))))) ∧ (r_5 = 0 → (wp_X6_fails o 3 M (fun r_24 M_25 => Q (FP.i2d r_24) M_25)))))) ∧ (r_3 = 0 → (wp_X6_fails o 2 M (fun r_26 M_27 => Q (FP.i2d r_26) M_27)))))) ∧ (r_1 = 0 → (wp_X6_fails o 1 M (fun r_28 M_29 => Q (FP.i2d r_28) M_29)))))
set_option maxRecDepth 100000 in
set_option maxHeartbeats 4000000 in
theorem met_X6_resampled {l : Launch} (hl : l.stackTraces = false) {E : MK} {o : Nat} {p1 : Int32} {p2 : Int32} {p3 : Int32} {M : MEM} {Q : UInt64 → MEM → Prop} (hw : wp_X6_resampled o p1 p2 p3 M Q) : gMet l E yX6_resampled rmX6_resampled [gR E o, .int p1, .int p2, .int p3] M (qD Q) gNo := by
  obtain ⟨hk0, hw⟩ := hw
  refine g_met hl (cc := cX6_resampled) (maxL := 7) (ret := (some .double)) (hh := []) (loc := [(0, gR E o), (1, .int p1), (2, .int p2), (3, .int p3)]) (by decide +kernel) (Or.inl ⟨tw1383, rfl⟩) (Nat.le_of_ble_eq_true rfl) rfl (fun K hK C => ?_)
  have C : GC K E cX6_resampled RX6 7 (some .double) [] rmX6_resampled := C
  refine g_iload_n C dX6_resampled_0 1 rfl rfl ?_
  refine g_cS C dX6_resampled_1 (met_X6_isSlot C.st hw) (gc_X6_isSlot _ (Nat.le_of_ble_eq_true rfl) (Nat.le_of_ble_eq_true rfl)) (Or.inl tw1128) tw1129 rfl (Nat.le_of_ble_eq_true rfl) (c2 := 0) (s2 := 0) rfl rfl (Nat.le_of_ble_eq_true rfl) (Nat.le_of_ble_eq_true rfl) rfl (kIp (fun r_1 hw => ?_)) tNo
  refine g_if_ne C dX6_resampled_4 (tgt := 14) (by decide) (fun c4 => ?_) (fun c4 => ?_)
  · have hw := hw.1 c4
    refine g_iload_n C dX6_resampled_14 3 rfl rfl ?_
    refine g_i2l C dX6_resampled_15 ?_
    refine g_lconst C dX6_resampled_16 (v := 1) rfl ?_
    refine g_ldc2 C dX6_resampled_17 tw1379 ?_
    refine g_cS C dX6_resampled_20 (met_X6_isBetween C.st hw) (gc_X6_isBetween _ (Nat.le_of_ble_eq_true rfl) (Nat.le_of_ble_eq_true rfl)) (Or.inl tw1139) tw1140 rfl (Nat.le_of_ble_eq_true rfl) (c2 := 0) (s2 := 0) rfl rfl (Nat.le_of_ble_eq_true rfl) (Nat.le_of_ble_eq_true rfl) rfl (kIp (fun r_3 hw => ?_)) tNo
    refine g_if_ne C dX6_resampled_23 (tgt := 33) (by decide) (fun c23 => ?_) (fun c23 => ?_)
    · have hw := hw.1 c23
      refine g_aload_n C dX6_resampled_33 0 rfl rfl ?_
      refine g_iload_n C dX6_resampled_34 1 rfl rfl ?_
      refine g_cV C dX6_resampled_35 (met_X6_isThere C.st hw) (gc_X6_isThere _ (Nat.le_of_ble_eq_true rfl) (Nat.le_of_ble_eq_true rfl)) tw1152 tw1154 twp31 (ci := 6) rfl (by decide) hk0 rfl (Nat.le_of_ble_eq_true rfl) (c2 := 0) (s2 := 0) rfl rfl (Nat.le_of_ble_eq_true rfl) (Nat.le_of_ble_eq_true rfl) rfl (kIp (fun r_5 hw => ?_)) tNo
      refine g_if_ne C dX6_resampled_38 (tgt := 48) (by decide) (fun c38 => ?_) (fun c38 => ?_)
      · have hw := hw.1 c38
        refine g_aload_n C dX6_resampled_48 0 rfl rfl ?_
        refine g_iload_n C dX6_resampled_49 1 rfl rfl ?_
        refine g_cV C dX6_resampled_50 (met_X6_finds C.st hw) (gc_X6_finds _ (Nat.le_of_ble_eq_true rfl) (Nat.le_of_ble_eq_true rfl)) tw1216 tw1218 twp40 (ci := 6) rfl (by decide) hk0 rfl (Nat.le_of_ble_eq_true rfl) (c2 := 0) (s2 := 0) rfl rfl (Nat.le_of_ble_eq_true rfl) (Nat.le_of_ble_eq_true rfl) rfl (kV (fun M_8 hw => ?_)) tNo
        refine g_aload_n C dX6_resampled_53 0 rfl rfl ?_
        refine gf_RX6_160 C hk0 dX6_resampled_54 ?_
        refine g_if_ne C dX6_resampled_57 (tgt := 67) (by decide) (fun c57 => ?_) (fun c57 => ?_)
        · have hw := hw.1 c57
          refine g_aload_n C dX6_resampled_67 0 rfl rfl ?_
          refine g_iconst C dX6_resampled_68 (v := 0) rfl ?_
          refine pf_RX6_57 C hk0 dX6_resampled_69 ?_
          refine g_nmM (fun M_9 eM_9 => ?_)
          have hw := hw M_9 eM_9
          refine g_iload_n C dX6_resampled_72 2 rfl rfl ?_
          refine g_istore C dX6_resampled_73 (Nat.le_of_ble_eq_true rfl) (loc' := [(4, .int p2), (0, gR E o), (1, .int p1), (2, .int p2), (3, .int p3)]) rfl ?_
          refine g_iconst C dX6_resampled_75 (v := 0) rfl ?_
          refine g_istore C dX6_resampled_76 (Nat.le_of_ble_eq_true rfl) (loc' := [(5, .int 0), (4, .int p2), (0, gR E o), (1, .int p1), (2, .int p2), (3, .int p3)]) rfl ?_
          refine g_iconst C dX6_resampled_78 (v := 0) rfl ?_
          refine g_istore C dX6_resampled_79 (Nat.le_of_ble_eq_true rfl) (loc' := [(6, .int 0), (5, .int 0), (4, .int p2), (0, gR E o), (1, .int p1), (2, .int p2), (3, .int p3)]) rfl ?_
          obtain ⟨m81, hw⟩ := hw
          have hL81 : ∀ (n81 : Nat) (x4_10 : Int32) (x5_11 : Int32) (x6_12 : Int32), wp_X6_resampled_L81 o p1 p3 Q M_9 n81 x4_10 x5_11 x6_12 → GX K E 7 M_9 [(0, gR E o), (1, .int p1), (3, .int p3), (4, .int x4_10), (5, .int x5_11), (6, .int x6_12)] [] 81 0 0 (gEnd K E (qD Q) gNo rmX6_resampled.cells rmX6_resampled.slots) := by
            intro n81
            induction n81 with
            | zero => intro _ _ _ hw; exact False.elim hw
            | succ n81 ih81 =>
              intro x4_10 x5_11 x6_12 hw
              refine g_iload C (j := 0) dX6_resampled_81 5 rfl ?_
              refine g_iload_n C dX6_resampled_83 2 rfl rfl ?_
              refine g_icmp_ge C dX6_resampled_84 (tgt := 130) (by decide) (fun c84 => ?_) (fun c84 => ?_)
              · have hw := hw.1 c84
                refine g_iload C (j := 0) dX6_resampled_130 4 rfl ?_
                refine g_i2d C dX6_resampled_132 ?_
                refine g_iload_n C dX6_resampled_133 2 rfl rfl ?_
                refine g_i2d C dX6_resampled_134 ?_
                refine g_ddiv C dX6_resampled_135 (fun f_13 ef_13 => ?_)
                have hw := hw f_13 ef_13
                exact g_dret C dX6_resampled_136 (Nat.le_of_ble_eq_true rfl) (Nat.le_of_ble_eq_true rfl) ⟨_, rfl, hw⟩
              · have hw := hw.2 c84
                refine g_iload C (j := 0) dX6_resampled_87 3 rfl ?_
                refine g_ldc C dX6_resampled_89 tw1210 ?_
                refine g_imul C dX6_resampled_91 ?_
                refine g_sipush C dX6_resampled_92 (v := 12345) rfl ?_
                refine g_iadd C dX6_resampled_95 ?_
                refine g_nmI (fun x4_14 ex4_14 => ?_)
                have hw := hw x4_14 ex4_14
                refine g_istore C dX6_resampled_96 (Nat.le_of_ble_eq_true rfl) (loc' := [(4, .int x4_14), (0, gR E o), (1, .int p1), (3, .int p3), (5, .int x5_11), (6, .int x6_12)]) rfl ?_
                refine g_iload C (j := 0) dX6_resampled_98 4 rfl ?_
                refine g_aload_n C dX6_resampled_100 1 rfl rfl ?_
                refine g_iload_n C dX6_resampled_101 2 rfl rfl ?_
                refine g_aload_n C dX6_resampled_102 1 rfl rfl ?_
                refine gf_RX6_16 C hk0 dX6_resampled_103 ?_
                refine g_iload C (j := 0) dX6_resampled_106 0 rfl ?_
                refine g_bipush C dX6_resampled_108 (v := 8) rfl ?_
                refine g_iushr C dX6_resampled_110 ?_
                refine g_aload_n C dX6_resampled_111 1 rfl rfl ?_
                refine gf_RX6_160 C hk0 dX6_resampled_112 ?_
                obtain ⟨hz_15, hw⟩ := hw
                refine g_irem C dX6_resampled_115 hz_15 ?_
                obtain ⟨hk_16, hw⟩ := hw
                obtain ⟨hi_17, hw⟩ := hw
                refine g_iaload C hk_16 hi_17 dX6_resampled_116 ?_
                refine g_iconst C dX6_resampled_117 (v := 4) rfl ?_
                refine g_cV C dX6_resampled_118 (met_X6_item C.st hw) (gc_X6_item _ (Nat.le_of_ble_eq_true rfl) (Nat.le_of_ble_eq_true rfl)) tw1197 tw1199 twp38 (ci := 6) rfl (by decide) hk0 rfl (Nat.le_of_ble_eq_true rfl) (c2 := 0) (s2 := 0) rfl rfl (Nat.le_of_ble_eq_true rfl) (Nat.le_of_ble_eq_true rfl) rfl (kIp (fun r_18 hw => ?_)) tNo
                refine g_iadd C dX6_resampled_121 ?_
                refine g_nmI (fun x5_20 ex5_20 => ?_)
                have hw := hw x5_20 ex5_20
                refine g_istore C dX6_resampled_122 (Nat.le_of_ble_eq_true rfl) (loc' := [(5, .int x5_20), (4, .int x4_14), (0, gR E o), (1, .int p1), (3, .int p3), (6, .int x6_12)]) rfl ?_
                obtain ⟨x6_21, ex6_21⟩ : ∃ y : Int32, y = x6_12 + 1 := ⟨_, rfl⟩
                have hw := hw x6_21 ex6_21
                refine g_iinc C (j := 0) dX6_resampled_124 5 rfl (v := x6_21) (by rw [ex6_21]; rfl) (Nat.le_of_ble_eq_true rfl) (loc' := [(6, .int x6_21), (5, .int x5_20), (4, .int x4_14), (0, gR E o), (1, .int p1), (3, .int p3)]) rfl ?_
                refine g_goto C dX6_resampled_127 (tgt := 81) (by decide) ?_
                refine g_sub [3, 4, 5, 2, 1, 0] rfl ?_
                exact ih81 _ _ _ hw
          refine g_sub [3, 4, 6, 2, 1, 0] rfl ?_
          exact hL81 m81 _ _ _ hw
        · have hw := hw.2 c57
          refine g_aload_n C dX6_resampled_60 0 rfl rfl ?_
          refine g_iconst C dX6_resampled_61 (v := 4) rfl ?_
          refine g_cV C dX6_resampled_62 (met_X6_fails C.st hw) (gc_X6_fails _ (Nat.le_of_ble_eq_true rfl) (Nat.le_of_ble_eq_true rfl)) tw1131 tw1133 twp28 (ci := 6) rfl (by decide) hk0 rfl (Nat.le_of_ble_eq_true rfl) (c2 := 0) (s2 := 0) rfl rfl (Nat.le_of_ble_eq_true rfl) (Nat.le_of_ble_eq_true rfl) rfl (kI (fun r_22 M_23 hw => ?_)) tNo
          refine g_i2d C dX6_resampled_65 ?_
          exact g_dret C dX6_resampled_66 (Nat.le_of_ble_eq_true rfl) (Nat.le_of_ble_eq_true rfl) ⟨_, rfl, hw⟩
      · have hw := hw.2 c38
        refine g_aload_n C dX6_resampled_41 0 rfl rfl ?_
        refine g_iconst C dX6_resampled_42 (v := 3) rfl ?_
        refine g_cV C dX6_resampled_43 (met_X6_fails C.st hw) (gc_X6_fails _ (Nat.le_of_ble_eq_true rfl) (Nat.le_of_ble_eq_true rfl)) tw1131 tw1133 twp28 (ci := 6) rfl (by decide) hk0 rfl (Nat.le_of_ble_eq_true rfl) (c2 := 0) (s2 := 0) rfl rfl (Nat.le_of_ble_eq_true rfl) (Nat.le_of_ble_eq_true rfl) rfl (kI (fun r_24 M_25 hw => ?_)) tNo
        refine g_i2d C dX6_resampled_46 ?_
        exact g_dret C dX6_resampled_47 (Nat.le_of_ble_eq_true rfl) (Nat.le_of_ble_eq_true rfl) ⟨_, rfl, hw⟩
    · have hw := hw.2 c23
      refine g_aload_n C dX6_resampled_26 0 rfl rfl ?_
      refine g_iconst C dX6_resampled_27 (v := 2) rfl ?_
      refine g_cV C dX6_resampled_28 (met_X6_fails C.st hw) (gc_X6_fails _ (Nat.le_of_ble_eq_true rfl) (Nat.le_of_ble_eq_true rfl)) tw1131 tw1133 twp28 (ci := 6) rfl (by decide) hk0 rfl (Nat.le_of_ble_eq_true rfl) (c2 := 0) (s2 := 0) rfl rfl (Nat.le_of_ble_eq_true rfl) (Nat.le_of_ble_eq_true rfl) rfl (kI (fun r_26 M_27 hw => ?_)) tNo
      refine g_i2d C dX6_resampled_31 ?_
      exact g_dret C dX6_resampled_32 (Nat.le_of_ble_eq_true rfl) (Nat.le_of_ble_eq_true rfl) ⟨_, rfl, hw⟩
  · have hw := hw.2 c4
    refine g_aload_n C dX6_resampled_7 0 rfl rfl ?_
    refine g_iconst C dX6_resampled_8 (v := 1) rfl ?_
    refine g_cV C dX6_resampled_9 (met_X6_fails C.st hw) (gc_X6_fails _ (Nat.le_of_ble_eq_true rfl) (Nat.le_of_ble_eq_true rfl)) tw1131 tw1133 twp28 (ci := 6) rfl (by decide) hk0 rfl (Nat.le_of_ble_eq_true rfl) (c2 := 0) (s2 := 0) rfl rfl (Nat.le_of_ble_eq_true rfl) (Nat.le_of_ble_eq_true rfl) rfl (kI (fun r_28 M_29 hw => ?_)) tNo
    refine g_i2d C dX6_resampled_12 ?_
    exact g_dret C dX6_resampled_13 (Nat.le_of_ble_eq_true rfl) (Nat.le_of_ble_eq_true rfl) ⟨_, rfl, hw⟩
theorem gc_X6_resampled : ∀ rm : Room, rmX6_resampled.frames + 1 ≤ rm.frames → 8 + (7 + 11) + rmX6_resampled.locals ≤ rm.locals → gCall yX6_resampled 7 3 rmX6_resampled rm := fun rm a b => ⟨Or.inl ⟨_, _, tw1383⟩, tw8, ⟨by decide, by decide⟩, by decide, a, b⟩
abbrev rmX6_putsAside : Room := { frames := 5, cells := 0, slots := 0, locals := 118 }
def wp_X6_putsAside_L15 (o : Nat) (p1 : Int32) (Q : MEM → Prop) : Nat → Int32 → MEM → Prop
  | 0, _, _ => False
  | n15 + 1, x2_4, M_5 => ((mI M_5 o 17) ≤ x2_4 → (Q M_5)) ∧ (¬ (mI M_5 o 17) ≤ x2_4 → (KD (RF o 3) = (0, 60) ∧ vp_in x2_4 60 ∧ (wp_X6_item o p1 (mI M_5 (RF o 3) x2_4.toNatClampNeg) 4 M_5 (fun r_8 => (KD (RF o 15) = (0, 60) ∧ (vp_in x2_4 60 ∧ (∀ M_12 : MEM, M_12 = uI M_5 (RF o 15) x2_4.toNatClampNeg r_8 → (vp_in x2_4 60 ∧ (wp_X6_item o p1 (mI M_12 (RF o 3) x2_4.toNatClampNeg) 0 M_12 (fun r_14 => (KD (RF o 16) = (0, 60) ∧ (vp_in x2_4 60 ∧ (∀ M_18 : MEM, M_18 = uI M_12 (RF o 16) x2_4.toNatClampNeg r_14 → (∀ x2_19 : Int32, x2_19 = x2_4 + 1 → ((wp_X6_putsAside_L15 o p1 Q n15) x2_19 M_18)))))))))))))))
def wp_X6_putsAside (o : Nat) (p1 : Int32) (M : MEM) (Q : MEM → Prop) : Prop := KD o = (16, 0) ∧ (wp_X6_finds o p1 M (fun M_2 => (∀ M_3 : MEM, M_3 = uI M_2 o 17 (mI M_2 o 6) → (∃ m15 : Nat, wp_X6_putsAside_L15 o p1 Q m15 0 M_3))))
set_option maxRecDepth 100000 in
set_option maxHeartbeats 4000000 in
theorem met_X6_putsAside {l : Launch} (hl : l.stackTraces = false) {E : MK} {o : Nat} {p1 : Int32} {M : MEM} {Q : MEM → Prop} (hw : wp_X6_putsAside o p1 M Q) : gMet l E yX6_putsAside rmX6_putsAside [gR E o, .int p1] M (qV Q) gNo := by
  obtain ⟨hk0, hw⟩ := hw
  refine g_met hl (cc := cX6_putsAside) (maxL := 3) (ret := none) (hh := []) (loc := [(0, gR E o), (1, .int p1)]) (by decide +kernel) (Or.inl ⟨tw1391, rfl⟩) (Nat.le_of_ble_eq_true rfl) rfl (fun K hK C => ?_)
  have C : GC K E cX6_putsAside RX6 3 none [] rmX6_putsAside := C
  refine g_aload_n C dX6_putsAside_0 0 rfl rfl ?_
  refine g_iload_n C dX6_putsAside_1 1 rfl rfl ?_
  refine g_cV C dX6_putsAside_2 (met_X6_finds C.st hw) (gc_X6_finds _ (Nat.le_of_ble_eq_true rfl) (Nat.le_of_ble_eq_true rfl)) tw1216 tw1218 twp40 (ci := 6) rfl (by decide) hk0 rfl (Nat.le_of_ble_eq_true rfl) (c2 := 0) (s2 := 0) rfl rfl (Nat.le_of_ble_eq_true rfl) (Nat.le_of_ble_eq_true rfl) rfl (kV (fun M_2 hw => ?_)) tNo
  refine g_aload_n C dX6_putsAside_5 0 rfl rfl ?_
  refine g_aload_n C dX6_putsAside_6 0 rfl rfl ?_
  refine gf_RX6_160 C hk0 dX6_putsAside_7 ?_
  refine pf_RX6_253 C hk0 dX6_putsAside_10 ?_
  refine g_nmM (fun M_3 eM_3 => ?_)
  have hw := hw M_3 eM_3
  refine g_iconst C dX6_putsAside_13 (v := 0) rfl ?_
  refine g_istore_n C dX6_putsAside_14 rfl (Nat.le_of_ble_eq_true rfl) (loc' := [(2, .int 0), (0, gR E o), (1, .int p1)]) rfl ?_
  obtain ⟨m15, hw⟩ := hw
  have hL15 : ∀ (n15 : Nat) (x2_4 : Int32) (M_5 : MEM), wp_X6_putsAside_L15 o p1 Q n15 x2_4 M_5 → GX K E 3 M_5 [(0, gR E o), (1, .int p1), (2, .int x2_4)] [] 15 0 0 (gEnd K E (qV Q) gNo rmX6_putsAside.cells rmX6_putsAside.slots) := by
    intro n15
    induction n15 with
    | zero => intro _ _ hw; exact False.elim hw
    | succ n15 ih15 =>
      intro x2_4 M_5 hw
      refine g_iload_n C dX6_putsAside_15 2 rfl rfl ?_
      refine g_aload_n C dX6_putsAside_16 0 rfl rfl ?_
      refine gf_RX6_253 C hk0 dX6_putsAside_17 ?_
      refine g_icmp_ge C dX6_putsAside_20 (tgt := 65) (by decide) (fun c20 => ?_) (fun c20 => ?_)
      · have hw := hw.1 c20
        exact g_vret C dX6_putsAside_65 (Nat.le_of_ble_eq_true rfl) (Nat.le_of_ble_eq_true rfl) ⟨rfl, hw⟩
      · have hw := hw.2 c20
        refine g_aload_n C dX6_putsAside_23 0 rfl rfl ?_
        refine gf_RX6_34 C hk0 dX6_putsAside_24 ?_
        refine g_iload_n C dX6_putsAside_27 2 rfl rfl ?_
        refine g_aload_n C dX6_putsAside_28 0 rfl rfl ?_
        refine g_iload_n C dX6_putsAside_29 1 rfl rfl ?_
        refine g_aload_n C dX6_putsAside_30 0 rfl rfl ?_
        refine gf_RX6_16 C hk0 dX6_putsAside_31 ?_
        refine g_iload_n C dX6_putsAside_34 2 rfl rfl ?_
        obtain ⟨hk_6, hw⟩ := hw
        obtain ⟨hi_7, hw⟩ := hw
        refine g_iaload C hk_6 hi_7 dX6_putsAside_35 ?_
        refine g_iconst C dX6_putsAside_36 (v := 4) rfl ?_
        refine g_cV C dX6_putsAside_37 (met_X6_item C.st hw) (gc_X6_item _ (Nat.le_of_ble_eq_true rfl) (Nat.le_of_ble_eq_true rfl)) tw1197 tw1199 twp38 (ci := 6) rfl (by decide) hk0 rfl (Nat.le_of_ble_eq_true rfl) (c2 := 0) (s2 := 0) rfl rfl (Nat.le_of_ble_eq_true rfl) (Nat.le_of_ble_eq_true rfl) rfl (kIp (fun r_8 hw => ?_)) tNo
        obtain ⟨hk_10, hw⟩ := hw
        obtain ⟨hi_11, hw⟩ := hw
        refine g_iastore C hk_10 hi_11 dX6_putsAside_40 ?_
        refine g_nmM (fun M_12 eM_12 => ?_)
        have hw := hw M_12 eM_12
        refine g_aload_n C dX6_putsAside_41 0 rfl rfl ?_
        refine gf_RX6_37 C hk0 dX6_putsAside_42 ?_
        refine g_iload_n C dX6_putsAside_45 2 rfl rfl ?_
        refine g_aload_n C dX6_putsAside_46 0 rfl rfl ?_
        refine g_iload_n C dX6_putsAside_47 1 rfl rfl ?_
        refine g_aload_n C dX6_putsAside_48 0 rfl rfl ?_
        refine gf_RX6_16 C hk0 dX6_putsAside_49 ?_
        refine g_iload_n C dX6_putsAside_52 2 rfl rfl ?_
        obtain ⟨hi_13, hw⟩ := hw
        refine g_iaload C hk_6 hi_13 dX6_putsAside_53 ?_
        refine g_iconst C dX6_putsAside_54 (v := 0) rfl ?_
        refine g_cV C dX6_putsAside_55 (met_X6_item C.st hw) (gc_X6_item _ (Nat.le_of_ble_eq_true rfl) (Nat.le_of_ble_eq_true rfl)) tw1197 tw1199 twp38 (ci := 6) rfl (by decide) hk0 rfl (Nat.le_of_ble_eq_true rfl) (c2 := 0) (s2 := 0) rfl rfl (Nat.le_of_ble_eq_true rfl) (Nat.le_of_ble_eq_true rfl) rfl (kIp (fun r_14 hw => ?_)) tNo
        obtain ⟨hk_16, hw⟩ := hw
        obtain ⟨hi_17, hw⟩ := hw
        refine g_iastore C hk_16 hi_17 dX6_putsAside_58 ?_
        refine g_nmM (fun M_18 eM_18 => ?_)
        have hw := hw M_18 eM_18
        obtain ⟨x2_19, ex2_19⟩ : ∃ y : Int32, y = x2_4 + 1 := ⟨_, rfl⟩
        have hw := hw x2_19 ex2_19
        refine g_iinc C (j := 0) dX6_putsAside_59 2 rfl (v := x2_19) (by rw [ex2_19]; rfl) (Nat.le_of_ble_eq_true rfl) (loc' := [(2, .int x2_19), (0, gR E o), (1, .int p1)]) rfl ?_
        refine g_goto C dX6_putsAside_62 (tgt := 15) (by decide) ?_
        refine g_sub [1, 2, 0] rfl ?_
        exact ih15 _ _ hw
  refine g_sub [1, 2, 0] rfl ?_
  exact hL15 m15 _ _ hw
theorem gc_X6_putsAside : ∀ rm : Room, rmX6_putsAside.frames + 1 ≤ rm.frames → 8 + (3 + 11) + rmX6_putsAside.locals ≤ rm.locals → gCall yX6_putsAside 3 1 rmX6_putsAside rm := fun rm a b => ⟨Or.inl ⟨_, _, tw1391⟩, tw8, ⟨by decide, by decide⟩, by decide, a, b⟩
abbrev rmX6_difference : Room := { frames := 1, cells := 0, slots := 0, locals := 23 }
def wp_X6_difference_L51 (o : Nat) (p2 : Int32) (M : MEM) (Q : UInt32 → Prop) (x3_1 : Int32) : Nat → Int32 → Int32 → Prop
  | 0, _, _ => False
  | n51 + 1, x4_3, x5_4 => ((mI M o 17) ≤ x5_4 → (∀ f_5 : UInt32, alike32 f_5 (FP.fdiv (FP.i2f x3_1) (FP.i2f (mI M o 6))) = true → (∀ f_6 : UInt32, alike32 f_6 (FP.fdiv (FP.i2f x4_3) (FP.i2f (mI M o 17))) = true → ((0 ≤ (Op.cmpValue (FP.fcmp f_5 f_6) .g) → (∀ f_7 : UInt32, alike32 f_7 (FP.fsub f_5 f_6) = true → (Q f_7))) ∧ (¬ 0 ≤ (Op.cmpValue (FP.fcmp f_5 f_6) .g) → (∀ f_8 : UInt32, alike32 f_8 (FP.fsub f_6 f_5) = true → (Q f_8))))))) ∧ (¬ (mI M o 17) ≤ x5_4 → (KD (RF o 15) = (0, 60) ∧ vp_in x5_4 60 ∧ ((p2 < (mI M (RF o 15) x5_4.toNatClampNeg) → (∀ x4_11 : Int32, x4_11 = x4_3 + 0 → (∀ x5_12 : Int32, x5_12 = x5_4 + 1 → ((wp_X6_difference_L51 o p2 M Q x3_1 n51) x4_11 x5_12)))) ∧ (¬ p2 < (mI M (RF o 15) x5_4.toNatClampNeg) → (∀ x4_13 : Int32, x4_13 = x4_3 + 1 → (∀ x5_14 : Int32, x5_14 = x5_4 + 1 → ((wp_X6_difference_L51 o p2 M Q x3_1 n51) x4_13 x5_14)))))))
def wp_X6_difference_L8 (o : Nat) (p1 : Int32) (p2 : Int32) (M : MEM) (Q : UInt32 → Prop) : Nat → Int32 → Int32 → Prop
  | 0, _, _ => False
  | n8 + 1, x3_1, x5_2 => ((mI M o 6) ≤ x5_2 → (∃ m51 : Nat, wp_X6_difference_L51 o p2 M Q x3_1 m51 0 0)) ∧ (¬ (mI M o 6) ≤ x5_2 → (KD (RF o 3) = (0, 60) ∧ vp_in x5_2 60 ∧ (wp_X6_item o p1 (mI M (RF o 3) x5_2.toNatClampNeg) 4 M (fun r_17 => (p2 < r_17 → (∀ x3_19 : Int32, x3_19 = x3_1 + 0 → (∀ x5_20 : Int32, x5_20 = x5_2 + 1 → ((wp_X6_difference_L8 o p1 p2 M Q n8) x3_19 x5_20)))) ∧ (¬ p2 < r_17 → (∀ x3_21 : Int32, x3_21 = x3_1 + 1 → (∀ x5_22 : Int32, x5_22 = x5_2 + 1 → ((wp_X6_difference_L8 o p1 p2 M Q n8) x3_21 x5_22))))))))
def wp_X6_difference (o : Nat) (p1 : Int32) (p2 : Int32) (M : MEM) (Q : UInt32 → Prop) : Prop := KD o = (16, 0) ∧ (∃ m8 : Nat, wp_X6_difference_L8 o p1 p2 M Q m8 0 0)
set_option maxRecDepth 100000 in
set_option maxHeartbeats 4000000 in
theorem met_X6_difference {l : Launch} (hl : l.stackTraces = false) {E : MK} {o : Nat} {p1 : Int32} {p2 : Int32} {M : MEM} {Q : UInt32 → Prop} (hw : wp_X6_difference o p1 p2 M Q) : gMet l E yX6_difference rmX6_difference [gR E o, .int p1, .int p2] M (qFp M Q) gNo := by
  obtain ⟨hk0, hw⟩ := hw
  refine g_met hl (cc := cX6_difference) (maxL := 7) (ret := (some .float)) (hh := []) (loc := [(0, gR E o), (1, .int p1), (2, .int p2)]) (by decide +kernel) (Or.inl ⟨tw1395, rfl⟩) (Nat.le_of_ble_eq_true rfl) rfl (fun K hK C => ?_)
  have C : GC K E cX6_difference RX6 7 (some .float) [] rmX6_difference := C
  refine g_iconst C dX6_difference_0 (v := 0) rfl ?_
  refine g_istore_n C dX6_difference_1 rfl (Nat.le_of_ble_eq_true rfl) (loc' := [(3, .int 0), (0, gR E o), (1, .int p1), (2, .int p2)]) rfl ?_
  refine g_iconst C dX6_difference_2 (v := 0) rfl ?_
  refine g_istore C dX6_difference_3 (Nat.le_of_ble_eq_true rfl) (loc' := [(4, .int 0), (3, .int 0), (0, gR E o), (1, .int p1), (2, .int p2)]) rfl ?_
  refine g_iconst C dX6_difference_5 (v := 0) rfl ?_
  refine g_istore C dX6_difference_6 (Nat.le_of_ble_eq_true rfl) (loc' := [(5, .int 0), (4, .int 0), (3, .int 0), (0, gR E o), (1, .int p1), (2, .int p2)]) rfl ?_
  obtain ⟨m8, hw⟩ := hw
  have hL8 : ∀ (n8 : Nat) (x3_1 : Int32) (x5_2 : Int32), wp_X6_difference_L8 o p1 p2 M Q n8 x3_1 x5_2 → GX K E 7 M [(0, gR E o), (1, .int p1), (2, .int p2), (3, .int x3_1), (4, .int 0), (5, .int x5_2)] [] 8 0 0 (gEnd K E (qFp M Q) gNo rmX6_difference.cells rmX6_difference.slots) := by
    intro n8
    induction n8 with
    | zero => intro _ _ hw; exact False.elim hw
    | succ n8 ih8 =>
      intro x3_1 x5_2 hw
      refine g_iload C (j := 0) dX6_difference_8 5 rfl ?_
      refine g_aload_n C dX6_difference_10 0 rfl rfl ?_
      refine gf_RX6_160 C hk0 dX6_difference_11 ?_
      refine g_icmp_ge C dX6_difference_14 (tgt := 48) (by decide) (fun c14 => ?_) (fun c14 => ?_)
      · have hw := hw.1 c14
        refine g_iconst C dX6_difference_48 (v := 0) rfl ?_
        refine g_istore C dX6_difference_49 (Nat.le_of_ble_eq_true rfl) (loc' := [(5, .int 0), (0, gR E o), (1, .int p1), (2, .int p2), (3, .int x3_1), (4, .int 0)]) rfl ?_
        obtain ⟨m51, hw⟩ := hw
        have hL51 : ∀ (n51 : Nat) (x4_3 : Int32) (x5_4 : Int32), wp_X6_difference_L51 o p2 M Q x3_1 n51 x4_3 x5_4 → GX K E 7 M [(0, gR E o), (2, .int p2), (3, .int x3_1), (4, .int x4_3), (5, .int x5_4)] [] 51 0 0 (gEnd K E (qFp M Q) gNo rmX6_difference.cells rmX6_difference.slots) := by
          intro n51
          induction n51 with
          | zero => intro _ _ hw; exact False.elim hw
          | succ n51 ih51 =>
            intro x4_3 x5_4 hw
            refine g_iload C (j := 0) dX6_difference_51 4 rfl ?_
            refine g_aload_n C dX6_difference_53 0 rfl rfl ?_
            refine gf_RX6_253 C hk0 dX6_difference_54 ?_
            refine g_icmp_ge C dX6_difference_57 (tgt := 87) (by decide) (fun c57 => ?_) (fun c57 => ?_)
            · have hw := hw.1 c57
              refine g_iload_n C dX6_difference_87 2 rfl rfl ?_
              refine g_i2f C dX6_difference_88 ?_
              refine g_aload_n C dX6_difference_89 0 rfl rfl ?_
              refine gf_RX6_160 C hk0 dX6_difference_90 ?_
              refine g_i2f C dX6_difference_93 ?_
              refine g_fdiv C dX6_difference_94 (fun f_5 ef_5 => ?_)
              have hw := hw f_5 ef_5
              refine g_fstore C dX6_difference_95 (Nat.le_of_ble_eq_true rfl) (loc' := [(5, .float f_5), (0, gR E o), (2, .int p2), (3, .int x3_1), (4, .int x4_3)]) rfl ?_
              refine g_iload C (j := 0) dX6_difference_97 4 rfl ?_
              refine g_i2f C dX6_difference_99 ?_
              refine g_aload_n C dX6_difference_100 1 rfl rfl ?_
              refine gf_RX6_253 C hk0 dX6_difference_101 ?_
              refine g_i2f C dX6_difference_104 ?_
              refine g_fdiv C dX6_difference_105 (fun f_6 ef_6 => ?_)
              have hw := hw f_6 ef_6
              refine g_fstore C dX6_difference_106 (Nat.le_of_ble_eq_true rfl) (loc' := [(6, .float f_6), (5, .float f_5), (0, gR E o), (2, .int p2), (3, .int x3_1), (4, .int x4_3)]) rfl ?_
              refine g_fload C (j := 0) dX6_difference_108 1 rfl ?_
              refine g_fload C (j := 0) dX6_difference_110 0 rfl ?_
              refine g_fcmp C dX6_difference_112 ?_
              refine g_if_ge C dX6_difference_113 (tgt := 124) (by decide) (fun c113 => ?_) (fun c113 => ?_)
              · have hw := hw.1 c113
                refine g_fload C (j := 0) dX6_difference_124 1 rfl ?_
                refine g_fload C (j := 0) dX6_difference_126 0 rfl ?_
                refine g_fsub C dX6_difference_128 (fun f_7 ef_7 => ?_)
                have hw := hw f_7 ef_7
                exact g_fret C dX6_difference_129 (Nat.le_of_ble_eq_true rfl) (Nat.le_of_ble_eq_true rfl) ⟨_, rfl, rfl, hw⟩
              · have hw := hw.2 c113
                refine g_fload C (j := 0) dX6_difference_116 0 rfl ?_
                refine g_fload C (j := 0) dX6_difference_118 1 rfl ?_
                refine g_fsub C dX6_difference_120 (fun f_8 ef_8 => ?_)
                have hw := hw f_8 ef_8
                refine g_goto C dX6_difference_121 (tgt := 129) (by decide) ?_
                exact g_fret C dX6_difference_129 (Nat.le_of_ble_eq_true rfl) (Nat.le_of_ble_eq_true rfl) ⟨_, rfl, rfl, hw⟩
            · have hw := hw.2 c57
              refine g_iload C (j := 0) dX6_difference_60 3 rfl ?_
              refine g_aload_n C dX6_difference_62 0 rfl rfl ?_
              refine gf_RX6_34 C hk0 dX6_difference_63 ?_
              refine g_iload C (j := 0) dX6_difference_66 4 rfl ?_
              obtain ⟨hk_9, hw⟩ := hw
              obtain ⟨hi_10, hw⟩ := hw
              refine g_iaload C hk_9 hi_10 dX6_difference_68 ?_
              refine g_iload_n C dX6_difference_69 1 rfl rfl ?_
              refine g_icmp_gt C dX6_difference_70 (tgt := 77) (by decide) (fun c70 => ?_) (fun c70 => ?_)
              · have hw := hw.1 c70
                refine g_iconst C dX6_difference_77 (v := 0) rfl ?_
                refine g_iadd C dX6_difference_78 ?_
                refine g_nmI (fun x4_11 ex4_11 => ?_)
                have hw := hw x4_11 ex4_11
                refine g_istore C dX6_difference_79 (Nat.le_of_ble_eq_true rfl) (loc' := [(4, .int x4_11), (0, gR E o), (2, .int p2), (3, .int x3_1), (5, .int x5_4)]) rfl ?_
                obtain ⟨x5_12, ex5_12⟩ : ∃ y : Int32, y = x5_4 + 1 := ⟨_, rfl⟩
                have hw := hw x5_12 ex5_12
                refine g_iinc C (j := 0) dX6_difference_81 4 rfl (v := x5_12) (by rw [ex5_12]; rfl) (Nat.le_of_ble_eq_true rfl) (loc' := [(5, .int x5_12), (4, .int x4_11), (0, gR E o), (2, .int p2), (3, .int x3_1)]) rfl ?_
                refine g_goto C dX6_difference_84 (tgt := 51) (by decide) ?_
                refine g_sub [2, 3, 4, 1, 0] rfl ?_
                exact ih51 _ _ hw
              · have hw := hw.2 c70
                refine g_iconst C dX6_difference_73 (v := 1) rfl ?_
                refine g_goto C dX6_difference_74 (tgt := 78) (by decide) ?_
                refine g_iadd C dX6_difference_78 ?_
                refine g_nmI (fun x4_13 ex4_13 => ?_)
                have hw := hw x4_13 ex4_13
                refine g_istore C dX6_difference_79 (Nat.le_of_ble_eq_true rfl) (loc' := [(4, .int x4_13), (0, gR E o), (2, .int p2), (3, .int x3_1), (5, .int x5_4)]) rfl ?_
                obtain ⟨x5_14, ex5_14⟩ : ∃ y : Int32, y = x5_4 + 1 := ⟨_, rfl⟩
                have hw := hw x5_14 ex5_14
                refine g_iinc C (j := 0) dX6_difference_81 4 rfl (v := x5_14) (by rw [ex5_14]; rfl) (Nat.le_of_ble_eq_true rfl) (loc' := [(5, .int x5_14), (4, .int x4_13), (0, gR E o), (2, .int p2), (3, .int x3_1)]) rfl ?_
                refine g_goto C dX6_difference_84 (tgt := 51) (by decide) ?_
                refine g_sub [2, 3, 4, 1, 0] rfl ?_
                exact ih51 _ _ hw
        refine g_sub [1, 3, 4, 5, 0] rfl ?_
        exact hL51 m51 _ _ hw
      · have hw := hw.2 c14
        refine g_iload_n C dX6_difference_17 3 rfl rfl ?_
        refine g_aload_n C dX6_difference_18 0 rfl rfl ?_
        refine g_iload_n C dX6_difference_19 1 rfl rfl ?_
        refine g_aload_n C dX6_difference_20 0 rfl rfl ?_
        refine gf_RX6_16 C hk0 dX6_difference_21 ?_
        refine g_iload C (j := 0) dX6_difference_24 5 rfl ?_
        obtain ⟨hk_15, hw⟩ := hw
        obtain ⟨hi_16, hw⟩ := hw
        refine g_iaload C hk_15 hi_16 dX6_difference_26 ?_
        refine g_iconst C dX6_difference_27 (v := 4) rfl ?_
        refine g_cV C dX6_difference_28 (met_X6_item C.st hw) (gc_X6_item _ (Nat.le_of_ble_eq_true rfl) (Nat.le_of_ble_eq_true rfl)) tw1197 tw1199 twp38 (ci := 6) rfl (by decide) hk0 rfl (Nat.le_of_ble_eq_true rfl) (c2 := 0) (s2 := 0) rfl rfl (Nat.le_of_ble_eq_true rfl) (Nat.le_of_ble_eq_true rfl) rfl (kIp (fun r_17 hw => ?_)) tNo
        refine g_iload_n C dX6_difference_31 2 rfl rfl ?_
        refine g_icmp_gt C dX6_difference_32 (tgt := 39) (by decide) (fun c32 => ?_) (fun c32 => ?_)
        · have hw := hw.1 c32
          refine g_iconst C dX6_difference_39 (v := 0) rfl ?_
          refine g_iadd C dX6_difference_40 ?_
          refine g_nmI (fun x3_19 ex3_19 => ?_)
          have hw := hw x3_19 ex3_19
          refine g_istore_n C dX6_difference_41 rfl (Nat.le_of_ble_eq_true rfl) (loc' := [(3, .int x3_19), (0, gR E o), (1, .int p1), (2, .int p2), (4, .int 0), (5, .int x5_2)]) rfl ?_
          obtain ⟨x5_20, ex5_20⟩ : ∃ y : Int32, y = x5_2 + 1 := ⟨_, rfl⟩
          have hw := hw x5_20 ex5_20
          refine g_iinc C (j := 0) dX6_difference_42 5 rfl (v := x5_20) (by rw [ex5_20]; rfl) (Nat.le_of_ble_eq_true rfl) (loc' := [(5, .int x5_20), (3, .int x3_19), (0, gR E o), (1, .int p1), (2, .int p2), (4, .int 0)]) rfl ?_
          refine g_goto C dX6_difference_45 (tgt := 8) (by decide) ?_
          refine g_sub [2, 3, 4, 1, 5, 0] rfl ?_
          exact ih8 _ _ hw
        · have hw := hw.2 c32
          refine g_iconst C dX6_difference_35 (v := 1) rfl ?_
          refine g_goto C dX6_difference_36 (tgt := 40) (by decide) ?_
          refine g_iadd C dX6_difference_40 ?_
          refine g_nmI (fun x3_21 ex3_21 => ?_)
          have hw := hw x3_21 ex3_21
          refine g_istore_n C dX6_difference_41 rfl (Nat.le_of_ble_eq_true rfl) (loc' := [(3, .int x3_21), (0, gR E o), (1, .int p1), (2, .int p2), (4, .int 0), (5, .int x5_2)]) rfl ?_
          obtain ⟨x5_22, ex5_22⟩ : ∃ y : Int32, y = x5_2 + 1 := ⟨_, rfl⟩
          have hw := hw x5_22 ex5_22
          refine g_iinc C (j := 0) dX6_difference_42 5 rfl (v := x5_22) (by rw [ex5_22]; rfl) (Nat.le_of_ble_eq_true rfl) (loc' := [(5, .int x5_22), (3, .int x3_21), (0, gR E o), (1, .int p1), (2, .int p2), (4, .int 0)]) rfl ?_
          refine g_goto C dX6_difference_45 (tgt := 8) (by decide) ?_
          refine g_sub [2, 3, 4, 1, 5, 0] rfl ?_
          exact ih8 _ _ hw
  refine g_sub [3, 4, 5, 2, 1, 0] rfl ?_
  exact hL8 m8 _ _ hw
theorem gc_X6_difference : ∀ rm : Room, rmX6_difference.frames + 1 ≤ rm.frames → 8 + (7 + 11) + rmX6_difference.locals ≤ rm.locals → gCall yX6_difference 7 2 rmX6_difference rm := fun rm a b => ⟨Or.inl ⟨_, _, tw1395⟩, tw8, ⟨by decide, by decide⟩, by decide, a, b⟩
abbrev rmX6_distance : Room := { frames := 6, cells := 0, slots := 0, locals := 140 }
def wp_X6_distance_J138 (o : Nat) (p1 : Int32) (M_19 : MEM) (K85 : UInt32 → Int32 → Prop) (x3_20 : UInt32) (x4_21 : Int32) (s_22 : Int32) : Prop := wp_X6_difference o p1 s_22 M_19 (fun r_23 => ((Op.cmpValue (FP.fcmp r_23 x3_20) .l) ≤ 0 → (∀ x4_25 : Int32, x4_25 = x4_21 + 1 → (K85 x3_20 x4_25))) ∧ (¬ (Op.cmpValue (FP.fcmp r_23 x3_20) .l) ≤ 0 → (∀ x4_26 : Int32, x4_26 = x4_21 + 1 → (K85 r_23 x4_26))))
def wp_X6_distance_L85 (o : Nat) (p1 : Int32) (Q : UInt32 → MEM → Prop) (M_19 : MEM) : Nat → UInt32 → Int32 → Prop
  | 0, _, _ => False
  | n85 + 1, x3_20, x4_21 => (((mI M_19 o 6) + (mI M_19 o 17)) ≤ x4_21 → (Q x3_20 M_19)) ∧ (¬ ((mI M_19 o 6) + (mI M_19 o 17)) ≤ x4_21 → (((mI M_19 o 6) ≤ x4_21 → (KD (RF o 15) = (0, 60) ∧ vp_in (x4_21 - (mI M_19 o 6)) 60 ∧ (wp_X6_distance_J138 o p1 M_19 (wp_X6_distance_L85 o p1 Q M_19 n85) x3_20 x4_21 (mI M_19 (RF o 15) (x4_21 - (mI M_19 o 6)).toNatClampNeg)))) ∧ (¬ (mI M_19 o 6) ≤ x4_21 → (KD (RF o 3) = (0, 60) ∧ vp_in x4_21 60 ∧ (wp_X6_item o p1 (mI M_19 (RF o 3) x4_21.toNatClampNeg) 4 M_19 (fun r_31 => wp_X6_distance_J138 o p1 M_19 (wp_X6_distance_L85 o p1 Q M_19 n85) x3_20 x4_21 r_31))))))
def wp_X6_distance (o : Nat) (p1 : Int32) (p2 : Int32) (M : MEM) (Q : UInt32 → MEM → Prop) : Prop := KD o = (16, 0) ∧ (wp_X6_isSlot p1 M (fun r_1 => (r_1 = 0 → (wp_X6_fails o 1 M (fun r_3 M_4 => Q (FP.i2f r_3) M_4))) ∧ (¬ r_1 = 0 → (wp_X6_isSlot p2 M (fun r_5 => (¬ r_5 = 0 → (wp_X6_isThere o p1 M (fun r_7 => (r_7 = 0 → (wp_X6_fails o 2 M (fun r_9 M_10 => Q (FP.i2f r_9) M_10))) ∧ (¬ r_7 = 0 → (wp_X6_isThere o p2 M (fun r_11 => (¬ r_11 = 0 → (wp_X6_putsAside o p2 M (fun M_14 => wp_X6_finds o p1 M_14 (fun M_16 => ((mI M_16 o 6) = 0 → (wp_X6_fails o 3 M_16 (fun r_17 M_18 => Q (FP.i2f r_17) M_18))) ∧ (¬ (mI M_16 o 6) = 0 → ((¬ (mI M_16 o 17) = 0 → ((∀ M_19 : MEM, M_19 = uI M_16 o 0 0 → (∃ m85 : Nat, wp_X6_distance_L85 o p1 Q M_19 m85 0 0)))) ∧ ((mI M_16 o 17) = 0 → (wp_X6_fails o 3 M_16 (fun r_33 M_34 => Q (FP.i2f r_33) M_34))))))))) ∧ (r_11 = 0 → (wp_X6_fails o 2 M (fun r_35 M_36 => Q (FP.i2f r_35) M_36))))))))) ∧ (r_5 = 0 → (wp_X6_fails o 1 M (fun r_37 M_38 => Q (FP.i2f r_37) M_38))))))))
set_option maxRecDepth 100000 in
set_option maxHeartbeats 4000000 in
theorem met_X6_distance {l : Launch} (hl : l.stackTraces = false) {E : MK} {o : Nat} {p1 : Int32} {p2 : Int32} {M : MEM} {Q : UInt32 → MEM → Prop} (hw : wp_X6_distance o p1 p2 M Q) : gMet l E yX6_distance rmX6_distance [gR E o, .int p1, .int p2] M (qF Q) gNo := by
  obtain ⟨hk0, hw⟩ := hw
  refine g_met hl (cc := cX6_distance) (maxL := 6) (ret := (some .float)) (hh := []) (loc := [(0, gR E o), (1, .int p1), (2, .int p2)]) (by decide +kernel) (Or.inl ⟨tw1387, rfl⟩) (Nat.le_of_ble_eq_true rfl) rfl (fun K hK C => ?_)
  have C : GC K E cX6_distance RX6 6 (some .float) [] rmX6_distance := C
  refine g_iload_n C dX6_distance_0 1 rfl rfl ?_
  refine g_cS C dX6_distance_1 (met_X6_isSlot C.st hw) (gc_X6_isSlot _ (Nat.le_of_ble_eq_true rfl) (Nat.le_of_ble_eq_true rfl)) (Or.inl tw1128) tw1129 rfl (Nat.le_of_ble_eq_true rfl) (c2 := 0) (s2 := 0) rfl rfl (Nat.le_of_ble_eq_true rfl) (Nat.le_of_ble_eq_true rfl) rfl (kIp (fun r_1 hw => ?_)) tNo
  refine g_if_eq C dX6_distance_4 (tgt := 14) (by decide) (fun c4 => ?_) (fun c4 => ?_)
  · have hw := hw.1 c4
    refine g_aload_n C dX6_distance_14 0 rfl rfl ?_
    refine g_iconst C dX6_distance_15 (v := 1) rfl ?_
    refine g_cV C dX6_distance_16 (met_X6_fails C.st hw) (gc_X6_fails _ (Nat.le_of_ble_eq_true rfl) (Nat.le_of_ble_eq_true rfl)) tw1131 tw1133 twp28 (ci := 6) rfl (by decide) hk0 rfl (Nat.le_of_ble_eq_true rfl) (c2 := 0) (s2 := 0) rfl rfl (Nat.le_of_ble_eq_true rfl) (Nat.le_of_ble_eq_true rfl) rfl (kI (fun r_3 M_4 hw => ?_)) tNo
    refine g_i2f C dX6_distance_19 ?_
    exact g_fret C dX6_distance_20 (Nat.le_of_ble_eq_true rfl) (Nat.le_of_ble_eq_true rfl) ⟨_, rfl, hw⟩
  · have hw := hw.2 c4
    refine g_iload_n C dX6_distance_7 2 rfl rfl ?_
    refine g_cS C dX6_distance_8 (met_X6_isSlot C.st hw) (gc_X6_isSlot _ (Nat.le_of_ble_eq_true rfl) (Nat.le_of_ble_eq_true rfl)) (Or.inl tw1128) tw1129 rfl (Nat.le_of_ble_eq_true rfl) (c2 := 0) (s2 := 0) rfl rfl (Nat.le_of_ble_eq_true rfl) (Nat.le_of_ble_eq_true rfl) rfl (kIp (fun r_5 hw => ?_)) tNo
    refine g_if_ne C dX6_distance_11 (tgt := 21) (by decide) (fun c11 => ?_) (fun c11 => ?_)
    · have hw := hw.1 c11
      refine g_aload_n C dX6_distance_21 0 rfl rfl ?_
      refine g_iload_n C dX6_distance_22 1 rfl rfl ?_
      refine g_cV C dX6_distance_23 (met_X6_isThere C.st hw) (gc_X6_isThere _ (Nat.le_of_ble_eq_true rfl) (Nat.le_of_ble_eq_true rfl)) tw1152 tw1154 twp31 (ci := 6) rfl (by decide) hk0 rfl (Nat.le_of_ble_eq_true rfl) (c2 := 0) (s2 := 0) rfl rfl (Nat.le_of_ble_eq_true rfl) (Nat.le_of_ble_eq_true rfl) rfl (kIp (fun r_7 hw => ?_)) tNo
      refine g_if_eq C dX6_distance_26 (tgt := 37) (by decide) (fun c26 => ?_) (fun c26 => ?_)
      · have hw := hw.1 c26
        refine g_aload_n C dX6_distance_37 0 rfl rfl ?_
        refine g_iconst C dX6_distance_38 (v := 2) rfl ?_
        refine g_cV C dX6_distance_39 (met_X6_fails C.st hw) (gc_X6_fails _ (Nat.le_of_ble_eq_true rfl) (Nat.le_of_ble_eq_true rfl)) tw1131 tw1133 twp28 (ci := 6) rfl (by decide) hk0 rfl (Nat.le_of_ble_eq_true rfl) (c2 := 0) (s2 := 0) rfl rfl (Nat.le_of_ble_eq_true rfl) (Nat.le_of_ble_eq_true rfl) rfl (kI (fun r_9 M_10 hw => ?_)) tNo
        refine g_i2f C dX6_distance_42 ?_
        exact g_fret C dX6_distance_43 (Nat.le_of_ble_eq_true rfl) (Nat.le_of_ble_eq_true rfl) ⟨_, rfl, hw⟩
      · have hw := hw.2 c26
        refine g_aload_n C dX6_distance_29 0 rfl rfl ?_
        refine g_iload_n C dX6_distance_30 2 rfl rfl ?_
        refine g_cV C dX6_distance_31 (met_X6_isThere C.st hw) (gc_X6_isThere _ (Nat.le_of_ble_eq_true rfl) (Nat.le_of_ble_eq_true rfl)) tw1152 tw1154 twp31 (ci := 6) rfl (by decide) hk0 rfl (Nat.le_of_ble_eq_true rfl) (c2 := 0) (s2 := 0) rfl rfl (Nat.le_of_ble_eq_true rfl) (Nat.le_of_ble_eq_true rfl) rfl (kIp (fun r_11 hw => ?_)) tNo
        refine g_if_ne C dX6_distance_34 (tgt := 44) (by decide) (fun c34 => ?_) (fun c34 => ?_)
        · have hw := hw.1 c34
          refine g_aload_n C dX6_distance_44 0 rfl rfl ?_
          refine g_iload_n C dX6_distance_45 2 rfl rfl ?_
          refine g_cV C dX6_distance_46 (met_X6_putsAside C.st hw) (gc_X6_putsAside _ (Nat.le_of_ble_eq_true rfl) (Nat.le_of_ble_eq_true rfl)) tw1388 tw1390 twp60 (ci := 6) rfl (by decide) hk0 rfl (Nat.le_of_ble_eq_true rfl) (c2 := 0) (s2 := 0) rfl rfl (Nat.le_of_ble_eq_true rfl) (Nat.le_of_ble_eq_true rfl) rfl (kV (fun M_14 hw => ?_)) tNo
          refine g_aload_n C dX6_distance_49 0 rfl rfl ?_
          refine g_iload_n C dX6_distance_50 1 rfl rfl ?_
          refine g_cV C dX6_distance_51 (met_X6_finds C.st hw) (gc_X6_finds _ (Nat.le_of_ble_eq_true rfl) (Nat.le_of_ble_eq_true rfl)) tw1216 tw1218 twp40 (ci := 6) rfl (by decide) hk0 rfl (Nat.le_of_ble_eq_true rfl) (c2 := 0) (s2 := 0) rfl rfl (Nat.le_of_ble_eq_true rfl) (Nat.le_of_ble_eq_true rfl) rfl (kV (fun M_16 hw => ?_)) tNo
          refine g_aload_n C dX6_distance_54 0 rfl rfl ?_
          refine gf_RX6_160 C hk0 dX6_distance_55 ?_
          refine g_if_eq C dX6_distance_58 (tgt := 68) (by decide) (fun c58 => ?_) (fun c58 => ?_)
          · have hw := hw.1 c58
            refine g_aload_n C dX6_distance_68 0 rfl rfl ?_
            refine g_iconst C dX6_distance_69 (v := 3) rfl ?_
            refine g_cV C dX6_distance_70 (met_X6_fails C.st hw) (gc_X6_fails _ (Nat.le_of_ble_eq_true rfl) (Nat.le_of_ble_eq_true rfl)) tw1131 tw1133 twp28 (ci := 6) rfl (by decide) hk0 rfl (Nat.le_of_ble_eq_true rfl) (c2 := 0) (s2 := 0) rfl rfl (Nat.le_of_ble_eq_true rfl) (Nat.le_of_ble_eq_true rfl) rfl (kI (fun r_17 M_18 hw => ?_)) tNo
            refine g_i2f C dX6_distance_73 ?_
            exact g_fret C dX6_distance_74 (Nat.le_of_ble_eq_true rfl) (Nat.le_of_ble_eq_true rfl) ⟨_, rfl, hw⟩
          · have hw := hw.2 c58
            refine g_aload_n C dX6_distance_61 0 rfl rfl ?_
            refine gf_RX6_253 C hk0 dX6_distance_62 ?_
            refine g_if_ne C dX6_distance_65 (tgt := 75) (by decide) (fun c65 => ?_) (fun c65 => ?_)
            · have hw := hw.1 c65
              refine g_aload_n C dX6_distance_75 0 rfl rfl ?_
              refine g_iconst C dX6_distance_76 (v := 0) rfl ?_
              refine pf_RX6_57 C hk0 dX6_distance_77 ?_
              refine g_nmM (fun M_19 eM_19 => ?_)
              have hw := hw M_19 eM_19
              refine g_fconst C dX6_distance_80 ?_
              refine g_fstore_n C dX6_distance_81 rfl (Nat.le_of_ble_eq_true rfl) (loc' := [(3, .float 0), (0, gR E o), (1, .int p1), (2, .int p2)]) rfl ?_
              refine g_iconst C dX6_distance_82 (v := 0) rfl ?_
              refine g_istore C dX6_distance_83 (Nat.le_of_ble_eq_true rfl) (loc' := [(4, .int 0), (3, .float 0), (0, gR E o), (1, .int p1), (2, .int p2)]) rfl ?_
              obtain ⟨m85, hw⟩ := hw
              have hL85 : ∀ (n85 : Nat) (x3_20 : UInt32) (x4_21 : Int32), wp_X6_distance_L85 o p1 Q M_19 n85 x3_20 x4_21 → GX K E 6 M_19 [(0, gR E o), (1, .int p1), (3, .float x3_20), (4, .int x4_21)] [] 85 0 0 (gEnd K E (qF Q) gNo rmX6_distance.cells rmX6_distance.slots) := by
                intro n85
                induction n85 with
                | zero => intro _ _ hw; exact False.elim hw
                | succ n85 ih85 =>
                  intro x3_20 x4_21 hw
                  refine g_iload C (j := 0) dX6_distance_85 3 rfl ?_
                  refine g_aload_n C dX6_distance_87 0 rfl rfl ?_
                  refine gf_RX6_160 C hk0 dX6_distance_88 ?_
                  refine g_aload_n C dX6_distance_91 0 rfl rfl ?_
                  refine gf_RX6_253 C hk0 dX6_distance_92 ?_
                  refine g_iadd C dX6_distance_95 ?_
                  refine g_icmp_ge C dX6_distance_96 (tgt := 163) (by decide) (fun c96 => ?_) (fun c96 => ?_)
                  · have hw := hw.1 c96
                    refine g_fload_n C dX6_distance_163 2 rfl rfl ?_
                    exact g_fret C dX6_distance_164 (Nat.le_of_ble_eq_true rfl) (Nat.le_of_ble_eq_true rfl) ⟨_, rfl, hw⟩
                  · have hw := hw.2 c96
                    refine g_aload_n C dX6_distance_99 0 rfl rfl ?_
                    refine g_iload_n C dX6_distance_100 1 rfl rfl ?_
                    refine g_iload C (j := 0) dX6_distance_101 3 rfl ?_
                    refine g_aload_n C dX6_distance_103 0 rfl rfl ?_
                    refine gf_RX6_160 C hk0 dX6_distance_104 ?_
                    have hJ138 : ∀ (s_22 : Int32), wp_X6_distance_J138 o p1 M_19 (wp_X6_distance_L85 o p1 Q M_19 n85) x3_20 x4_21 s_22 → GX K E 6 M_19 [(0, gR E o), (1, .int p1), (3, .float x3_20), (4, .int x4_21)] [.int s_22, .int p1, gR E o] 138 0 0 (gEnd K E (qF Q) gNo rmX6_distance.cells rmX6_distance.slots) := by
                      intro s_22 hw
                      refine g_cV C dX6_distance_138 (met_X6_difference C.st hw) (gc_X6_difference _ (Nat.le_of_ble_eq_true rfl) (Nat.le_of_ble_eq_true rfl)) tw1392 tw1394 twp61 (ci := 6) rfl (by decide) hk0 rfl (Nat.le_of_ble_eq_true rfl) (c2 := 0) (s2 := 0) rfl rfl (Nat.le_of_ble_eq_true rfl) (Nat.le_of_ble_eq_true rfl) rfl (kFp (fun r_23 hw => ?_)) tNo
                      refine g_fstore C dX6_distance_141 (Nat.le_of_ble_eq_true rfl) (loc' := [(5, .float r_23), (0, gR E o), (1, .int p1), (3, .float x3_20), (4, .int x4_21)]) rfl ?_
                      refine g_fload C (j := 0) dX6_distance_143 0 rfl ?_
                      refine g_fload_n C dX6_distance_145 3 rfl rfl ?_
                      refine g_fcmp C dX6_distance_146 ?_
                      refine g_if_le C dX6_distance_147 (tgt := 155) (by decide) (fun c147 => ?_) (fun c147 => ?_)
                      · have hw := hw.1 c147
                        refine g_fload_n C dX6_distance_155 3 rfl rfl ?_
                        refine g_fstore_n C dX6_distance_156 rfl (Nat.le_of_ble_eq_true rfl) (loc' := [(3, .float x3_20), (5, .float r_23), (0, gR E o), (1, .int p1), (4, .int x4_21)]) rfl ?_
                        obtain ⟨x4_25, ex4_25⟩ : ∃ y : Int32, y = x4_21 + 1 := ⟨_, rfl⟩
                        have hw := hw x4_25 ex4_25
                        refine g_iinc C (j := 0) dX6_distance_157 4 rfl (v := x4_25) (by rw [ex4_25]; rfl) (Nat.le_of_ble_eq_true rfl) (loc' := [(4, .int x4_25), (3, .float x3_20), (5, .float r_23), (0, gR E o), (1, .int p1)]) rfl ?_
                        refine g_goto C dX6_distance_160 (tgt := 85) (by decide) ?_
                        refine g_sub [3, 4, 1, 0] rfl ?_
                        exact ih85 _ _ hw
                      · have hw := hw.2 c147
                        refine g_fload C (j := 0) dX6_distance_150 0 rfl ?_
                        refine g_goto C dX6_distance_152 (tgt := 156) (by decide) ?_
                        refine g_fstore_n C dX6_distance_156 rfl (Nat.le_of_ble_eq_true rfl) (loc' := [(3, .float r_23), (5, .float r_23), (0, gR E o), (1, .int p1), (4, .int x4_21)]) rfl ?_
                        obtain ⟨x4_26, ex4_26⟩ : ∃ y : Int32, y = x4_21 + 1 := ⟨_, rfl⟩
                        have hw := hw x4_26 ex4_26
                        refine g_iinc C (j := 0) dX6_distance_157 4 rfl (v := x4_26) (by rw [ex4_26]; rfl) (Nat.le_of_ble_eq_true rfl) (loc' := [(4, .int x4_26), (3, .float r_23), (5, .float r_23), (0, gR E o), (1, .int p1)]) rfl ?_
                        refine g_goto C dX6_distance_160 (tgt := 85) (by decide) ?_
                        refine g_sub [3, 4, 1, 0] rfl ?_
                        exact ih85 _ _ hw
                    refine g_icmp_ge C dX6_distance_107 (tgt := 126) (by decide) (fun c107 => ?_) (fun c107 => ?_)
                    · have hw := hw.1 c107
                      refine g_aload_n C dX6_distance_126 0 rfl rfl ?_
                      refine gf_RX6_34 C hk0 dX6_distance_127 ?_
                      refine g_iload C (j := 0) dX6_distance_130 3 rfl ?_
                      refine g_aload_n C dX6_distance_132 0 rfl rfl ?_
                      refine gf_RX6_160 C hk0 dX6_distance_133 ?_
                      refine g_isub C dX6_distance_136 ?_
                      obtain ⟨hk_27, hw⟩ := hw
                      obtain ⟨hi_28, hw⟩ := hw
                      refine g_iaload C hk_27 hi_28 dX6_distance_137 ?_
                      exact hJ138 _ hw
                    · have hw := hw.2 c107
                      refine g_aload_n C dX6_distance_110 0 rfl rfl ?_
                      refine g_iload_n C dX6_distance_111 1 rfl rfl ?_
                      refine g_aload_n C dX6_distance_112 0 rfl rfl ?_
                      refine gf_RX6_16 C hk0 dX6_distance_113 ?_
                      refine g_iload C (j := 0) dX6_distance_116 3 rfl ?_
                      obtain ⟨hk_29, hw⟩ := hw
                      obtain ⟨hi_30, hw⟩ := hw
                      refine g_iaload C hk_29 hi_30 dX6_distance_118 ?_
                      refine g_iconst C dX6_distance_119 (v := 4) rfl ?_
                      refine g_cV C dX6_distance_120 (met_X6_item C.st hw) (gc_X6_item _ (Nat.le_of_ble_eq_true rfl) (Nat.le_of_ble_eq_true rfl)) tw1197 tw1199 twp38 (ci := 6) rfl (by decide) hk0 rfl (Nat.le_of_ble_eq_true rfl) (c2 := 0) (s2 := 0) rfl rfl (Nat.le_of_ble_eq_true rfl) (Nat.le_of_ble_eq_true rfl) rfl (kIp (fun r_31 hw => ?_)) tNo
                      refine g_goto C dX6_distance_123 (tgt := 138) (by decide) ?_
                      exact hJ138 _ hw
              refine g_sub [2, 3, 1, 0] rfl ?_
              exact hL85 m85 _ _ hw
            · have hw := hw.2 c65
              refine g_aload_n C dX6_distance_68 0 rfl rfl ?_
              refine g_iconst C dX6_distance_69 (v := 3) rfl ?_
              refine g_cV C dX6_distance_70 (met_X6_fails C.st hw) (gc_X6_fails _ (Nat.le_of_ble_eq_true rfl) (Nat.le_of_ble_eq_true rfl)) tw1131 tw1133 twp28 (ci := 6) rfl (by decide) hk0 rfl (Nat.le_of_ble_eq_true rfl) (c2 := 0) (s2 := 0) rfl rfl (Nat.le_of_ble_eq_true rfl) (Nat.le_of_ble_eq_true rfl) rfl (kI (fun r_33 M_34 hw => ?_)) tNo
              refine g_i2f C dX6_distance_73 ?_
              exact g_fret C dX6_distance_74 (Nat.le_of_ble_eq_true rfl) (Nat.le_of_ble_eq_true rfl) ⟨_, rfl, hw⟩
        · have hw := hw.2 c34
          refine g_aload_n C dX6_distance_37 0 rfl rfl ?_
          refine g_iconst C dX6_distance_38 (v := 2) rfl ?_
          refine g_cV C dX6_distance_39 (met_X6_fails C.st hw) (gc_X6_fails _ (Nat.le_of_ble_eq_true rfl) (Nat.le_of_ble_eq_true rfl)) tw1131 tw1133 twp28 (ci := 6) rfl (by decide) hk0 rfl (Nat.le_of_ble_eq_true rfl) (c2 := 0) (s2 := 0) rfl rfl (Nat.le_of_ble_eq_true rfl) (Nat.le_of_ble_eq_true rfl) rfl (kI (fun r_35 M_36 hw => ?_)) tNo
          refine g_i2f C dX6_distance_42 ?_
          exact g_fret C dX6_distance_43 (Nat.le_of_ble_eq_true rfl) (Nat.le_of_ble_eq_true rfl) ⟨_, rfl, hw⟩
    · have hw := hw.2 c11
      refine g_aload_n C dX6_distance_14 0 rfl rfl ?_
      refine g_iconst C dX6_distance_15 (v := 1) rfl ?_
      refine g_cV C dX6_distance_16 (met_X6_fails C.st hw) (gc_X6_fails _ (Nat.le_of_ble_eq_true rfl) (Nat.le_of_ble_eq_true rfl)) tw1131 tw1133 twp28 (ci := 6) rfl (by decide) hk0 rfl (Nat.le_of_ble_eq_true rfl) (c2 := 0) (s2 := 0) rfl rfl (Nat.le_of_ble_eq_true rfl) (Nat.le_of_ble_eq_true rfl) rfl (kI (fun r_37 M_38 hw => ?_)) tNo
      refine g_i2f C dX6_distance_19 ?_
      exact g_fret C dX6_distance_20 (Nat.le_of_ble_eq_true rfl) (Nat.le_of_ble_eq_true rfl) ⟨_, rfl, hw⟩
theorem gc_X6_distance : ∀ rm : Room, rmX6_distance.frames + 1 ≤ rm.frames → 8 + (6 + 11) + rmX6_distance.locals ≤ rm.locals → gCall yX6_distance 6 2 rmX6_distance rm := fun rm a b => ⟨Or.inl ⟨_, _, tw1387⟩, tw8, ⟨by decide, by decide⟩, by decide, a, b⟩
abbrev rmX6_common : Room := { frames := 6, cells := 0, slots := 0, locals := 140 }
def wp_X6_common_L74 (o : Nat) (p1 : Int32) (M_17 : MEM) (K62 : Int32 → Int32 → Prop) (x4_19 : Int32) : Nat → Int32 → Int32 → Prop
  | 0, _, _ => False
  | n74 + 1, x3_20, x5_21 => ((mI M_17 o 17) ≤ x5_21 → (∀ x4_22 : Int32, x4_22 = x4_19 + 1 → (K62 x3_20 x4_22))) ∧ (¬ (mI M_17 o 17) ≤ x5_21 → (KD (RF o 3) = (0, 60) ∧ vp_in x4_19 60 ∧ (wp_X6_item o p1 (mI M_17 (RF o 3) x4_19.toNatClampNeg) 0 M_17 (fun r_25 => KD (RF o 16) = (0, 60) ∧ vp_in x5_21 60 ∧ ((¬ r_25 = (mI M_17 (RF o 16) x5_21.toNatClampNeg) → (∀ x3_29 : Int32, x3_29 = x3_20 + 0 → (∀ x5_30 : Int32, x5_30 = x5_21 + 1 → ((wp_X6_common_L74 o p1 M_17 K62 x4_19 n74) x3_29 x5_30)))) ∧ (r_25 = (mI M_17 (RF o 16) x5_21.toNatClampNeg) → (∀ x3_31 : Int32, x3_31 = x3_20 + 1 → (∀ x5_32 : Int32, x5_32 = x5_21 + 1 → ((wp_X6_common_L74 o p1 M_17 K62 x4_19 n74) x3_31 x5_32)))))))))
def wp_X6_common_L62 (o : Nat) (p1 : Int32) (Q : Int32 → MEM → Prop) (M_17 : MEM) : Nat → Int32 → Int32 → Prop
  | 0, _, _ => False
  | n62 + 1, x3_18, x4_19 => ((mI M_17 o 6) ≤ x4_19 → (Q x3_18 M_17)) ∧ (¬ (mI M_17 o 6) ≤ x4_19 → (∃ m74 : Nat, wp_X6_common_L74 o p1 M_17 (wp_X6_common_L62 o p1 Q M_17 n62) x4_19 m74 x3_18 0))
def wp_X6_common (o : Nat) (p1 : Int32) (p2 : Int32) (M : MEM) (Q : Int32 → MEM → Prop) : Prop := KD o = (16, 0) ∧ (wp_X6_isSlot p1 M (fun r_1 => (r_1 = 0 → (wp_X6_fails o 1 M (fun r_3 M_4 => Q r_3 M_4))) ∧ (¬ r_1 = 0 → (wp_X6_isSlot p2 M (fun r_5 => (¬ r_5 = 0 → (wp_X6_isThere o p1 M (fun r_7 => (r_7 = 0 → (wp_X6_fails o 2 M (fun r_9 M_10 => Q r_9 M_10))) ∧ (¬ r_7 = 0 → (wp_X6_isThere o p2 M (fun r_11 => (¬ r_11 = 0 → ((∀ M_13 : MEM, M_13 = uI M o 0 0 → (wp_X6_putsAside o p2 M_13 (fun M_15 => wp_X6_finds o p1 M_15 (fun M_17 => ∃ m62 : Nat, wp_X6_common_L62 o p1 Q M_17 m62 0 0)))))) ∧ (r_11 = 0 → (wp_X6_fails o 2 M (fun r_33 M_34 => Q r_33 M_34))))))))) ∧ (r_5 = 0 → (wp_X6_fails o 1 M (fun r_35 M_36 => Q r_35 M_36))))))))
set_option maxRecDepth 100000 in
set_option maxHeartbeats 4000000 in
theorem met_X6_common {l : Launch} (hl : l.stackTraces = false) {E : MK} {o : Nat} {p1 : Int32} {p2 : Int32} {M : MEM} {Q : Int32 → MEM → Prop} (hw : wp_X6_common o p1 p2 M Q) : gMet l E yX6_common rmX6_common [gR E o, .int p1, .int p2] M (qI Q) gNo := by
  obtain ⟨hk0, hw⟩ := hw
  refine g_met hl (cc := cX6_common) (maxL := 6) (ret := (some .int)) (hh := []) (loc := [(0, gR E o), (1, .int p1), (2, .int p2)]) (by decide +kernel) (Or.inl ⟨tw1399, rfl⟩) (Nat.le_of_ble_eq_true rfl) rfl (fun K hK C => ?_)
  have C : GC K E cX6_common RX6 6 (some .int) [] rmX6_common := C
  refine g_iload_n C dX6_common_0 1 rfl rfl ?_
  refine g_cS C dX6_common_1 (met_X6_isSlot C.st hw) (gc_X6_isSlot _ (Nat.le_of_ble_eq_true rfl) (Nat.le_of_ble_eq_true rfl)) (Or.inl tw1128) tw1129 rfl (Nat.le_of_ble_eq_true rfl) (c2 := 0) (s2 := 0) rfl rfl (Nat.le_of_ble_eq_true rfl) (Nat.le_of_ble_eq_true rfl) rfl (kIp (fun r_1 hw => ?_)) tNo
  refine g_if_eq C dX6_common_4 (tgt := 14) (by decide) (fun c4 => ?_) (fun c4 => ?_)
  · have hw := hw.1 c4
    refine g_aload_n C dX6_common_14 0 rfl rfl ?_
    refine g_iconst C dX6_common_15 (v := 1) rfl ?_
    refine g_cV C dX6_common_16 (met_X6_fails C.st hw) (gc_X6_fails _ (Nat.le_of_ble_eq_true rfl) (Nat.le_of_ble_eq_true rfl)) tw1131 tw1133 twp28 (ci := 6) rfl (by decide) hk0 rfl (Nat.le_of_ble_eq_true rfl) (c2 := 0) (s2 := 0) rfl rfl (Nat.le_of_ble_eq_true rfl) (Nat.le_of_ble_eq_true rfl) rfl (kI (fun r_3 M_4 hw => ?_)) tNo
    exact g_iret C dX6_common_19 (Nat.le_of_ble_eq_true rfl) (Nat.le_of_ble_eq_true rfl) ⟨_, rfl, hw⟩
  · have hw := hw.2 c4
    refine g_iload_n C dX6_common_7 2 rfl rfl ?_
    refine g_cS C dX6_common_8 (met_X6_isSlot C.st hw) (gc_X6_isSlot _ (Nat.le_of_ble_eq_true rfl) (Nat.le_of_ble_eq_true rfl)) (Or.inl tw1128) tw1129 rfl (Nat.le_of_ble_eq_true rfl) (c2 := 0) (s2 := 0) rfl rfl (Nat.le_of_ble_eq_true rfl) (Nat.le_of_ble_eq_true rfl) rfl (kIp (fun r_5 hw => ?_)) tNo
    refine g_if_ne C dX6_common_11 (tgt := 20) (by decide) (fun c11 => ?_) (fun c11 => ?_)
    · have hw := hw.1 c11
      refine g_aload_n C dX6_common_20 0 rfl rfl ?_
      refine g_iload_n C dX6_common_21 1 rfl rfl ?_
      refine g_cV C dX6_common_22 (met_X6_isThere C.st hw) (gc_X6_isThere _ (Nat.le_of_ble_eq_true rfl) (Nat.le_of_ble_eq_true rfl)) tw1152 tw1154 twp31 (ci := 6) rfl (by decide) hk0 rfl (Nat.le_of_ble_eq_true rfl) (c2 := 0) (s2 := 0) rfl rfl (Nat.le_of_ble_eq_true rfl) (Nat.le_of_ble_eq_true rfl) rfl (kIp (fun r_7 hw => ?_)) tNo
      refine g_if_eq C dX6_common_25 (tgt := 36) (by decide) (fun c25 => ?_) (fun c25 => ?_)
      · have hw := hw.1 c25
        refine g_aload_n C dX6_common_36 0 rfl rfl ?_
        refine g_iconst C dX6_common_37 (v := 2) rfl ?_
        refine g_cV C dX6_common_38 (met_X6_fails C.st hw) (gc_X6_fails _ (Nat.le_of_ble_eq_true rfl) (Nat.le_of_ble_eq_true rfl)) tw1131 tw1133 twp28 (ci := 6) rfl (by decide) hk0 rfl (Nat.le_of_ble_eq_true rfl) (c2 := 0) (s2 := 0) rfl rfl (Nat.le_of_ble_eq_true rfl) (Nat.le_of_ble_eq_true rfl) rfl (kI (fun r_9 M_10 hw => ?_)) tNo
        exact g_iret C dX6_common_41 (Nat.le_of_ble_eq_true rfl) (Nat.le_of_ble_eq_true rfl) ⟨_, rfl, hw⟩
      · have hw := hw.2 c25
        refine g_aload_n C dX6_common_28 0 rfl rfl ?_
        refine g_iload_n C dX6_common_29 2 rfl rfl ?_
        refine g_cV C dX6_common_30 (met_X6_isThere C.st hw) (gc_X6_isThere _ (Nat.le_of_ble_eq_true rfl) (Nat.le_of_ble_eq_true rfl)) tw1152 tw1154 twp31 (ci := 6) rfl (by decide) hk0 rfl (Nat.le_of_ble_eq_true rfl) (c2 := 0) (s2 := 0) rfl rfl (Nat.le_of_ble_eq_true rfl) (Nat.le_of_ble_eq_true rfl) rfl (kIp (fun r_11 hw => ?_)) tNo
        refine g_if_ne C dX6_common_33 (tgt := 42) (by decide) (fun c33 => ?_) (fun c33 => ?_)
        · have hw := hw.1 c33
          refine g_aload_n C dX6_common_42 0 rfl rfl ?_
          refine g_iconst C dX6_common_43 (v := 0) rfl ?_
          refine pf_RX6_57 C hk0 dX6_common_44 ?_
          refine g_nmM (fun M_13 eM_13 => ?_)
          have hw := hw M_13 eM_13
          refine g_aload_n C dX6_common_47 0 rfl rfl ?_
          refine g_iload_n C dX6_common_48 2 rfl rfl ?_
          refine g_cV C dX6_common_49 (met_X6_putsAside C.st hw) (gc_X6_putsAside _ (Nat.le_of_ble_eq_true rfl) (Nat.le_of_ble_eq_true rfl)) tw1388 tw1390 twp60 (ci := 6) rfl (by decide) hk0 rfl (Nat.le_of_ble_eq_true rfl) (c2 := 0) (s2 := 0) rfl rfl (Nat.le_of_ble_eq_true rfl) (Nat.le_of_ble_eq_true rfl) rfl (kV (fun M_15 hw => ?_)) tNo
          refine g_aload_n C dX6_common_52 0 rfl rfl ?_
          refine g_iload_n C dX6_common_53 1 rfl rfl ?_
          refine g_cV C dX6_common_54 (met_X6_finds C.st hw) (gc_X6_finds _ (Nat.le_of_ble_eq_true rfl) (Nat.le_of_ble_eq_true rfl)) tw1216 tw1218 twp40 (ci := 6) rfl (by decide) hk0 rfl (Nat.le_of_ble_eq_true rfl) (c2 := 0) (s2 := 0) rfl rfl (Nat.le_of_ble_eq_true rfl) (Nat.le_of_ble_eq_true rfl) rfl (kV (fun M_17 hw => ?_)) tNo
          refine g_iconst C dX6_common_57 (v := 0) rfl ?_
          refine g_istore_n C dX6_common_58 rfl (Nat.le_of_ble_eq_true rfl) (loc' := [(3, .int 0), (0, gR E o), (1, .int p1), (2, .int p2)]) rfl ?_
          refine g_iconst C dX6_common_59 (v := 0) rfl ?_
          refine g_istore C dX6_common_60 (Nat.le_of_ble_eq_true rfl) (loc' := [(4, .int 0), (3, .int 0), (0, gR E o), (1, .int p1), (2, .int p2)]) rfl ?_
          obtain ⟨m62, hw⟩ := hw
          have hL62 : ∀ (n62 : Nat) (x3_18 : Int32) (x4_19 : Int32), wp_X6_common_L62 o p1 Q M_17 n62 x3_18 x4_19 → GX K E 6 M_17 [(0, gR E o), (1, .int p1), (3, .int x3_18), (4, .int x4_19)] [] 62 0 0 (gEnd K E (qI Q) gNo rmX6_common.cells rmX6_common.slots) := by
            intro n62
            induction n62 with
            | zero => intro _ _ hw; exact False.elim hw
            | succ n62 ih62 =>
              intro x3_18 x4_19 hw
              refine g_iload C (j := 0) dX6_common_62 3 rfl ?_
              refine g_aload_n C dX6_common_64 0 rfl rfl ?_
              refine gf_RX6_160 C hk0 dX6_common_65 ?_
              refine g_icmp_ge C dX6_common_68 (tgt := 126) (by decide) (fun c68 => ?_) (fun c68 => ?_)
              · have hw := hw.1 c68
                refine g_iload_n C dX6_common_126 2 rfl rfl ?_
                exact g_iret C dX6_common_127 (Nat.le_of_ble_eq_true rfl) (Nat.le_of_ble_eq_true rfl) ⟨_, rfl, hw⟩
              · have hw := hw.2 c68
                refine g_iconst C dX6_common_71 (v := 0) rfl ?_
                refine g_istore C dX6_common_72 (Nat.le_of_ble_eq_true rfl) (loc' := [(5, .int 0), (0, gR E o), (1, .int p1), (3, .int x3_18), (4, .int x4_19)]) rfl ?_
                obtain ⟨m74, hw⟩ := hw
                have hL74 : ∀ (n74 : Nat) (x3_20 : Int32) (x5_21 : Int32), wp_X6_common_L74 o p1 M_17 (wp_X6_common_L62 o p1 Q M_17 n62) x4_19 n74 x3_20 x5_21 → GX K E 6 M_17 [(0, gR E o), (1, .int p1), (3, .int x3_20), (4, .int x4_19), (5, .int x5_21)] [] 74 0 0 (gEnd K E (qI Q) gNo rmX6_common.cells rmX6_common.slots) := by
                  intro n74
                  induction n74 with
                  | zero => intro _ _ hw; exact False.elim hw
                  | succ n74 ih74 =>
                    intro x3_20 x5_21 hw
                    refine g_iload C (j := 0) dX6_common_74 4 rfl ?_
                    refine g_aload_n C dX6_common_76 0 rfl rfl ?_
                    refine gf_RX6_253 C hk0 dX6_common_77 ?_
                    refine g_icmp_ge C dX6_common_80 (tgt := 120) (by decide) (fun c80 => ?_) (fun c80 => ?_)
                    · have hw := hw.1 c80
                      obtain ⟨x4_22, ex4_22⟩ : ∃ y : Int32, y = x4_19 + 1 := ⟨_, rfl⟩
                      have hw := hw x4_22 ex4_22
                      refine g_iinc C (j := 0) dX6_common_120 3 rfl (v := x4_22) (by rw [ex4_22]; rfl) (Nat.le_of_ble_eq_true rfl) (loc' := [(4, .int x4_22), (0, gR E o), (1, .int p1), (3, .int x3_20), (5, .int x5_21)]) rfl ?_
                      refine g_goto C dX6_common_123 (tgt := 62) (by decide) ?_
                      refine g_sub [1, 2, 3, 0] rfl ?_
                      exact ih62 _ _ hw
                    · have hw := hw.2 c80
                      refine g_iload_n C dX6_common_83 2 rfl rfl ?_
                      refine g_aload_n C dX6_common_84 0 rfl rfl ?_
                      refine g_iload_n C dX6_common_85 1 rfl rfl ?_
                      refine g_aload_n C dX6_common_86 0 rfl rfl ?_
                      refine gf_RX6_16 C hk0 dX6_common_87 ?_
                      refine g_iload C (j := 0) dX6_common_90 3 rfl ?_
                      obtain ⟨hk_23, hw⟩ := hw
                      obtain ⟨hi_24, hw⟩ := hw
                      refine g_iaload C hk_23 hi_24 dX6_common_92 ?_
                      refine g_iconst C dX6_common_93 (v := 0) rfl ?_
                      refine g_cV C dX6_common_94 (met_X6_item C.st hw) (gc_X6_item _ (Nat.le_of_ble_eq_true rfl) (Nat.le_of_ble_eq_true rfl)) tw1197 tw1199 twp38 (ci := 6) rfl (by decide) hk0 rfl (Nat.le_of_ble_eq_true rfl) (c2 := 0) (s2 := 0) rfl rfl (Nat.le_of_ble_eq_true rfl) (Nat.le_of_ble_eq_true rfl) rfl (kIp (fun r_25 hw => ?_)) tNo
                      refine g_aload_n C dX6_common_97 0 rfl rfl ?_
                      refine gf_RX6_37 C hk0 dX6_common_98 ?_
                      refine g_iload C (j := 0) dX6_common_101 4 rfl ?_
                      obtain ⟨hk_27, hw⟩ := hw
                      obtain ⟨hi_28, hw⟩ := hw
                      refine g_iaload C hk_27 hi_28 dX6_common_103 ?_
                      refine g_icmp_ne C dX6_common_104 (tgt := 111) (by decide) (fun c104 => ?_) (fun c104 => ?_)
                      · have hw := hw.1 c104
                        refine g_iconst C dX6_common_111 (v := 0) rfl ?_
                        refine g_iadd C dX6_common_112 ?_
                        refine g_nmI (fun x3_29 ex3_29 => ?_)
                        have hw := hw x3_29 ex3_29
                        refine g_istore_n C dX6_common_113 rfl (Nat.le_of_ble_eq_true rfl) (loc' := [(3, .int x3_29), (0, gR E o), (1, .int p1), (4, .int x4_19), (5, .int x5_21)]) rfl ?_
                        obtain ⟨x5_30, ex5_30⟩ : ∃ y : Int32, y = x5_21 + 1 := ⟨_, rfl⟩
                        have hw := hw x5_30 ex5_30
                        refine g_iinc C (j := 0) dX6_common_114 4 rfl (v := x5_30) (by rw [ex5_30]; rfl) (Nat.le_of_ble_eq_true rfl) (loc' := [(5, .int x5_30), (3, .int x3_29), (0, gR E o), (1, .int p1), (4, .int x4_19)]) rfl ?_
                        refine g_goto C dX6_common_117 (tgt := 74) (by decide) ?_
                        refine g_sub [2, 3, 1, 4, 0] rfl ?_
                        exact ih74 _ _ hw
                      · have hw := hw.2 c104
                        refine g_iconst C dX6_common_107 (v := 1) rfl ?_
                        refine g_goto C dX6_common_108 (tgt := 112) (by decide) ?_
                        refine g_iadd C dX6_common_112 ?_
                        refine g_nmI (fun x3_31 ex3_31 => ?_)
                        have hw := hw x3_31 ex3_31
                        refine g_istore_n C dX6_common_113 rfl (Nat.le_of_ble_eq_true rfl) (loc' := [(3, .int x3_31), (0, gR E o), (1, .int p1), (4, .int x4_19), (5, .int x5_21)]) rfl ?_
                        obtain ⟨x5_32, ex5_32⟩ : ∃ y : Int32, y = x5_21 + 1 := ⟨_, rfl⟩
                        have hw := hw x5_32 ex5_32
                        refine g_iinc C (j := 0) dX6_common_114 4 rfl (v := x5_32) (by rw [ex5_32]; rfl) (Nat.le_of_ble_eq_true rfl) (loc' := [(5, .int x5_32), (3, .int x3_31), (0, gR E o), (1, .int p1), (4, .int x4_19)]) rfl ?_
                        refine g_goto C dX6_common_117 (tgt := 74) (by decide) ?_
                        refine g_sub [2, 3, 1, 4, 0] rfl ?_
                        exact ih74 _ _ hw
                refine g_sub [1, 2, 3, 4, 0] rfl ?_
                exact hL74 m74 _ _ hw
          refine g_sub [2, 3, 1, 0] rfl ?_
          exact hL62 m62 _ _ hw
        · have hw := hw.2 c33
          refine g_aload_n C dX6_common_36 0 rfl rfl ?_
          refine g_iconst C dX6_common_37 (v := 2) rfl ?_
          refine g_cV C dX6_common_38 (met_X6_fails C.st hw) (gc_X6_fails _ (Nat.le_of_ble_eq_true rfl) (Nat.le_of_ble_eq_true rfl)) tw1131 tw1133 twp28 (ci := 6) rfl (by decide) hk0 rfl (Nat.le_of_ble_eq_true rfl) (c2 := 0) (s2 := 0) rfl rfl (Nat.le_of_ble_eq_true rfl) (Nat.le_of_ble_eq_true rfl) rfl (kI (fun r_33 M_34 hw => ?_)) tNo
          exact g_iret C dX6_common_41 (Nat.le_of_ble_eq_true rfl) (Nat.le_of_ble_eq_true rfl) ⟨_, rfl, hw⟩
    · have hw := hw.2 c11
      refine g_aload_n C dX6_common_14 0 rfl rfl ?_
      refine g_iconst C dX6_common_15 (v := 1) rfl ?_
      refine g_cV C dX6_common_16 (met_X6_fails C.st hw) (gc_X6_fails _ (Nat.le_of_ble_eq_true rfl) (Nat.le_of_ble_eq_true rfl)) tw1131 tw1133 twp28 (ci := 6) rfl (by decide) hk0 rfl (Nat.le_of_ble_eq_true rfl) (c2 := 0) (s2 := 0) rfl rfl (Nat.le_of_ble_eq_true rfl) (Nat.le_of_ble_eq_true rfl) rfl (kI (fun r_35 M_36 hw => ?_)) tNo
      exact g_iret C dX6_common_19 (Nat.le_of_ble_eq_true rfl) (Nat.le_of_ble_eq_true rfl) ⟨_, rfl, hw⟩
theorem gc_X6_common : ∀ rm : Room, rmX6_common.frames + 1 ≤ rm.frames → 8 + (6 + 11) + rmX6_common.locals ≤ rm.locals → gCall yX6_common 6 2 rmX6_common rm := fun rm a b => ⟨Or.inl ⟨_, _, tw1399⟩, tw8, ⟨by decide, by decide⟩, by decide, a, b⟩
abbrev rmX6_feed : Room := { frames := 1, cells := 0, slots := 0, locals := 21 }
def wp_X6_feed (o : Nat) (p1 : Int32) (M : MEM) (Q : Int32 → MEM → Prop) : Prop := KD o = (16, 0) ∧ ((¬ (mI M o 21) = 120 → ((∀ M_1 : MEM, M_1 = uI M o 0 0 → ((KD (RF o 18) = (1, 120) ∧ (vp_in (mI M_1 o 21) 120 ∧ (gC p1 ∧ (∀ M_5 : MEM, M_5 = uI M_1 (RF o 18) (mI M_1 o 21).toNatClampNeg p1 → ((∀ M_6 : MEM, M_6 = uI M_5 o 21 ((mI M_5 o 21) + 1) → (Q (mI M_6 o 21) M_6))))))))))) ∧ ((mI M o 21) = 120 → (wp_X6_fails o 1 M (fun r_7 M_8 => Q r_7 M_8))))
set_option maxRecDepth 100000 in
set_option maxHeartbeats 4000000 in
theorem met_X6_feed {l : Launch} (hl : l.stackTraces = false) {E : MK} {o : Nat} {p1 : Int32} {M : MEM} {Q : Int32 → MEM → Prop} (hw : wp_X6_feed o p1 M Q) : gMet l E yX6_feed rmX6_feed [gR E o, .int p1] M (qI Q) gNo := by
  obtain ⟨hk0, hw⟩ := hw
  refine g_met hl (cc := cX6_feed) (maxL := 2) (ret := (some .int)) (hh := []) (loc := [(0, gR E o), (1, .int p1)]) (by decide +kernel) (Or.inl ⟨tw1403, rfl⟩) (Nat.le_of_ble_eq_true rfl) rfl (fun K hK C => ?_)
  have C : GC K E cX6_feed RX6 2 (some .int) [] rmX6_feed := C
  refine g_aload_n C dX6_feed_0 0 rfl rfl ?_
  refine gf_RX6_263 C hk0 dX6_feed_1 ?_
  refine g_bipush C dX6_feed_4 (v := 120) rfl ?_
  refine g_icmp_ne C dX6_feed_6 (tgt := 15) (by decide) (fun c6 => ?_) (fun c6 => ?_)
  · have hw := hw.1 c6
    refine g_aload_n C dX6_feed_15 0 rfl rfl ?_
    refine g_iconst C dX6_feed_16 (v := 0) rfl ?_
    refine pf_RX6_57 C hk0 dX6_feed_17 ?_
    refine g_nmM (fun M_1 eM_1 => ?_)
    have hw := hw M_1 eM_1
    refine g_aload_n C dX6_feed_20 0 rfl rfl ?_
    refine gf_RX6_40 C hk0 dX6_feed_21 ?_
    refine g_aload_n C dX6_feed_24 0 rfl rfl ?_
    refine gf_RX6_263 C hk0 dX6_feed_25 ?_
    refine g_iload_n C dX6_feed_28 1 rfl rfl ?_
    obtain ⟨hk_2, hw⟩ := hw
    obtain ⟨hi_3, hw⟩ := hw
    obtain ⟨hc_4, hw⟩ := hw
    refine g_castore C hk_2 hi_3 hc_4.v dX6_feed_29 ?_
    refine g_nmM (fun M_5 eM_5 => ?_)
    have hw := hw M_5 eM_5
    refine g_aload_n C dX6_feed_30 0 rfl rfl ?_
    refine g_dup C dX6_feed_31 rfl ?_
    refine gf_RX6_263 C hk0 dX6_feed_32 ?_
    refine g_iconst C dX6_feed_35 (v := 1) rfl ?_
    refine g_iadd C dX6_feed_36 ?_
    refine pf_RX6_263 C hk0 dX6_feed_37 ?_
    refine g_nmM (fun M_6 eM_6 => ?_)
    have hw := hw M_6 eM_6
    refine g_aload_n C dX6_feed_40 0 rfl rfl ?_
    refine gf_RX6_263 C hk0 dX6_feed_41 ?_
    exact g_iret C dX6_feed_44 (Nat.le_of_ble_eq_true rfl) (Nat.le_of_ble_eq_true rfl) ⟨_, rfl, hw⟩
  · have hw := hw.2 c6
    refine g_aload_n C dX6_feed_9 0 rfl rfl ?_
    refine g_iconst C dX6_feed_10 (v := 1) rfl ?_
    refine g_cV C dX6_feed_11 (met_X6_fails C.st hw) (gc_X6_fails _ (Nat.le_of_ble_eq_true rfl) (Nat.le_of_ble_eq_true rfl)) tw1131 tw1133 twp28 (ci := 6) rfl (by decide) hk0 rfl (Nat.le_of_ble_eq_true rfl) (c2 := 0) (s2 := 0) rfl rfl (Nat.le_of_ble_eq_true rfl) (Nat.le_of_ble_eq_true rfl) rfl (kI (fun r_7 M_8 hw => ?_)) tNo
    exact g_iret C dX6_feed_14 (Nat.le_of_ble_eq_true rfl) (Nat.le_of_ble_eq_true rfl) ⟨_, rfl, hw⟩
theorem gc_X6_feed : ∀ rm : Room, rmX6_feed.frames + 1 ≤ rm.frames → 8 + (2 + 11) + rmX6_feed.locals ≤ rm.locals → gCall yX6_feed 2 1 rmX6_feed rm := fun rm a b => ⟨Or.inl ⟨_, _, tw1403⟩, tw8, ⟨by decide, by decide⟩, by decide, a, b⟩
abbrev rmX6_skips : Room := { frames := 0, cells := 0, slots := 0, locals := 0 }
def wp_X6_skips (o : Nat) (p1 : Int32) (M : MEM) (Q : Int32 → MEM → Prop) : Prop := KD o = (16, 0) ∧ (((mI M o 22) = (mI M o 21) → (Q 0 M)) ∧ (¬ (mI M o 22) = (mI M o 21) → (KD (RF o 18) = (1, 120) ∧ vp_in (mI M o 22) 120 ∧ (((mI M (RF o 18) (mI M o 22).toNatClampNeg) = p1 → ((∀ M_3 : MEM, M_3 = uI M o 22 ((mI M o 22) + 1) → (Q 1 M_3)))) ∧ (¬ (mI M (RF o 18) (mI M o 22).toNatClampNeg) = p1 → (Q 0 M))))))
set_option maxRecDepth 100000 in
set_option maxHeartbeats 4000000 in
theorem met_X6_skips {l : Launch} (hl : l.stackTraces = false) {E : MK} {o : Nat} {p1 : Int32} {M : MEM} {Q : Int32 → MEM → Prop} (hw : wp_X6_skips o p1 M Q) : gMet l E yX6_skips rmX6_skips [gR E o, .int p1] M (qI Q) gNo := by
  obtain ⟨hk0, hw⟩ := hw
  refine g_met hl (cc := cX6_skips) (maxL := 2) (ret := (some .boolean)) (hh := []) (loc := [(0, gR E o), (1, .int p1)]) (by decide +kernel) (Or.inl ⟨tw1419, rfl⟩) (Nat.le_of_ble_eq_true rfl) rfl (fun K hK C => ?_)
  have C : GC K E cX6_skips RX6 2 (some .boolean) [] rmX6_skips := C
  refine g_aload_n C dX6_skips_0 0 rfl rfl ?_
  refine gf_RX6_266 C hk0 dX6_skips_1 ?_
  refine g_aload_n C dX6_skips_4 0 rfl rfl ?_
  refine gf_RX6_263 C hk0 dX6_skips_5 ?_
  refine g_icmp_eq C dX6_skips_8 (tgt := 24) (by decide) (fun c8 => ?_) (fun c8 => ?_)
  · have hw := hw.1 c8
    refine g_iconst C dX6_skips_24 (v := 0) rfl ?_
    exact g_zret C dX6_skips_25 gB0.1 (Nat.le_of_ble_eq_true rfl) (Nat.le_of_ble_eq_true rfl) ⟨_, rfl, hw⟩
  · have hw := hw.2 c8
    refine g_aload_n C dX6_skips_11 0 rfl rfl ?_
    refine gf_RX6_40 C hk0 dX6_skips_12 ?_
    refine g_aload_n C dX6_skips_15 0 rfl rfl ?_
    refine gf_RX6_266 C hk0 dX6_skips_16 ?_
    obtain ⟨hk_1, hw⟩ := hw
    obtain ⟨hi_2, hw⟩ := hw
    refine g_caload C hk_1 hi_2 dX6_skips_19 ?_
    refine g_iload_n C dX6_skips_20 1 rfl rfl ?_
    refine g_icmp_eq C dX6_skips_21 (tgt := 26) (by decide) (fun c21 => ?_) (fun c21 => ?_)
    · have hw := hw.1 c21
      refine g_aload_n C dX6_skips_26 0 rfl rfl ?_
      refine g_dup C dX6_skips_27 rfl ?_
      refine gf_RX6_266 C hk0 dX6_skips_28 ?_
      refine g_iconst C dX6_skips_31 (v := 1) rfl ?_
      refine g_iadd C dX6_skips_32 ?_
      refine pf_RX6_266 C hk0 dX6_skips_33 ?_
      refine g_nmM (fun M_3 eM_3 => ?_)
      have hw := hw M_3 eM_3
      refine g_iconst C dX6_skips_36 (v := 1) rfl ?_
      exact g_zret C dX6_skips_37 gB1.1 (Nat.le_of_ble_eq_true rfl) (Nat.le_of_ble_eq_true rfl) ⟨_, rfl, hw⟩
    · have hw := hw.2 c21
      refine g_iconst C dX6_skips_24 (v := 0) rfl ?_
      exact g_zret C dX6_skips_25 gB0.1 (Nat.le_of_ble_eq_true rfl) (Nat.le_of_ble_eq_true rfl) ⟨_, rfl, hw⟩
theorem gc_X6_skips : ∀ rm : Room, rmX6_skips.frames + 1 ≤ rm.frames → 8 + (2 + 11) + rmX6_skips.locals ≤ rm.locals → gCall yX6_skips 2 1 rmX6_skips rm := fun rm a b => ⟨Or.inl ⟨_, _, tw1419⟩, tw8, ⟨by decide, by decide⟩, by decide, a, b⟩
abbrev rmX6_takesNumber : Room := { frames := 1, cells := 0, slots := 0, locals := 25 }
def wp_X6_takesNumber_J107 (o : Nat) (Q : Int32 → MEM → Prop) (x4_4 : Int32) (M_5 : MEM) (s_6 : Int64) : Prop := (KD (RF o 19) = (2, 128) ∧ (vp_in (mI M_5 o 23) 128 ∧ (∀ M_9 : MEM, M_9 = uL M_5 (RF o 19) (mI M_5 o 23).toNatClampNeg s_6 → ((∀ M_10 : MEM, M_10 = uI M_9 o 23 ((mI M_9 o 23) + 1) → ((x4_4 ≤ 0 → (Q 0 M_10)) ∧ (¬ x4_4 ≤ 0 → (Q 1 M_10))))))))
def wp_X6_takesNumber_J89 (o : Nat) (Q : Int32 → MEM → Prop) (r_1 : Int32) (x2_3 : Int64) (x4_4 : Int32) (M_5 : MEM) : Prop := (r_1 = 0 → (wp_X6_takesNumber_J107 o Q x4_4 M_5 x2_3)) ∧ (¬ r_1 = 0 → (wp_X6_takesNumber_J107 o Q x4_4 M_5 (-x2_3)))
def wp_X6_takesNumber_L12 (o : Nat) (Q : Int32 → MEM → Prop) (r_1 : Int32) : Nat → Int64 → Int32 → MEM → Prop
  | 0, _, _, _ => False
  | n12 + 1, x2_3, x4_4, M_5 => (10 ≤ x4_4 → (wp_X6_takesNumber_J89 o Q r_1 x2_3 x4_4 M_5)) ∧ (¬ 10 ≤ x4_4 → (((mI M_5 o 21) ≤ (mI M_5 o 22) → (wp_X6_takesNumber_J89 o Q r_1 x2_3 x4_4 M_5)) ∧ (¬ (mI M_5 o 21) ≤ (mI M_5 o 22) → (KD (RF o 18) = (1, 120) ∧ vp_in (mI M_5 o 22) 120 ∧ (wp_X6_isBetween ((mI M_5 (RF o 18) (mI M_5 o 22).toNatClampNeg : Int32).toInt64) 48 57 M_5 (fun r_13 => (r_13 = 0 → (wp_X6_takesNumber_J89 o Q r_1 x2_3 x4_4 M_5)) ∧ (¬ r_13 = 0 → (vp_in (mI M_5 o 22) 120 ∧ (∀ x2_16 : Int64, x2_16 = ((10 * x2_3) + ((mI M_5 (RF o 18) (mI M_5 o 22).toNatClampNeg : Int32).toInt64)) - 48 → (∀ x4_17 : Int32, x4_17 = x4_4 + 1 → ((∀ M_18 : MEM, M_18 = uI M_5 o 22 ((mI M_5 o 22) + 1) → ((wp_X6_takesNumber_L12 o Q r_1 n12) x2_16 x4_17 M_18)))))))))))))
def wp_X6_takesNumber (o : Nat) (M : MEM) (Q : Int32 → MEM → Prop) : Prop := KD o = (16, 0) ∧ (wp_X6_skips o 45 M (fun r_1 M_2 => ∃ m12 : Nat, wp_X6_takesNumber_L12 o Q r_1 m12 0 0 M_2))
set_option maxRecDepth 100000 in
set_option maxHeartbeats 4000000 in
theorem met_X6_takesNumber {l : Launch} (hl : l.stackTraces = false) {E : MK} {o : Nat} {M : MEM} {Q : Int32 → MEM → Prop} (hw : wp_X6_takesNumber o M Q) : gMet l E yX6_takesNumber rmX6_takesNumber [gR E o] M (qI Q) gNo := by
  obtain ⟨hk0, hw⟩ := hw
  refine g_met hl (cc := cX6_takesNumber) (maxL := 5) (ret := (some .boolean)) (hh := []) (loc := [(0, gR E o)]) (by decide +kernel) (Or.inl ⟨tw1423, rfl⟩) (Nat.le_of_ble_eq_true rfl) rfl (fun K hK C => ?_)
  have C : GC K E cX6_takesNumber RX6 5 (some .boolean) [] rmX6_takesNumber := C
  refine g_aload_n C dX6_takesNumber_0 0 rfl rfl ?_
  refine g_bipush C dX6_takesNumber_1 (v := 45) rfl ?_
  refine g_cV C dX6_takesNumber_3 (met_X6_skips C.st hw) (gc_X6_skips _ (Nat.le_of_ble_eq_true rfl) (Nat.le_of_ble_eq_true rfl)) tw1416 tw1418 twp64 (ci := 6) rfl (by decide) hk0 rfl (Nat.le_of_ble_eq_true rfl) (c2 := 0) (s2 := 0) rfl rfl (Nat.le_of_ble_eq_true rfl) (Nat.le_of_ble_eq_true rfl) rfl (kI (fun r_1 M_2 hw => ?_)) tNo
  refine g_istore_n C dX6_takesNumber_6 rfl (Nat.le_of_ble_eq_true rfl) (loc' := [(1, .int r_1), (0, gR E o)]) rfl ?_
  refine g_lconst C dX6_takesNumber_7 (v := 0) rfl ?_
  refine g_lstore_n C dX6_takesNumber_8 rfl (Nat.le_of_ble_eq_true rfl) (loc' := [(2, .long 0), (1, .int r_1), (0, gR E o)]) rfl ?_
  refine g_iconst C dX6_takesNumber_9 (v := 0) rfl ?_
  refine g_istore C dX6_takesNumber_10 (Nat.le_of_ble_eq_true rfl) (loc' := [(4, .int 0), (2, .long 0), (1, .int r_1), (0, gR E o)]) rfl ?_
  obtain ⟨m12, hw⟩ := hw
  have hL12 : ∀ (n12 : Nat) (x2_3 : Int64) (x4_4 : Int32) (M_5 : MEM), wp_X6_takesNumber_L12 o Q r_1 n12 x2_3 x4_4 M_5 → GX K E 5 M_5 [(0, gR E o), (1, .int r_1), (2, .long x2_3), (4, .int x4_4)] [] 12 0 0 (gEnd K E (qI Q) gNo rmX6_takesNumber.cells rmX6_takesNumber.slots) := by
    intro n12
    induction n12 with
    | zero => intro _ _ _ hw; exact False.elim hw
    | succ n12 ih12 =>
      intro x2_3 x4_4 M_5 hw
      refine g_iload C (j := 0) dX6_takesNumber_12 3 rfl ?_
      refine g_bipush C dX6_takesNumber_14 (v := 10) rfl ?_
      have hJ89 : wp_X6_takesNumber_J89 o Q r_1 x2_3 x4_4 M_5 → GX K E 5 M_5 [(0, gR E o), (1, .int r_1), (2, .long x2_3), (4, .int x4_4)] [] 89 0 0 (gEnd K E (qI Q) gNo rmX6_takesNumber.cells rmX6_takesNumber.slots) := by
        intro hw
        refine g_aload_n C dX6_takesNumber_89 0 rfl rfl ?_
        refine gf_RX6_44 C hk0 dX6_takesNumber_90 ?_
        refine g_aload_n C dX6_takesNumber_93 0 rfl rfl ?_
        refine gf_RX6_279 C hk0 dX6_takesNumber_94 ?_
        refine g_iload_n C dX6_takesNumber_97 1 rfl rfl ?_
        have hJ107 : ∀ (s_6 : Int64), wp_X6_takesNumber_J107 o Q x4_4 M_5 s_6 → GX K E 5 M_5 [(0, gR E o), (4, .int x4_4)] [.long s_6, .int (mI M_5 o 23), gR E (RF o 19)] 107 0 0 (gEnd K E (qI Q) gNo rmX6_takesNumber.cells rmX6_takesNumber.slots) := by
          intro s_6 hw
          obtain ⟨hk_7, hw⟩ := hw
          obtain ⟨hi_8, hw⟩ := hw
          refine g_lastore C hk_7 hi_8 dX6_takesNumber_107 ?_
          refine g_nmM (fun M_9 eM_9 => ?_)
          have hw := hw M_9 eM_9
          refine g_aload_n C dX6_takesNumber_108 0 rfl rfl ?_
          refine g_dup C dX6_takesNumber_109 rfl ?_
          refine gf_RX6_279 C hk0 dX6_takesNumber_110 ?_
          refine g_iconst C dX6_takesNumber_113 (v := 1) rfl ?_
          refine g_iadd C dX6_takesNumber_114 ?_
          refine pf_RX6_279 C hk0 dX6_takesNumber_115 ?_
          refine g_nmM (fun M_10 eM_10 => ?_)
          have hw := hw M_10 eM_10
          refine g_iload C (j := 0) dX6_takesNumber_118 1 rfl ?_
          refine g_if_le C dX6_takesNumber_120 (tgt := 127) (by decide) (fun c120 => ?_) (fun c120 => ?_)
          · have hw := hw.1 c120
            refine g_iconst C dX6_takesNumber_127 (v := 0) rfl ?_
            exact g_zret C dX6_takesNumber_128 gB0.1 (Nat.le_of_ble_eq_true rfl) (Nat.le_of_ble_eq_true rfl) ⟨_, rfl, hw⟩
          · have hw := hw.2 c120
            refine g_iconst C dX6_takesNumber_123 (v := 1) rfl ?_
            refine g_goto C dX6_takesNumber_124 (tgt := 128) (by decide) ?_
            exact g_zret C dX6_takesNumber_128 gB1.1 (Nat.le_of_ble_eq_true rfl) (Nat.le_of_ble_eq_true rfl) ⟨_, rfl, hw⟩
        refine g_if_eq C dX6_takesNumber_98 (tgt := 106) (by decide) (fun c98 => ?_) (fun c98 => ?_)
        · have hw := hw.1 c98
          refine g_lload_n C dX6_takesNumber_106 2 rfl rfl ?_
          refine g_sub [0, 3] rfl ?_
          exact hJ107 _ hw
        · have hw := hw.2 c98
          refine g_lload_n C dX6_takesNumber_101 2 rfl rfl ?_
          refine g_lneg C dX6_takesNumber_102 ?_
          refine g_goto C dX6_takesNumber_103 (tgt := 107) (by decide) ?_
          refine g_sub [0, 3] rfl ?_
          exact hJ107 _ hw
      refine g_icmp_ge C dX6_takesNumber_16 (tgt := 89) (by decide) (fun c16 => ?_) (fun c16 => ?_)
      · have hw := hw.1 c16
        exact hJ89 hw
      · have hw := hw.2 c16
        refine g_aload_n C dX6_takesNumber_19 0 rfl rfl ?_
        refine gf_RX6_266 C hk0 dX6_takesNumber_20 ?_
        refine g_aload_n C dX6_takesNumber_23 0 rfl rfl ?_
        refine gf_RX6_263 C hk0 dX6_takesNumber_24 ?_
        refine g_icmp_ge C dX6_takesNumber_27 (tgt := 89) (by decide) (fun c27 => ?_) (fun c27 => ?_)
        · have hw := hw.1 c27
          exact hJ89 hw
        · have hw := hw.2 c27
          refine g_aload_n C dX6_takesNumber_30 0 rfl rfl ?_
          refine gf_RX6_40 C hk0 dX6_takesNumber_31 ?_
          refine g_aload_n C dX6_takesNumber_34 0 rfl rfl ?_
          refine gf_RX6_266 C hk0 dX6_takesNumber_35 ?_
          obtain ⟨hk_11, hw⟩ := hw
          obtain ⟨hi_12, hw⟩ := hw
          refine g_caload C hk_11 hi_12 dX6_takesNumber_38 ?_
          refine g_i2l C dX6_takesNumber_39 ?_
          refine g_ldc2 C dX6_takesNumber_40 tw1424 ?_
          refine g_ldc2 C dX6_takesNumber_43 tw1425 ?_
          refine g_cS C dX6_takesNumber_46 (met_X6_isBetween C.st hw) (gc_X6_isBetween _ (Nat.le_of_ble_eq_true rfl) (Nat.le_of_ble_eq_true rfl)) (Or.inl tw1139) tw1140 rfl (Nat.le_of_ble_eq_true rfl) (c2 := 0) (s2 := 0) rfl rfl (Nat.le_of_ble_eq_true rfl) (Nat.le_of_ble_eq_true rfl) rfl (kIp (fun r_13 hw => ?_)) tNo
          refine g_if_eq C dX6_takesNumber_49 (tgt := 89) (by decide) (fun c49 => ?_) (fun c49 => ?_)
          · have hw := hw.1 c49
            exact hJ89 hw
          · have hw := hw.2 c49
            refine g_ldc2 C dX6_takesNumber_52 tw1426 ?_
            refine g_lload_n C dX6_takesNumber_55 2 rfl rfl ?_
            refine g_lmul C dX6_takesNumber_56 ?_
            refine g_aload_n C dX6_takesNumber_57 0 rfl rfl ?_
            refine gf_RX6_40 C hk0 dX6_takesNumber_58 ?_
            refine g_aload_n C dX6_takesNumber_61 0 rfl rfl ?_
            refine gf_RX6_266 C hk0 dX6_takesNumber_62 ?_
            obtain ⟨hi_15, hw⟩ := hw
            refine g_caload C hk_11 hi_15 dX6_takesNumber_65 ?_
            refine g_i2l C dX6_takesNumber_66 ?_
            refine g_ladd C dX6_takesNumber_67 ?_
            refine g_ldc2 C dX6_takesNumber_68 tw1424 ?_
            refine g_lsub C dX6_takesNumber_71 ?_
            refine g_nmL (fun x2_16 ex2_16 => ?_)
            have hw := hw x2_16 ex2_16
            refine g_lstore_n C dX6_takesNumber_72 rfl (Nat.le_of_ble_eq_true rfl) (loc' := [(2, .long x2_16), (0, gR E o), (1, .int r_1), (4, .int x4_4)]) rfl ?_
            obtain ⟨x4_17, ex4_17⟩ : ∃ y : Int32, y = x4_4 + 1 := ⟨_, rfl⟩
            have hw := hw x4_17 ex4_17
            refine g_iinc C (j := 0) dX6_takesNumber_73 3 rfl (v := x4_17) (by rw [ex4_17]; rfl) (Nat.le_of_ble_eq_true rfl) (loc' := [(4, .int x4_17), (2, .long x2_16), (0, gR E o), (1, .int r_1)]) rfl ?_
            refine g_aload_n C dX6_takesNumber_76 2 rfl rfl ?_
            refine g_dup C dX6_takesNumber_77 rfl ?_
            refine gf_RX6_266 C hk0 dX6_takesNumber_78 ?_
            refine g_iconst C dX6_takesNumber_81 (v := 1) rfl ?_
            refine g_iadd C dX6_takesNumber_82 ?_
            refine pf_RX6_266 C hk0 dX6_takesNumber_83 ?_
            refine g_nmM (fun M_18 eM_18 => ?_)
            have hw := hw M_18 eM_18
            refine g_goto C dX6_takesNumber_86 (tgt := 12) (by decide) ?_
            refine g_sub [2, 3, 1, 0] rfl ?_
            exact ih12 _ _ _ hw
  refine g_sub [3, 2, 1, 0] rfl ?_
  exact hL12 m12 _ _ _ hw
theorem gc_X6_takesNumber : ∀ rm : Room, rmX6_takesNumber.frames + 1 ≤ rm.frames → 8 + (5 + 11) + rmX6_takesNumber.locals ≤ rm.locals → gCall yX6_takesNumber 5 0 rmX6_takesNumber rm := fun rm a b => ⟨Or.inl ⟨_, _, tw1423⟩, tw8, ⟨by decide, by decide⟩, by decide, a, b⟩
abbrev rmX6_takesRow : Room := { frames := 2, cells := 0, slots := 0, locals := 49 }
def wp_X6_takesRow_L2 (o : Nat) (p1 : Int32) (p2 : Int32) (Q : Int32 → MEM → Prop) : Nat → Int32 → MEM → Prop
  | 0, _, _ => False
  | n2 + 1, x3_1, M_2 => (p1 ≤ x3_1 → (Q 1 M_2)) ∧ (¬ p1 ≤ x3_1 → ((x3_1 ≤ 0 → (wp_X6_takesNumber o M_2 (fun r_3 M_4 => (¬ r_3 = 0 → (∀ x3_5 : Int32, x3_5 = x3_1 + 1 → ((wp_X6_takesRow_L2 o p1 p2 Q n2) x3_5 M_4))) ∧ (r_3 = 0 → (Q 0 M_4))))) ∧ (¬ x3_1 ≤ 0 → (wp_X6_skips o p2 M_2 (fun r_6 M_7 => (¬ r_6 = 0 → (wp_X6_takesNumber o M_7 (fun r_8 M_9 => (¬ r_8 = 0 → (∀ x3_10 : Int32, x3_10 = x3_1 + 1 → ((wp_X6_takesRow_L2 o p1 p2 Q n2) x3_10 M_9))) ∧ (r_8 = 0 → (Q 0 M_9))))) ∧ (r_6 = 0 → (Q 0 M_7)))))))
def wp_X6_takesRow (o : Nat) (p1 : Int32) (p2 : Int32) (M : MEM) (Q : Int32 → MEM → Prop) : Prop := KD o = (16, 0) ∧ (∃ m2 : Nat, wp_X6_takesRow_L2 o p1 p2 Q m2 0 M)
set_option maxRecDepth 100000 in
set_option maxHeartbeats 4000000 in
theorem met_X6_takesRow {l : Launch} (hl : l.stackTraces = false) {E : MK} {o : Nat} {p1 : Int32} {p2 : Int32} {M : MEM} {Q : Int32 → MEM → Prop} (hw : wp_X6_takesRow o p1 p2 M Q) : gMet l E yX6_takesRow rmX6_takesRow [gR E o, .int p1, .int p2] M (qI Q) gNo := by
  obtain ⟨hk0, hw⟩ := hw
  refine g_met hl (cc := cX6_takesRow) (maxL := 4) (ret := (some .boolean)) (hh := []) (loc := [(0, gR E o), (1, .int p1), (2, .int p2)]) (by decide +kernel) (Or.inl ⟨tw1415, rfl⟩) (Nat.le_of_ble_eq_true rfl) rfl (fun K hK C => ?_)
  have C : GC K E cX6_takesRow RX6 4 (some .boolean) [] rmX6_takesRow := C
  refine g_iconst C dX6_takesRow_0 (v := 0) rfl ?_
  refine g_istore_n C dX6_takesRow_1 rfl (Nat.le_of_ble_eq_true rfl) (loc' := [(3, .int 0), (0, gR E o), (1, .int p1), (2, .int p2)]) rfl ?_
  obtain ⟨m2, hw⟩ := hw
  have hL2 : ∀ (n2 : Nat) (x3_1 : Int32) (M_2 : MEM), wp_X6_takesRow_L2 o p1 p2 Q n2 x3_1 M_2 → GX K E 4 M_2 [(0, gR E o), (1, .int p1), (2, .int p2), (3, .int x3_1)] [] 2 0 0 (gEnd K E (qI Q) gNo rmX6_takesRow.cells rmX6_takesRow.slots) := by
    intro n2
    induction n2 with
    | zero => intro _ _ hw; exact False.elim hw
    | succ n2 ih2 =>
      intro x3_1 M_2 hw
      refine g_iload_n C dX6_takesRow_2 3 rfl rfl ?_
      refine g_iload_n C dX6_takesRow_3 1 rfl rfl ?_
      refine g_icmp_ge C dX6_takesRow_4 (tgt := 36) (by decide) (fun c4 => ?_) (fun c4 => ?_)
      · have hw := hw.1 c4
        refine g_iconst C dX6_takesRow_36 (v := 1) rfl ?_
        exact g_zret C dX6_takesRow_37 gB1.1 (Nat.le_of_ble_eq_true rfl) (Nat.le_of_ble_eq_true rfl) ⟨_, rfl, hw⟩
      · have hw := hw.2 c4
        refine g_iload_n C dX6_takesRow_7 3 rfl rfl ?_
        refine g_if_le C dX6_takesRow_8 (tgt := 21) (by decide) (fun c8 => ?_) (fun c8 => ?_)
        · have hw := hw.1 c8
          refine g_aload_n C dX6_takesRow_21 0 rfl rfl ?_
          refine g_cV C dX6_takesRow_22 (met_X6_takesNumber C.st hw) (gc_X6_takesNumber _ (Nat.le_of_ble_eq_true rfl) (Nat.le_of_ble_eq_true rfl)) tw1420 tw1422 twp65 (ci := 6) rfl (by decide) hk0 rfl (Nat.le_of_ble_eq_true rfl) (c2 := 0) (s2 := 0) rfl rfl (Nat.le_of_ble_eq_true rfl) (Nat.le_of_ble_eq_true rfl) rfl (kI (fun r_3 M_4 hw => ?_)) tNo
          refine g_if_ne C dX6_takesRow_25 (tgt := 30) (by decide) (fun c25 => ?_) (fun c25 => ?_)
          · have hw := hw.1 c25
            obtain ⟨x3_5, ex3_5⟩ : ∃ y : Int32, y = x3_1 + 1 := ⟨_, rfl⟩
            have hw := hw x3_5 ex3_5
            refine g_iinc C (j := 0) dX6_takesRow_30 3 rfl (v := x3_5) (by rw [ex3_5]; rfl) (Nat.le_of_ble_eq_true rfl) (loc' := [(3, .int x3_5), (0, gR E o), (1, .int p1), (2, .int p2)]) rfl ?_
            refine g_goto C dX6_takesRow_33 (tgt := 2) (by decide) ?_
            refine g_sub [1, 2, 3, 0] rfl ?_
            exact ih2 _ _ hw
          · have hw := hw.2 c25
            refine g_iconst C dX6_takesRow_28 (v := 0) rfl ?_
            exact g_zret C dX6_takesRow_29 gB0.1 (Nat.le_of_ble_eq_true rfl) (Nat.le_of_ble_eq_true rfl) ⟨_, rfl, hw⟩
        · have hw := hw.2 c8
          refine g_aload_n C dX6_takesRow_11 0 rfl rfl ?_
          refine g_iload_n C dX6_takesRow_12 2 rfl rfl ?_
          refine g_cV C dX6_takesRow_13 (met_X6_skips C.st hw) (gc_X6_skips _ (Nat.le_of_ble_eq_true rfl) (Nat.le_of_ble_eq_true rfl)) tw1416 tw1418 twp64 (ci := 6) rfl (by decide) hk0 rfl (Nat.le_of_ble_eq_true rfl) (c2 := 0) (s2 := 0) rfl rfl (Nat.le_of_ble_eq_true rfl) (Nat.le_of_ble_eq_true rfl) rfl (kI (fun r_6 M_7 hw => ?_)) tNo
          refine g_if_ne C dX6_takesRow_16 (tgt := 21) (by decide) (fun c16 => ?_) (fun c16 => ?_)
          · have hw := hw.1 c16
            refine g_aload_n C dX6_takesRow_21 0 rfl rfl ?_
            refine g_cV C dX6_takesRow_22 (met_X6_takesNumber C.st hw) (gc_X6_takesNumber _ (Nat.le_of_ble_eq_true rfl) (Nat.le_of_ble_eq_true rfl)) tw1420 tw1422 twp65 (ci := 6) rfl (by decide) hk0 rfl (Nat.le_of_ble_eq_true rfl) (c2 := 0) (s2 := 0) rfl rfl (Nat.le_of_ble_eq_true rfl) (Nat.le_of_ble_eq_true rfl) rfl (kI (fun r_8 M_9 hw => ?_)) tNo
            refine g_if_ne C dX6_takesRow_25 (tgt := 30) (by decide) (fun c25 => ?_) (fun c25 => ?_)
            · have hw := hw.1 c25
              obtain ⟨x3_10, ex3_10⟩ : ∃ y : Int32, y = x3_1 + 1 := ⟨_, rfl⟩
              have hw := hw x3_10 ex3_10
              refine g_iinc C (j := 0) dX6_takesRow_30 3 rfl (v := x3_10) (by rw [ex3_10]; rfl) (Nat.le_of_ble_eq_true rfl) (loc' := [(3, .int x3_10), (0, gR E o), (1, .int p1), (2, .int p2)]) rfl ?_
              refine g_goto C dX6_takesRow_33 (tgt := 2) (by decide) ?_
              refine g_sub [1, 2, 3, 0] rfl ?_
              exact ih2 _ _ hw
            · have hw := hw.2 c25
              refine g_iconst C dX6_takesRow_28 (v := 0) rfl ?_
              exact g_zret C dX6_takesRow_29 gB0.1 (Nat.le_of_ble_eq_true rfl) (Nat.le_of_ble_eq_true rfl) ⟨_, rfl, hw⟩
          · have hw := hw.2 c16
            refine g_iconst C dX6_takesRow_19 (v := 0) rfl ?_
            exact g_zret C dX6_takesRow_20 gB0.1 (Nat.le_of_ble_eq_true rfl) (Nat.le_of_ble_eq_true rfl) ⟨_, rfl, hw⟩
  refine g_sub [1, 2, 3, 0] rfl ?_
  exact hL2 m2 _ _ hw
theorem gc_X6_takesRow : ∀ rm : Room, rmX6_takesRow.frames + 1 ≤ rm.frames → 8 + (4 + 11) + rmX6_takesRow.locals ≤ rm.locals → gCall yX6_takesRow 4 2 rmX6_takesRow rm := fun rm a b => ⟨Or.inl ⟨_, _, tw1415⟩, tw8, ⟨by decide, by decide⟩, by decide, a, b⟩
abbrev rmX6_takesText : Room := { frames := 3, cells := 0, slots := 0, locals := 72 }
def wp_X6_takesText_L18 (o : Nat) (Q : Int32 → MEM → Prop) : Nat → Int32 → MEM → Prop
  | 0, _, _ => False
  | n18 + 1, x1_5, M_6 => (x1_5 = 0 → (gB x1_5 ∧ Q x1_5 M_6)) ∧ (¬ x1_5 = 0 → (((mI M_6 o 21) ≤ (mI M_6 o 22) → (gB x1_5 ∧ Q x1_5 M_6)) ∧ (¬ (mI M_6 o 21) ≤ (mI M_6 o 22) → (wp_X6_skips o 59 M_6 (fun r_9 M_10 => (r_9 = 0 → ((wp_X6_takesText_L18 o Q n18) 0 M_10)) ∧ (¬ r_9 = 0 → (wp_X6_takesRow o 5 44 M_10 (fun r_11 M_12 => (r_11 = 0 → ((wp_X6_takesText_L18 o Q n18) 0 M_12)) ∧ (¬ r_11 = 0 → ((wp_X6_takesText_L18 o Q n18) 1 M_12))))))))))
def wp_X6_takesText (o : Nat) (M : MEM) (Q : Int32 → MEM → Prop) : Prop := KD o = (16, 0) ∧ ((∀ M_1 : MEM, M_1 = uI M o 22 0 → ((∀ M_2 : MEM, M_2 = uI M_1 o 23 0 → (wp_X6_takesRow o 4 47 M_2 (fun r_3 M_4 => ∃ m18 : Nat, wp_X6_takesText_L18 o Q m18 r_3 M_4))))))
set_option maxRecDepth 100000 in
set_option maxHeartbeats 4000000 in
theorem met_X6_takesText {l : Launch} (hl : l.stackTraces = false) {E : MK} {o : Nat} {M : MEM} {Q : Int32 → MEM → Prop} (hw : wp_X6_takesText o M Q) : gMet l E yX6_takesText rmX6_takesText [gR E o] M (qI Q) gNo := by
  obtain ⟨hk0, hw⟩ := hw
  refine g_met hl (cc := cX6_takesText) (maxL := 2) (ret := (some .boolean)) (hh := []) (loc := [(0, gR E o)]) (by decide +kernel) (Or.inl ⟨tw1411, rfl⟩) (Nat.le_of_ble_eq_true rfl) rfl (fun K hK C => ?_)
  have C : GC K E cX6_takesText RX6 2 (some .boolean) [] rmX6_takesText := C
  refine g_aload_n C dX6_takesText_0 0 rfl rfl ?_
  refine g_iconst C dX6_takesText_1 (v := 0) rfl ?_
  refine pf_RX6_266 C hk0 dX6_takesText_2 ?_
  refine g_nmM (fun M_1 eM_1 => ?_)
  have hw := hw M_1 eM_1
  refine g_aload_n C dX6_takesText_5 0 rfl rfl ?_
  refine g_iconst C dX6_takesText_6 (v := 0) rfl ?_
  refine pf_RX6_279 C hk0 dX6_takesText_7 ?_
  refine g_nmM (fun M_2 eM_2 => ?_)
  have hw := hw M_2 eM_2
  refine g_aload_n C dX6_takesText_10 0 rfl rfl ?_
  refine g_iconst C dX6_takesText_11 (v := 4) rfl ?_
  refine g_bipush C dX6_takesText_12 (v := 47) rfl ?_
  refine g_cV C dX6_takesText_14 (met_X6_takesRow C.st hw) (gc_X6_takesRow _ (Nat.le_of_ble_eq_true rfl) (Nat.le_of_ble_eq_true rfl)) tw1412 tw1414 twp63 (ci := 6) rfl (by decide) hk0 rfl (Nat.le_of_ble_eq_true rfl) (c2 := 0) (s2 := 0) rfl rfl (Nat.le_of_ble_eq_true rfl) (Nat.le_of_ble_eq_true rfl) rfl (kI (fun r_3 M_4 hw => ?_)) tNo
  refine g_istore_n C dX6_takesText_17 rfl (Nat.le_of_ble_eq_true rfl) (loc' := [(1, .int r_3), (0, gR E o)]) rfl ?_
  obtain ⟨m18, hw⟩ := hw
  have hL18 : ∀ (n18 : Nat) (x1_5 : Int32) (M_6 : MEM), wp_X6_takesText_L18 o Q n18 x1_5 M_6 → GX K E 2 M_6 [(0, gR E o), (1, .int x1_5)] [] 18 0 0 (gEnd K E (qI Q) gNo rmX6_takesText.cells rmX6_takesText.slots) := by
    intro n18
    induction n18 with
    | zero => intro _ _ hw; exact False.elim hw
    | succ n18 ih18 =>
      intro x1_5 M_6 hw
      refine g_iload_n C dX6_takesText_18 1 rfl rfl ?_
      refine g_if_eq C dX6_takesText_19 (tgt := 61) (by decide) (fun c19 => ?_) (fun c19 => ?_)
      · have hw := hw.1 c19
        refine g_iload_n C dX6_takesText_61 1 rfl rfl ?_
        obtain ⟨hb_7, hw⟩ := hw
        exact g_zret C dX6_takesText_62 hb_7.1 (Nat.le_of_ble_eq_true rfl) (Nat.le_of_ble_eq_true rfl) ⟨_, rfl, hw⟩
      · have hw := hw.2 c19
        refine g_aload_n C dX6_takesText_22 0 rfl rfl ?_
        refine gf_RX6_266 C hk0 dX6_takesText_23 ?_
        refine g_aload_n C dX6_takesText_26 0 rfl rfl ?_
        refine gf_RX6_263 C hk0 dX6_takesText_27 ?_
        refine g_icmp_ge C dX6_takesText_30 (tgt := 61) (by decide) (fun c30 => ?_) (fun c30 => ?_)
        · have hw := hw.1 c30
          refine g_iload_n C dX6_takesText_61 1 rfl rfl ?_
          obtain ⟨hb_8, hw⟩ := hw
          exact g_zret C dX6_takesText_62 hb_8.1 (Nat.le_of_ble_eq_true rfl) (Nat.le_of_ble_eq_true rfl) ⟨_, rfl, hw⟩
        · have hw := hw.2 c30
          refine g_aload_n C dX6_takesText_33 0 rfl rfl ?_
          refine g_bipush C dX6_takesText_34 (v := 59) rfl ?_
          refine g_cV C dX6_takesText_36 (met_X6_skips C.st hw) (gc_X6_skips _ (Nat.le_of_ble_eq_true rfl) (Nat.le_of_ble_eq_true rfl)) tw1416 tw1418 twp64 (ci := 6) rfl (by decide) hk0 rfl (Nat.le_of_ble_eq_true rfl) (c2 := 0) (s2 := 0) rfl rfl (Nat.le_of_ble_eq_true rfl) (Nat.le_of_ble_eq_true rfl) rfl (kI (fun r_9 M_10 hw => ?_)) tNo
          refine g_if_eq C dX6_takesText_39 (tgt := 56) (by decide) (fun c39 => ?_) (fun c39 => ?_)
          · have hw := hw.1 c39
            refine g_iconst C dX6_takesText_56 (v := 0) rfl ?_
            refine g_istore_n C dX6_takesText_57 rfl (Nat.le_of_ble_eq_true rfl) (loc' := [(1, .int 0), (0, gR E o)]) rfl ?_
            refine g_goto C dX6_takesText_58 (tgt := 18) (by decide) ?_
            refine g_sub [1, 0] rfl ?_
            exact ih18 _ _ hw
          · have hw := hw.2 c39
            refine g_aload_n C dX6_takesText_42 0 rfl rfl ?_
            refine g_iconst C dX6_takesText_43 (v := 5) rfl ?_
            refine g_bipush C dX6_takesText_44 (v := 44) rfl ?_
            refine g_cV C dX6_takesText_46 (met_X6_takesRow C.st hw) (gc_X6_takesRow _ (Nat.le_of_ble_eq_true rfl) (Nat.le_of_ble_eq_true rfl)) tw1412 tw1414 twp63 (ci := 6) rfl (by decide) hk0 rfl (Nat.le_of_ble_eq_true rfl) (c2 := 0) (s2 := 0) rfl rfl (Nat.le_of_ble_eq_true rfl) (Nat.le_of_ble_eq_true rfl) rfl (kI (fun r_11 M_12 hw => ?_)) tNo
            refine g_if_eq C dX6_takesText_49 (tgt := 56) (by decide) (fun c49 => ?_) (fun c49 => ?_)
            · have hw := hw.1 c49
              refine g_iconst C dX6_takesText_56 (v := 0) rfl ?_
              refine g_istore_n C dX6_takesText_57 rfl (Nat.le_of_ble_eq_true rfl) (loc' := [(1, .int 0), (0, gR E o)]) rfl ?_
              refine g_goto C dX6_takesText_58 (tgt := 18) (by decide) ?_
              refine g_sub [1, 0] rfl ?_
              exact ih18 _ _ hw
            · have hw := hw.2 c49
              refine g_iconst C dX6_takesText_52 (v := 1) rfl ?_
              refine g_goto C dX6_takesText_53 (tgt := 57) (by decide) ?_
              refine g_istore_n C dX6_takesText_57 rfl (Nat.le_of_ble_eq_true rfl) (loc' := [(1, .int 1), (0, gR E o)]) rfl ?_
              refine g_goto C dX6_takesText_58 (tgt := 18) (by decide) ?_
              refine g_sub [1, 0] rfl ?_
              exact ih18 _ _ hw
  refine g_sub [1, 0] rfl ?_
  exact hL18 m18 _ _ hw
theorem gc_X6_takesText : ∀ rm : Room, rmX6_takesText.frames + 1 ≤ rm.frames → 8 + (2 + 11) + rmX6_takesText.locals ≤ rm.locals → gCall yX6_takesText 2 0 rmX6_takesText rm := fun rm a b => ⟨Or.inl ⟨_, _, tw1411⟩, tw8, ⟨by decide, by decide⟩, by decide, a, b⟩
abbrev rmX6_areInRange : Room := { frames := 2, cells := 0, slots := 0, locals := 50 }
def wp_X6_areInRange_L50 (o : Nat) (M : MEM) (Q : Int32 → Prop) : Nat → Int64 → Int32 → Prop
  | 0, _, _ => False
  | n50 + 1, x1_4, x3_5 => ((mI M o 23) ≤ x3_5 → (Q 1)) ∧ (¬ (mI M o 23) ≤ x3_5 → (vp_in x3_5 128 ∧ (wp_X6_isBetween (mL M (RF o 19) x3_5.toNatClampNeg) (x1_4 + 1) 999999 M (fun r_7 => (r_7 = 0 → (Q 0)) ∧ (¬ r_7 = 0 → (vp_in (x3_5 + 1) 128 ∧ (wp_X6_isBetween (mL M (RF o 19) (x3_5 + 1).toNatClampNeg) 0 99 M (fun r_10 => (r_10 = 0 → (Q 0)) ∧ (¬ r_10 = 0 → (vp_in (x3_5 + 2) 128 ∧ (wp_X6_isBetween (mL M (RF o 19) (x3_5 + 2).toNatClampNeg) 0 3 M (fun r_13 => (r_13 = 0 → (Q 0)) ∧ (¬ r_13 = 0 → (vp_in (x3_5 + 3) 128 ∧ (wp_X6_isBetween (mL M (RF o 19) (x3_5 + 3).toNatClampNeg) 1 99 M (fun r_16 => (r_16 = 0 → (Q 0)) ∧ (¬ r_16 = 0 → (vp_in (x3_5 + 4) 128 ∧ (wp_X6_isBetween (mL M (RF o 19) (x3_5 + 4).toNatClampNeg) (-999) 999 M (fun r_19 => (¬ r_19 = 0 → (vp_in x3_5 128 ∧ (∀ x1_22 : Int64, x1_22 = mL M (RF o 19) x3_5.toNatClampNeg → (∀ x3_23 : Int32, x3_23 = x3_5 + 5 → ((wp_X6_areInRange_L50 o M Q n50) x1_22 x3_23))))) ∧ (r_19 = 0 → (Q 0))))))))))))))))))))))
def wp_X6_areInRange (o : Nat) (M : MEM) (Q : Int32 → Prop) : Prop := KD o = (16, 0) ∧ (KD (RF o 19) = (2, 128) ∧ (wp_X6_isSummary (mL M (RF o 19) 0) (mL M (RF o 19) 1) (mL M (RF o 19) 3) M (fun r_2 => (r_2 = 0 → (Q 0)) ∧ (¬ r_2 = 0 → (((mL M (RF o 19) 2) = (((mL M (RF o 19) 2 : Int64).toInt32 : Int32).toInt64) → (∃ m50 : Nat, wp_X6_areInRange_L50 o M Q m50 (-1) 4)) ∧ (¬ (mL M (RF o 19) 2) = (((mL M (RF o 19) 2 : Int64).toInt32 : Int32).toInt64) → (Q 0)))))))
set_option maxRecDepth 100000 in
set_option maxHeartbeats 4000000 in
theorem met_X6_areInRange {l : Launch} (hl : l.stackTraces = false) {E : MK} {o : Nat} {M : MEM} {Q : Int32 → Prop} (hw : wp_X6_areInRange o M Q) : gMet l E yX6_areInRange rmX6_areInRange [gR E o] M (qIp M Q) gNo := by
  obtain ⟨hk0, hw⟩ := hw
  refine g_met hl (cc := cX6_areInRange) (maxL := 4) (ret := (some .boolean)) (hh := []) (loc := [(0, gR E o)]) (by decide +kernel) (Or.inl ⟨tw1430, rfl⟩) (Nat.le_of_ble_eq_true rfl) rfl (fun K hK C => ?_)
  have C : GC K E cX6_areInRange RX6 4 (some .boolean) [] rmX6_areInRange := C
  refine g_aload_n C dX6_areInRange_0 0 rfl rfl ?_
  refine gf_RX6_44 C hk0 dX6_areInRange_1 ?_
  refine g_iconst C dX6_areInRange_4 (v := 0) rfl ?_
  obtain ⟨hk_1, hw⟩ := hw
  refine g_laload C hk_1 (i := 0) (vp_lit rfl) dX6_areInRange_5 ?_
  refine g_aload_n C dX6_areInRange_6 0 rfl rfl ?_
  refine gf_RX6_44 C hk0 dX6_areInRange_7 ?_
  refine g_iconst C dX6_areInRange_10 (v := 1) rfl ?_
  refine g_laload C hk_1 (i := 1) (vp_lit rfl) dX6_areInRange_11 ?_
  refine g_aload_n C dX6_areInRange_12 0 rfl rfl ?_
  refine gf_RX6_44 C hk0 dX6_areInRange_13 ?_
  refine g_iconst C dX6_areInRange_16 (v := 3) rfl ?_
  refine g_laload C hk_1 (i := 3) (vp_lit rfl) dX6_areInRange_17 ?_
  refine g_cS C dX6_areInRange_18 (met_X6_isSummary C.st hw) (gc_X6_isSummary _ (Nat.le_of_ble_eq_true rfl) (Nat.le_of_ble_eq_true rfl)) (Or.inl tw1135) tw1136 rfl (Nat.le_of_ble_eq_true rfl) (c2 := 0) (s2 := 0) rfl rfl (Nat.le_of_ble_eq_true rfl) (Nat.le_of_ble_eq_true rfl) rfl (kIp (fun r_2 hw => ?_)) tNo
  refine g_if_eq C dX6_areInRange_21 (tgt := 42) (by decide) (fun c21 => ?_) (fun c21 => ?_)
  · have hw := hw.1 c21
    refine g_iconst C dX6_areInRange_42 (v := 0) rfl ?_
    exact g_zret C dX6_areInRange_43 gB0.1 (Nat.le_of_ble_eq_true rfl) (Nat.le_of_ble_eq_true rfl) ⟨_, rfl, rfl, hw⟩
  · have hw := hw.2 c21
    refine g_aload_n C dX6_areInRange_24 0 rfl rfl ?_
    refine gf_RX6_44 C hk0 dX6_areInRange_25 ?_
    refine g_iconst C dX6_areInRange_28 (v := 2) rfl ?_
    refine g_laload C hk_1 (i := 2) (vp_lit rfl) dX6_areInRange_29 ?_
    refine g_aload_n C dX6_areInRange_30 0 rfl rfl ?_
    refine gf_RX6_44 C hk0 dX6_areInRange_31 ?_
    refine g_iconst C dX6_areInRange_34 (v := 2) rfl ?_
    refine g_laload C hk_1 (i := 2) (vp_lit rfl) dX6_areInRange_35 ?_
    refine g_l2i C dX6_areInRange_36 ?_
    refine g_i2l C dX6_areInRange_37 ?_
    refine g_lc_eq C dX6_areInRange_38 dX6_areInRange_39 (tgt := 44) (by decide) (fun c39 => ?_) (fun c39 => ?_)
    · have hw := hw.1 c39
      refine g_ldc2 C dX6_areInRange_44 tw1431 ?_
      refine g_lstore_n C dX6_areInRange_47 rfl (Nat.le_of_ble_eq_true rfl) (loc' := [(1, .long (-1)), (0, gR E o)]) rfl ?_
      refine g_iconst C dX6_areInRange_48 (v := 4) rfl ?_
      refine g_istore_n C dX6_areInRange_49 rfl (Nat.le_of_ble_eq_true rfl) (loc' := [(3, .int 4), (1, .long (-1)), (0, gR E o)]) rfl ?_
      obtain ⟨m50, hw⟩ := hw
      have hL50 : ∀ (n50 : Nat) (x1_4 : Int64) (x3_5 : Int32), wp_X6_areInRange_L50 o M Q n50 x1_4 x3_5 → GX K E 4 M [(0, gR E o), (1, .long x1_4), (3, .int x3_5)] [] 50 0 0 (gEnd K E (qIp M Q) gNo rmX6_areInRange.cells rmX6_areInRange.slots) := by
        intro n50
        induction n50 with
        | zero => intro _ _ hw; exact False.elim hw
        | succ n50 ih50 =>
          intro x1_4 x3_5 hw
          refine g_iload_n C dX6_areInRange_50 2 rfl rfl ?_
          refine g_aload_n C dX6_areInRange_51 0 rfl rfl ?_
          refine gf_RX6_279 C hk0 dX6_areInRange_52 ?_
          refine g_icmp_ge C dX6_areInRange_55 (tgt := 165) (by decide) (fun c55 => ?_) (fun c55 => ?_)
          · have hw := hw.1 c55
            refine g_iconst C dX6_areInRange_165 (v := 1) rfl ?_
            exact g_zret C dX6_areInRange_166 gB1.1 (Nat.le_of_ble_eq_true rfl) (Nat.le_of_ble_eq_true rfl) ⟨_, rfl, rfl, hw⟩
          · have hw := hw.2 c55
            refine g_aload_n C dX6_areInRange_58 0 rfl rfl ?_
            refine gf_RX6_44 C hk0 dX6_areInRange_59 ?_
            refine g_iload_n C dX6_areInRange_62 2 rfl rfl ?_
            obtain ⟨hi_6, hw⟩ := hw
            refine g_laload C hk_1 hi_6 dX6_areInRange_63 ?_
            refine g_lload_n C dX6_areInRange_64 1 rfl rfl ?_
            refine g_lconst C dX6_areInRange_65 (v := 1) rfl ?_
            refine g_ladd C dX6_areInRange_66 ?_
            refine g_ldc2 C dX6_areInRange_67 tw1432 ?_
            refine g_cS C dX6_areInRange_70 (met_X6_isBetween C.st hw) (gc_X6_isBetween _ (Nat.le_of_ble_eq_true rfl) (Nat.le_of_ble_eq_true rfl)) (Or.inl tw1139) tw1140 rfl (Nat.le_of_ble_eq_true rfl) (c2 := 0) (s2 := 0) rfl rfl (Nat.le_of_ble_eq_true rfl) (Nat.le_of_ble_eq_true rfl) rfl (kIp (fun r_7 hw => ?_)) tNo
            refine g_if_eq C dX6_areInRange_73 (tgt := 150) (by decide) (fun c73 => ?_) (fun c73 => ?_)
            · have hw := hw.1 c73
              refine g_iconst C dX6_areInRange_150 (v := 0) rfl ?_
              exact g_zret C dX6_areInRange_151 gB0.1 (Nat.le_of_ble_eq_true rfl) (Nat.le_of_ble_eq_true rfl) ⟨_, rfl, rfl, hw⟩
            · have hw := hw.2 c73
              refine g_aload_n C dX6_areInRange_76 0 rfl rfl ?_
              refine gf_RX6_44 C hk0 dX6_areInRange_77 ?_
              refine g_iload_n C dX6_areInRange_80 2 rfl rfl ?_
              refine g_iconst C dX6_areInRange_81 (v := 1) rfl ?_
              refine g_iadd C dX6_areInRange_82 ?_
              obtain ⟨hi_9, hw⟩ := hw
              refine g_laload C hk_1 hi_9 dX6_areInRange_83 ?_
              refine g_lconst C dX6_areInRange_84 (v := 0) rfl ?_
              refine g_ldc2 C dX6_areInRange_85 tw1183 ?_
              refine g_cS C dX6_areInRange_88 (met_X6_isBetween C.st hw) (gc_X6_isBetween _ (Nat.le_of_ble_eq_true rfl) (Nat.le_of_ble_eq_true rfl)) (Or.inl tw1139) tw1140 rfl (Nat.le_of_ble_eq_true rfl) (c2 := 0) (s2 := 0) rfl rfl (Nat.le_of_ble_eq_true rfl) (Nat.le_of_ble_eq_true rfl) rfl (kIp (fun r_10 hw => ?_)) tNo
              refine g_if_eq C dX6_areInRange_91 (tgt := 150) (by decide) (fun c91 => ?_) (fun c91 => ?_)
              · have hw := hw.1 c91
                refine g_iconst C dX6_areInRange_150 (v := 0) rfl ?_
                exact g_zret C dX6_areInRange_151 gB0.1 (Nat.le_of_ble_eq_true rfl) (Nat.le_of_ble_eq_true rfl) ⟨_, rfl, rfl, hw⟩
              · have hw := hw.2 c91
                refine g_aload_n C dX6_areInRange_94 0 rfl rfl ?_
                refine gf_RX6_44 C hk0 dX6_areInRange_95 ?_
                refine g_iload_n C dX6_areInRange_98 2 rfl rfl ?_
                refine g_iconst C dX6_areInRange_99 (v := 2) rfl ?_
                refine g_iadd C dX6_areInRange_100 ?_
                obtain ⟨hi_12, hw⟩ := hw
                refine g_laload C hk_1 hi_12 dX6_areInRange_101 ?_
                refine g_lconst C dX6_areInRange_102 (v := 0) rfl ?_
                refine g_ldc2 C dX6_areInRange_103 tw1138 ?_
                refine g_cS C dX6_areInRange_106 (met_X6_isBetween C.st hw) (gc_X6_isBetween _ (Nat.le_of_ble_eq_true rfl) (Nat.le_of_ble_eq_true rfl)) (Or.inl tw1139) tw1140 rfl (Nat.le_of_ble_eq_true rfl) (c2 := 0) (s2 := 0) rfl rfl (Nat.le_of_ble_eq_true rfl) (Nat.le_of_ble_eq_true rfl) rfl (kIp (fun r_13 hw => ?_)) tNo
                refine g_if_eq C dX6_areInRange_109 (tgt := 150) (by decide) (fun c109 => ?_) (fun c109 => ?_)
                · have hw := hw.1 c109
                  refine g_iconst C dX6_areInRange_150 (v := 0) rfl ?_
                  exact g_zret C dX6_areInRange_151 gB0.1 (Nat.le_of_ble_eq_true rfl) (Nat.le_of_ble_eq_true rfl) ⟨_, rfl, rfl, hw⟩
                · have hw := hw.2 c109
                  refine g_aload_n C dX6_areInRange_112 0 rfl rfl ?_
                  refine gf_RX6_44 C hk0 dX6_areInRange_113 ?_
                  refine g_iload_n C dX6_areInRange_116 2 rfl rfl ?_
                  refine g_iconst C dX6_areInRange_117 (v := 3) rfl ?_
                  refine g_iadd C dX6_areInRange_118 ?_
                  obtain ⟨hi_15, hw⟩ := hw
                  refine g_laload C hk_1 hi_15 dX6_areInRange_119 ?_
                  refine g_lconst C dX6_areInRange_120 (v := 1) rfl ?_
                  refine g_ldc2 C dX6_areInRange_121 tw1183 ?_
                  refine g_cS C dX6_areInRange_124 (met_X6_isBetween C.st hw) (gc_X6_isBetween _ (Nat.le_of_ble_eq_true rfl) (Nat.le_of_ble_eq_true rfl)) (Or.inl tw1139) tw1140 rfl (Nat.le_of_ble_eq_true rfl) (c2 := 0) (s2 := 0) rfl rfl (Nat.le_of_ble_eq_true rfl) (Nat.le_of_ble_eq_true rfl) rfl (kIp (fun r_16 hw => ?_)) tNo
                  refine g_if_eq C dX6_areInRange_127 (tgt := 150) (by decide) (fun c127 => ?_) (fun c127 => ?_)
                  · have hw := hw.1 c127
                    refine g_iconst C dX6_areInRange_150 (v := 0) rfl ?_
                    exact g_zret C dX6_areInRange_151 gB0.1 (Nat.le_of_ble_eq_true rfl) (Nat.le_of_ble_eq_true rfl) ⟨_, rfl, rfl, hw⟩
                  · have hw := hw.2 c127
                    refine g_aload_n C dX6_areInRange_130 0 rfl rfl ?_
                    refine gf_RX6_44 C hk0 dX6_areInRange_131 ?_
                    refine g_iload_n C dX6_areInRange_134 2 rfl rfl ?_
                    refine g_iconst C dX6_areInRange_135 (v := 4) rfl ?_
                    refine g_iadd C dX6_areInRange_136 ?_
                    obtain ⟨hi_18, hw⟩ := hw
                    refine g_laload C hk_1 hi_18 dX6_areInRange_137 ?_
                    refine g_ldc2 C dX6_areInRange_138 tw1187 ?_
                    refine g_ldc2 C dX6_areInRange_141 tw1188 ?_
                    refine g_cS C dX6_areInRange_144 (met_X6_isBetween C.st hw) (gc_X6_isBetween _ (Nat.le_of_ble_eq_true rfl) (Nat.le_of_ble_eq_true rfl)) (Or.inl tw1139) tw1140 rfl (Nat.le_of_ble_eq_true rfl) (c2 := 0) (s2 := 0) rfl rfl (Nat.le_of_ble_eq_true rfl) (Nat.le_of_ble_eq_true rfl) rfl (kIp (fun r_19 hw => ?_)) tNo
                    refine g_if_ne C dX6_areInRange_147 (tgt := 152) (by decide) (fun c147 => ?_) (fun c147 => ?_)
                    · have hw := hw.1 c147
                      refine g_aload_n C dX6_areInRange_152 0 rfl rfl ?_
                      refine gf_RX6_44 C hk0 dX6_areInRange_153 ?_
                      refine g_iload_n C dX6_areInRange_156 2 rfl rfl ?_
                      obtain ⟨hi_21, hw⟩ := hw
                      refine g_laload C hk_1 hi_21 dX6_areInRange_157 ?_
                      refine g_nmL (fun x1_22 ex1_22 => ?_)
                      have hw := hw x1_22 ex1_22
                      refine g_lstore_n C dX6_areInRange_158 rfl (Nat.le_of_ble_eq_true rfl) (loc' := [(1, .long x1_22), (0, gR E o), (3, .int x3_5)]) rfl ?_
                      obtain ⟨x3_23, ex3_23⟩ : ∃ y : Int32, y = x3_5 + 5 := ⟨_, rfl⟩
                      have hw := hw x3_23 ex3_23
                      refine g_iinc C (j := 0) dX6_areInRange_159 2 rfl (v := x3_23) (by rw [ex3_23]; rfl) (Nat.le_of_ble_eq_true rfl) (loc' := [(3, .int x3_23), (1, .long x1_22), (0, gR E o)]) rfl ?_
                      refine g_goto C dX6_areInRange_162 (tgt := 50) (by decide) ?_
                      refine g_sub [2, 1, 0] rfl ?_
                      exact ih50 _ _ hw
                    · have hw := hw.2 c147
                      refine g_iconst C dX6_areInRange_150 (v := 0) rfl ?_
                      exact g_zret C dX6_areInRange_151 gB0.1 (Nat.le_of_ble_eq_true rfl) (Nat.le_of_ble_eq_true rfl) ⟨_, rfl, rfl, hw⟩
      refine g_sub [2, 1, 0] rfl ?_
      exact hL50 m50 _ _ hw
    · have hw := hw.2 c39
      refine g_iconst C dX6_areInRange_42 (v := 0) rfl ?_
      exact g_zret C dX6_areInRange_43 gB0.1 (Nat.le_of_ble_eq_true rfl) (Nat.le_of_ble_eq_true rfl) ⟨_, rfl, rfl, hw⟩
theorem gc_X6_areInRange : ∀ rm : Room, rmX6_areInRange.frames + 1 ≤ rm.frames → 8 + (4 + 11) + rmX6_areInRange.locals ≤ rm.locals → gCall yX6_areInRange 4 0 rmX6_areInRange rm := fun rm a b => ⟨Or.inl ⟨_, _, tw1430⟩, tw8, ⟨by decide, by decide⟩, by decide, a, b⟩
abbrev rmX6_read : Room := { frames := 4, cells := 0, slots := 0, locals := 93 }
def wp_X6_read_L137 (o : Nat) (p1 : Int32) (Q : Int32 → MEM → Prop) (x3_9 : Int32) : Nat → Int32 → MEM → Prop
  | 0, _, _ => False
  | n137 + 1, x4_16, M_17 => (x3_9 ≤ x4_16 → (wp_X6_sets o p1 9 x3_9 M_17 (fun M_19 => Q x3_9 M_19))) ∧ (¬ x3_9 ≤ x4_16 → (∀ x5_20 : Int32, x5_20 = 4 + (5 * x4_16) → (vp_in x5_20 128 ∧ (vp_in (x5_20 + 1) 128 ∧ (vp_in (x5_20 + 2) 128 ∧ (vp_in (x5_20 + 3) 128 ∧ (vp_in (x5_20 + 4) 128 ∧ (wp_X6_setsItem o p1 x4_16 ((mL M_17 (RF o 19) x5_20.toNatClampNeg : Int64).toInt32) ((mL M_17 (RF o 19) (x5_20 + 1).toNatClampNeg : Int64).toInt32) ((mL M_17 (RF o 19) (x5_20 + 2).toNatClampNeg : Int64).toInt32) ((mL M_17 (RF o 19) (x5_20 + 3).toNatClampNeg : Int64).toInt32) ((mL M_17 (RF o 19) (x5_20 + 4).toNatClampNeg : Int64).toInt32) M_17 (fun M_27 => vp_in x5_20 128 ∧ (KD (RF o 1) = (0, 1241) ∧ (((mL M_27 (RF o 19) x5_20.toNatClampNeg) < ((mI M_27 (RF o 1) 1240 : Int32).toInt64) → ((∀ M_30 : MEM, M_30 = uI M_27 (RF o 1) 1240 (mI M_27 (RF o 1) 1240) → (∀ x4_31 : Int32, x4_31 = x4_16 + 1 → ((wp_X6_read_L137 o p1 Q x3_9 n137) x4_31 M_30))))) ∧ (¬ (mL M_27 (RF o 19) x5_20.toNatClampNeg) < ((mI M_27 (RF o 1) 1240 : Int32).toInt64) → (vp_in x5_20 128 ∧ ((∀ M_33 : MEM, M_33 = uI M_27 (RF o 1) 1240 (((mL M_27 (RF o 19) x5_20.toNatClampNeg : Int64).toInt32) + 1) → (∀ x4_34 : Int32, x4_34 = x4_16 + 1 → ((wp_X6_read_L137 o p1 Q x3_9 n137) x4_34 M_33)))))))))))))))))
def wp_X6_read_J87 (o : Nat) (p1 : Int32) (Q : Int32 → MEM → Prop) (M_6 : MEM) (x3_9 : Int32) (s_11 : Int64) : Prop := (x3_9.toInt64 ≤ s_11 → (wp_X6_remembers o M_6 (fun M_13 => wp_X6_begins o p1 ((mL M_13 (RF o 19) 0 : Int64).toInt32) ((mL M_13 (RF o 19) 1 : Int64).toInt32) ((mL M_13 (RF o 19) 2 : Int64).toInt32) ((mL M_13 (RF o 19) 3 : Int64).toInt32) M_13 (fun M_15 => ∃ m137 : Nat, wp_X6_read_L137 o p1 Q x3_9 m137 0 M_15)))) ∧ (¬ x3_9.toInt64 ≤ s_11 → (wp_X6_fails o 3 M_6 (fun r_35 M_36 => Q r_35 M_36)))
def wp_X6_read (o : Nat) (p1 : Int32) (M : MEM) (Q : Int32 → MEM → Prop) : Prop := KD o = (16, 0) ∧ (wp_X6_isSlot p1 M (fun r_1 => (¬ r_1 = 0 → (wp_X6_takesText o M (fun r_3 M_4 => (∀ M_5 : MEM, M_5 = uI M_4 o 21 0 → ((∀ M_6 : MEM, M_6 = uI M_5 o 0 0 → ((¬ r_3 = 0 → (wp_X6_areInRange o M_6 (fun r_7 => (¬ r_7 = 0 → (∀ x3_9 : Int32, x3_9 = ((mI M_6 o 23) - 4) / 5 → (KD (RF o 19) = (2, 128) ∧ ((¬ (mL M_6 (RF o 19) 3) = 0 → (wp_X6_read_J87 o p1 Q M_6 x3_9 (mL M_6 (RF o 19) 3))) ∧ ((mL M_6 (RF o 19) 3) = 0 → (wp_X6_read_J87 o p1 Q M_6 x3_9 60)))))) ∧ (r_7 = 0 → (wp_X6_fails o 2 M_6 (fun r_37 M_38 => Q r_37 M_38)))))) ∧ (r_3 = 0 → (Q ((-100) - (mI M_6 o 22)) M_6))))))))) ∧ (r_1 = 0 → (wp_X6_fails o 1 M (fun r_39 M_40 => Q r_39 M_40)))))
set_option maxRecDepth 100000 in
set_option maxHeartbeats 4000000 in
theorem met_X6_read {l : Launch} (hl : l.stackTraces = false) {E : MK} {o : Nat} {p1 : Int32} {M : MEM} {Q : Int32 → MEM → Prop} (hw : wp_X6_read o p1 M Q) : gMet l E yX6_read rmX6_read [gR E o, .int p1] M (qI Q) gNo := by
  obtain ⟨hk0, hw⟩ := hw
  refine g_met hl (cc := cX6_read) (maxL := 6) (ret := (some .int)) (hh := []) (loc := [(0, gR E o), (1, .int p1)]) (by decide +kernel) (Or.inl ⟨tw1407, rfl⟩) (Nat.le_of_ble_eq_true rfl) rfl (fun K hK C => ?_)
  have C : GC K E cX6_read RX6 6 (some .int) [] rmX6_read := C
  refine g_iload_n C dX6_read_0 1 rfl rfl ?_
  refine g_cS C dX6_read_1 (met_X6_isSlot C.st hw) (gc_X6_isSlot _ (Nat.le_of_ble_eq_true rfl) (Nat.le_of_ble_eq_true rfl)) (Or.inl tw1128) tw1129 rfl (Nat.le_of_ble_eq_true rfl) (c2 := 0) (s2 := 0) rfl rfl (Nat.le_of_ble_eq_true rfl) (Nat.le_of_ble_eq_true rfl) rfl (kIp (fun r_1 hw => ?_)) tNo
  refine g_if_ne C dX6_read_4 (tgt := 13) (by decide) (fun c4 => ?_) (fun c4 => ?_)
  · have hw := hw.1 c4
    refine g_aload_n C dX6_read_13 0 rfl rfl ?_
    refine g_cV C dX6_read_14 (met_X6_takesText C.st hw) (gc_X6_takesText _ (Nat.le_of_ble_eq_true rfl) (Nat.le_of_ble_eq_true rfl)) tw1408 tw1410 twp62 (ci := 6) rfl (by decide) hk0 rfl (Nat.le_of_ble_eq_true rfl) (c2 := 0) (s2 := 0) rfl rfl (Nat.le_of_ble_eq_true rfl) (Nat.le_of_ble_eq_true rfl) rfl (kI (fun r_3 M_4 hw => ?_)) tNo
    refine g_istore_n C dX6_read_17 rfl (Nat.le_of_ble_eq_true rfl) (loc' := [(2, .int r_3), (0, gR E o), (1, .int p1)]) rfl ?_
    refine g_aload_n C dX6_read_18 1 rfl rfl ?_
    refine g_iconst C dX6_read_19 (v := 0) rfl ?_
    refine pf_RX6_263 C hk0 dX6_read_20 ?_
    refine g_nmM (fun M_5 eM_5 => ?_)
    have hw := hw M_5 eM_5
    refine g_aload_n C dX6_read_23 1 rfl rfl ?_
    refine g_iconst C dX6_read_24 (v := 0) rfl ?_
    refine pf_RX6_57 C hk0 dX6_read_25 ?_
    refine g_nmM (fun M_6 eM_6 => ?_)
    have hw := hw M_6 eM_6
    refine g_iload_n C dX6_read_28 0 rfl rfl ?_
    refine g_if_ne C dX6_read_29 (tgt := 40) (by decide) (fun c29 => ?_) (fun c29 => ?_)
    · have hw := hw.1 c29
      refine g_aload_n C dX6_read_40 1 rfl rfl ?_
      refine g_cV C dX6_read_41 (met_X6_areInRange C.st hw) (gc_X6_areInRange _ (Nat.le_of_ble_eq_true rfl) (Nat.le_of_ble_eq_true rfl)) tw1427 tw1429 twp66 (ci := 6) rfl (by decide) hk0 rfl (Nat.le_of_ble_eq_true rfl) (c2 := 0) (s2 := 0) rfl rfl (Nat.le_of_ble_eq_true rfl) (Nat.le_of_ble_eq_true rfl) rfl (kIp (fun r_7 hw => ?_)) tNo
      refine g_if_ne C dX6_read_44 (tgt := 53) (by decide) (fun c44 => ?_) (fun c44 => ?_)
      · have hw := hw.1 c44
        refine g_aload_n C dX6_read_53 1 rfl rfl ?_
        refine gf_RX6_279 C hk0 dX6_read_54 ?_
        refine g_iconst C dX6_read_57 (v := 4) rfl ?_
        refine g_isub C dX6_read_58 ?_
        refine g_iconst C dX6_read_59 (v := 5) rfl ?_
        refine g_idiv C dX6_read_60 (by decide) ?_
        refine g_nmI (fun x3_9 ex3_9 => ?_)
        have hw := hw x3_9 ex3_9
        refine g_istore_n C dX6_read_61 rfl (Nat.le_of_ble_eq_true rfl) (loc' := [(3, .int x3_9), (2, .int r_3), (0, gR E o), (1, .int p1)]) rfl ?_
        refine g_iload_n C dX6_read_62 0 rfl rfl ?_
        refine g_i2l C dX6_read_63 ?_
        refine g_aload_n C dX6_read_64 2 rfl rfl ?_
        refine gf_RX6_44 C hk0 dX6_read_65 ?_
        refine g_iconst C dX6_read_68 (v := 3) rfl ?_
        obtain ⟨hk_10, hw⟩ := hw
        refine g_laload C hk_10 (i := 3) (vp_lit rfl) dX6_read_69 ?_
        refine g_lconst C dX6_read_70 (v := 0) rfl ?_
        have hJ87 : ∀ (s_11 : Int64), wp_X6_read_J87 o p1 Q M_6 x3_9 s_11 → GX K E 6 M_6 [(0, gR E o), (1, .int p1), (3, .int x3_9)] [.long s_11, .long x3_9.toInt64] 87 0 0 (gEnd K E (qI Q) gNo rmX6_read.cells rmX6_read.slots) := by
          intro s_11 hw
          refine g_lc_le C dX6_read_87 dX6_read_88 (tgt := 97) (by decide) (fun c88 => ?_) (fun c88 => ?_)
          · have hw := hw.1 c88
            refine g_aload_n C dX6_read_97 0 rfl rfl ?_
            refine g_cV C dX6_read_98 (met_X6_remembers C.st hw) (gc_X6_remembers _ (Nat.le_of_ble_eq_true rfl) (Nat.le_of_ble_eq_true rfl)) tw1144 tw1146 twp29 (ci := 6) rfl (by decide) hk0 rfl (Nat.le_of_ble_eq_true rfl) (c2 := 0) (s2 := 0) rfl rfl (Nat.le_of_ble_eq_true rfl) (Nat.le_of_ble_eq_true rfl) rfl (kV (fun M_13 hw => ?_)) tNo
            refine g_aload_n C dX6_read_101 0 rfl rfl ?_
            refine g_iload_n C dX6_read_102 1 rfl rfl ?_
            refine g_aload_n C dX6_read_103 0 rfl rfl ?_
            refine gf_RX6_44 C hk0 dX6_read_104 ?_
            refine g_iconst C dX6_read_107 (v := 0) rfl ?_
            refine g_laload C hk_10 (i := 0) (vp_lit rfl) dX6_read_108 ?_
            refine g_l2i C dX6_read_109 ?_
            refine g_aload_n C dX6_read_110 0 rfl rfl ?_
            refine gf_RX6_44 C hk0 dX6_read_111 ?_
            refine g_iconst C dX6_read_114 (v := 1) rfl ?_
            refine g_laload C hk_10 (i := 1) (vp_lit rfl) dX6_read_115 ?_
            refine g_l2i C dX6_read_116 ?_
            refine g_aload_n C dX6_read_117 0 rfl rfl ?_
            refine gf_RX6_44 C hk0 dX6_read_118 ?_
            refine g_iconst C dX6_read_121 (v := 2) rfl ?_
            refine g_laload C hk_10 (i := 2) (vp_lit rfl) dX6_read_122 ?_
            refine g_l2i C dX6_read_123 ?_
            refine g_aload_n C dX6_read_124 0 rfl rfl ?_
            refine gf_RX6_44 C hk0 dX6_read_125 ?_
            refine g_iconst C dX6_read_128 (v := 3) rfl ?_
            refine g_laload C hk_10 (i := 3) (vp_lit rfl) dX6_read_129 ?_
            refine g_l2i C dX6_read_130 ?_
            refine g_cV C dX6_read_131 (met_X6_begins C.st hw) (gc_X6_begins _ (Nat.le_of_ble_eq_true rfl) (Nat.le_of_ble_eq_true rfl)) tw1164 tw1166 twp34 (ci := 6) rfl (by decide) hk0 rfl (Nat.le_of_ble_eq_true rfl) (c2 := 0) (s2 := 0) rfl rfl (Nat.le_of_ble_eq_true rfl) (Nat.le_of_ble_eq_true rfl) rfl (kV (fun M_15 hw => ?_)) tNo
            refine g_iconst C dX6_read_134 (v := 0) rfl ?_
            refine g_istore C dX6_read_135 (Nat.le_of_ble_eq_true rfl) (loc' := [(4, .int 0), (0, gR E o), (1, .int p1), (3, .int x3_9)]) rfl ?_
            obtain ⟨m137, hw⟩ := hw
            have hL137 : ∀ (n137 : Nat) (x4_16 : Int32) (M_17 : MEM), wp_X6_read_L137 o p1 Q x3_9 n137 x4_16 M_17 → GX K E 6 M_17 [(0, gR E o), (1, .int p1), (3, .int x3_9), (4, .int x4_16)] [] 137 0 0 (gEnd K E (qI Q) gNo rmX6_read.cells rmX6_read.slots) := by
              intro n137
              induction n137 with
              | zero => intro _ _ hw; exact False.elim hw
              | succ n137 ih137 =>
                intro x4_16 M_17 hw
                refine g_iload C (j := 0) dX6_read_137 3 rfl ?_
                refine g_iload_n C dX6_read_139 2 rfl rfl ?_
                refine g_icmp_ge C dX6_read_140 (tgt := 261) (by decide) (fun c140 => ?_) (fun c140 => ?_)
                · have hw := hw.1 c140
                  refine g_aload_n C dX6_read_261 0 rfl rfl ?_
                  refine g_iload_n C dX6_read_262 1 rfl rfl ?_
                  refine g_bipush C dX6_read_263 (v := 9) rfl ?_
                  refine g_iload_n C dX6_read_265 2 rfl rfl ?_
                  refine g_cV C dX6_read_266 (met_X6_sets C.st hw) (gc_X6_sets _ (Nat.le_of_ble_eq_true rfl) (Nat.le_of_ble_eq_true rfl)) tw1168 tw1170 twp35 (ci := 6) rfl (by decide) hk0 rfl (Nat.le_of_ble_eq_true rfl) (c2 := 0) (s2 := 0) rfl rfl (Nat.le_of_ble_eq_true rfl) (Nat.le_of_ble_eq_true rfl) rfl (kV (fun M_19 hw => ?_)) tNo
                  refine g_iload_n C dX6_read_269 2 rfl rfl ?_
                  exact g_iret C dX6_read_270 (Nat.le_of_ble_eq_true rfl) (Nat.le_of_ble_eq_true rfl) ⟨_, rfl, hw⟩
                · have hw := hw.2 c140
                  refine g_iconst C dX6_read_143 (v := 4) rfl ?_
                  refine g_iconst C dX6_read_144 (v := 5) rfl ?_
                  refine g_iload C (j := 0) dX6_read_145 3 rfl ?_
                  refine g_imul C dX6_read_147 ?_
                  refine g_iadd C dX6_read_148 ?_
                  refine g_nmI (fun x5_20 ex5_20 => ?_)
                  have hw := hw x5_20 ex5_20
                  refine g_istore C dX6_read_149 (Nat.le_of_ble_eq_true rfl) (loc' := [(5, .int x5_20), (0, gR E o), (1, .int p1), (3, .int x3_9), (4, .int x4_16)]) rfl ?_
                  refine g_aload_n C dX6_read_151 1 rfl rfl ?_
                  refine g_iload_n C dX6_read_152 2 rfl rfl ?_
                  refine g_iload C (j := 0) dX6_read_153 4 rfl ?_
                  refine g_aload_n C dX6_read_155 1 rfl rfl ?_
                  refine gf_RX6_44 C hk0 dX6_read_156 ?_
                  refine g_iload C (j := 0) dX6_read_159 0 rfl ?_
                  obtain ⟨hi_21, hw⟩ := hw
                  refine g_laload C hk_10 hi_21 dX6_read_161 ?_
                  refine g_l2i C dX6_read_162 ?_
                  refine g_aload_n C dX6_read_163 1 rfl rfl ?_
                  refine gf_RX6_44 C hk0 dX6_read_164 ?_
                  refine g_iload C (j := 0) dX6_read_167 0 rfl ?_
                  refine g_iconst C dX6_read_169 (v := 1) rfl ?_
                  refine g_iadd C dX6_read_170 ?_
                  obtain ⟨hi_22, hw⟩ := hw
                  refine g_laload C hk_10 hi_22 dX6_read_171 ?_
                  refine g_l2i C dX6_read_172 ?_
                  refine g_aload_n C dX6_read_173 1 rfl rfl ?_
                  refine gf_RX6_44 C hk0 dX6_read_174 ?_
                  refine g_iload C (j := 0) dX6_read_177 0 rfl ?_
                  refine g_iconst C dX6_read_179 (v := 2) rfl ?_
                  refine g_iadd C dX6_read_180 ?_
                  obtain ⟨hi_23, hw⟩ := hw
                  refine g_laload C hk_10 hi_23 dX6_read_181 ?_
                  refine g_l2i C dX6_read_182 ?_
                  refine g_aload_n C dX6_read_183 1 rfl rfl ?_
                  refine gf_RX6_44 C hk0 dX6_read_184 ?_
                  refine g_iload C (j := 0) dX6_read_187 0 rfl ?_
                  refine g_iconst C dX6_read_189 (v := 3) rfl ?_
                  refine g_iadd C dX6_read_190 ?_
                  obtain ⟨hi_24, hw⟩ := hw
                  refine g_laload C hk_10 hi_24 dX6_read_191 ?_
                  refine g_l2i C dX6_read_192 ?_
                  refine g_aload_n C dX6_read_193 1 rfl rfl ?_
                  refine gf_RX6_44 C hk0 dX6_read_194 ?_
                  refine g_iload C (j := 0) dX6_read_197 0 rfl ?_
                  refine g_iconst C dX6_read_199 (v := 4) rfl ?_
                  refine g_iadd C dX6_read_200 ?_
                  obtain ⟨hi_25, hw⟩ := hw
                  refine g_laload C hk_10 hi_25 dX6_read_201 ?_
                  refine g_l2i C dX6_read_202 ?_
                  refine g_cV C dX6_read_203 (met_X6_setsItem C.st hw) (gc_X6_setsItem _ (Nat.le_of_ble_eq_true rfl) (Nat.le_of_ble_eq_true rfl)) tw1201 tw1203 twp39 (ci := 6) rfl (by decide) hk0 rfl (Nat.le_of_ble_eq_true rfl) (c2 := 0) (s2 := 0) rfl rfl (Nat.le_of_ble_eq_true rfl) (Nat.le_of_ble_eq_true rfl) rfl (kV (fun M_27 hw => ?_)) tNo
                  refine g_aload_n C dX6_read_206 1 rfl rfl ?_
                  refine gf_RX6_7 C hk0 dX6_read_207 ?_
                  refine g_sipush C dX6_read_210 (v := 1240) rfl ?_
                  refine g_aload_n C dX6_read_213 1 rfl rfl ?_
                  refine gf_RX6_44 C hk0 dX6_read_214 ?_
                  refine g_iload C (j := 0) dX6_read_217 0 rfl ?_
                  obtain ⟨hi_28, hw⟩ := hw
                  refine g_laload C hk_10 hi_28 dX6_read_219 ?_
                  refine g_aload_n C dX6_read_220 1 rfl rfl ?_
                  refine gf_RX6_7 C hk0 dX6_read_221 ?_
                  refine g_sipush C dX6_read_224 (v := 1240) rfl ?_
                  obtain ⟨hk_29, hw⟩ := hw
                  refine g_iaload C hk_29 (i := 1240) (vp_lit rfl) dX6_read_227 ?_
                  refine g_i2l C dX6_read_228 ?_
                  refine g_lc_lt C dX6_read_229 dX6_read_230 (tgt := 246) (by decide) (fun c230 => ?_) (fun c230 => ?_)
                  · have hw := hw.1 c230
                    refine g_aload_n C dX6_read_246 1 rfl rfl ?_
                    refine gf_RX6_7 C hk0 dX6_read_247 ?_
                    refine g_sipush C dX6_read_250 (v := 1240) rfl ?_
                    refine g_iaload C hk_29 (i := 1240) (vp_lit rfl) dX6_read_253 ?_
                    refine g_iastore C hk_29 (i := 1240) (vp_lit rfl) dX6_read_254 ?_
                    refine g_nmM (fun M_30 eM_30 => ?_)
                    have hw := hw M_30 eM_30
                    obtain ⟨x4_31, ex4_31⟩ : ∃ y : Int32, y = x4_16 + 1 := ⟨_, rfl⟩
                    have hw := hw x4_31 ex4_31
                    refine g_iinc C (j := 0) dX6_read_255 4 rfl (v := x4_31) (by rw [ex4_31]; rfl) (Nat.le_of_ble_eq_true rfl) (loc' := [(4, .int x4_31), (5, .int x5_20), (0, gR E o), (1, .int p1), (3, .int x3_9)]) rfl ?_
                    refine g_goto C dX6_read_258 (tgt := 137) (by decide) ?_
                    refine g_sub [2, 3, 4, 0] rfl ?_
                    exact ih137 _ _ hw
                  · have hw := hw.2 c230
                    refine g_aload_n C dX6_read_233 1 rfl rfl ?_
                    refine gf_RX6_44 C hk0 dX6_read_234 ?_
                    refine g_iload C (j := 0) dX6_read_237 0 rfl ?_
                    obtain ⟨hi_32, hw⟩ := hw
                    refine g_laload C hk_10 hi_32 dX6_read_239 ?_
                    refine g_l2i C dX6_read_240 ?_
                    refine g_iconst C dX6_read_241 (v := 1) rfl ?_
                    refine g_iadd C dX6_read_242 ?_
                    refine g_goto C dX6_read_243 (tgt := 254) (by decide) ?_
                    refine g_iastore C hk_29 (i := 1240) (vp_lit rfl) dX6_read_254 ?_
                    refine g_nmM (fun M_33 eM_33 => ?_)
                    have hw := hw M_33 eM_33
                    obtain ⟨x4_34, ex4_34⟩ : ∃ y : Int32, y = x4_16 + 1 := ⟨_, rfl⟩
                    have hw := hw x4_34 ex4_34
                    refine g_iinc C (j := 0) dX6_read_255 4 rfl (v := x4_34) (by rw [ex4_34]; rfl) (Nat.le_of_ble_eq_true rfl) (loc' := [(4, .int x4_34), (5, .int x5_20), (0, gR E o), (1, .int p1), (3, .int x3_9)]) rfl ?_
                    refine g_goto C dX6_read_258 (tgt := 137) (by decide) ?_
                    refine g_sub [2, 3, 4, 0] rfl ?_
                    exact ih137 _ _ hw
            refine g_sub [1, 2, 3, 0] rfl ?_
            exact hL137 m137 _ _ hw
          · have hw := hw.2 c88
            refine g_aload_n C dX6_read_91 0 rfl rfl ?_
            refine g_iconst C dX6_read_92 (v := 3) rfl ?_
            refine g_cV C dX6_read_93 (met_X6_fails C.st hw) (gc_X6_fails _ (Nat.le_of_ble_eq_true rfl) (Nat.le_of_ble_eq_true rfl)) tw1131 tw1133 twp28 (ci := 6) rfl (by decide) hk0 rfl (Nat.le_of_ble_eq_true rfl) (c2 := 0) (s2 := 0) rfl rfl (Nat.le_of_ble_eq_true rfl) (Nat.le_of_ble_eq_true rfl) rfl (kI (fun r_35 M_36 hw => ?_)) tNo
            exact g_iret C dX6_read_96 (Nat.le_of_ble_eq_true rfl) (Nat.le_of_ble_eq_true rfl) ⟨_, rfl, hw⟩
        refine g_lc_ne C dX6_read_71 dX6_read_72 (tgt := 81) (by decide) (fun c72 => ?_) (fun c72 => ?_)
        · have hw := hw.1 c72
          refine g_aload_n C dX6_read_81 2 rfl rfl ?_
          refine gf_RX6_44 C hk0 dX6_read_82 ?_
          refine g_iconst C dX6_read_85 (v := 3) rfl ?_
          refine g_laload C hk_10 (i := 3) (vp_lit rfl) dX6_read_86 ?_
          refine g_sub [2, 3, 0] rfl ?_
          exact hJ87 _ hw
        · have hw := hw.2 c72
          refine g_ldc2 C dX6_read_75 tw1209 ?_
          refine g_goto C dX6_read_78 (tgt := 87) (by decide) ?_
          refine g_sub [2, 3, 0] rfl ?_
          exact hJ87 _ hw
      · have hw := hw.2 c44
        refine g_aload_n C dX6_read_47 1 rfl rfl ?_
        refine g_iconst C dX6_read_48 (v := 2) rfl ?_
        refine g_cV C dX6_read_49 (met_X6_fails C.st hw) (gc_X6_fails _ (Nat.le_of_ble_eq_true rfl) (Nat.le_of_ble_eq_true rfl)) tw1131 tw1133 twp28 (ci := 6) rfl (by decide) hk0 rfl (Nat.le_of_ble_eq_true rfl) (c2 := 0) (s2 := 0) rfl rfl (Nat.le_of_ble_eq_true rfl) (Nat.le_of_ble_eq_true rfl) rfl (kI (fun r_37 M_38 hw => ?_)) tNo
        exact g_iret C dX6_read_52 (Nat.le_of_ble_eq_true rfl) (Nat.le_of_ble_eq_true rfl) ⟨_, rfl, hw⟩
    · have hw := hw.2 c29
      refine g_bipush C dX6_read_32 (v := (-100)) rfl ?_
      refine g_aload_n C dX6_read_34 1 rfl rfl ?_
      refine gf_RX6_266 C hk0 dX6_read_35 ?_
      refine g_isub C dX6_read_38 ?_
      exact g_iret C dX6_read_39 (Nat.le_of_ble_eq_true rfl) (Nat.le_of_ble_eq_true rfl) ⟨_, rfl, hw⟩
  · have hw := hw.2 c4
    refine g_aload_n C dX6_read_7 0 rfl rfl ?_
    refine g_iconst C dX6_read_8 (v := 1) rfl ?_
    refine g_cV C dX6_read_9 (met_X6_fails C.st hw) (gc_X6_fails _ (Nat.le_of_ble_eq_true rfl) (Nat.le_of_ble_eq_true rfl)) tw1131 tw1133 twp28 (ci := 6) rfl (by decide) hk0 rfl (Nat.le_of_ble_eq_true rfl) (c2 := 0) (s2 := 0) rfl rfl (Nat.le_of_ble_eq_true rfl) (Nat.le_of_ble_eq_true rfl) rfl (kI (fun r_39 M_40 hw => ?_)) tNo
    exact g_iret C dX6_read_12 (Nat.le_of_ble_eq_true rfl) (Nat.le_of_ble_eq_true rfl) ⟨_, rfl, hw⟩
theorem gc_X6_read : ∀ rm : Room, rmX6_read.frames + 1 ≤ rm.frames → 8 + (6 + 11) + rmX6_read.locals ≤ rm.locals → gCall yX6_read 6 1 rmX6_read rm := fun rm a b => ⟨Or.inl ⟨_, _, tw1407⟩, tw8, ⟨by decide, by decide⟩, by decide, a, b⟩
abbrev rmX6_sign : Room := { frames := 0, cells := 0, slots := 0, locals := 0 }
def wp_X6_sign (o : Nat) (p1 : Int32) (M : MEM) (Q : MEM → Prop) : Prop := KD o = (16, 0) ∧ ((KD (RF o 20) = (0, 1400) ∧ (vp_in (mI M o 24) 1400 ∧ (∀ M_3 : MEM, M_3 = uI M (RF o 20) (mI M o 24).toNatClampNeg p1 → ((∀ M_4 : MEM, M_4 = uI M_3 o 24 ((mI M_3 o 24) + 1) → (Q M_4)))))))
set_option maxRecDepth 100000 in
set_option maxHeartbeats 4000000 in
theorem met_X6_sign {l : Launch} (hl : l.stackTraces = false) {E : MK} {o : Nat} {p1 : Int32} {M : MEM} {Q : MEM → Prop} (hw : wp_X6_sign o p1 M Q) : gMet l E yX6_sign rmX6_sign [gR E o, .int p1] M (qV Q) gNo := by
  obtain ⟨hk0, hw⟩ := hw
  refine g_met hl (cc := cX6_sign) (maxL := 2) (ret := none) (hh := []) (loc := [(0, gR E o), (1, .int p1)]) (by decide +kernel) (Or.inl ⟨tw1444, rfl⟩) (Nat.le_of_ble_eq_true rfl) rfl (fun K hK C => ?_)
  have C : GC K E cX6_sign RX6 2 none [] rmX6_sign := C
  refine g_aload_n C dX6_sign_0 0 rfl rfl ?_
  refine gf_RX6_48 C hk0 dX6_sign_1 ?_
  refine g_aload_n C dX6_sign_4 0 rfl rfl ?_
  refine gf_RX6_305 C hk0 dX6_sign_5 ?_
  refine g_iload_n C dX6_sign_8 1 rfl rfl ?_
  obtain ⟨hk_1, hw⟩ := hw
  obtain ⟨hi_2, hw⟩ := hw
  refine g_iastore C hk_1 hi_2 dX6_sign_9 ?_
  refine g_nmM (fun M_3 eM_3 => ?_)
  have hw := hw M_3 eM_3
  refine g_aload_n C dX6_sign_10 0 rfl rfl ?_
  refine g_dup C dX6_sign_11 rfl ?_
  refine gf_RX6_305 C hk0 dX6_sign_12 ?_
  refine g_iconst C dX6_sign_15 (v := 1) rfl ?_
  refine g_iadd C dX6_sign_16 ?_
  refine pf_RX6_305 C hk0 dX6_sign_17 ?_
  refine g_nmM (fun M_4 eM_4 => ?_)
  have hw := hw M_4 eM_4
  exact g_vret C dX6_sign_20 (Nat.le_of_ble_eq_true rfl) (Nat.le_of_ble_eq_true rfl) ⟨rfl, hw⟩
theorem gc_X6_sign : ∀ rm : Room, rmX6_sign.frames + 1 ≤ rm.frames → 8 + (2 + 11) + rmX6_sign.locals ≤ rm.locals → gCall yX6_sign 2 1 rmX6_sign rm := fun rm a b => ⟨Or.inl ⟨_, _, tw1444⟩, tw8, ⟨by decide, by decide⟩, by decide, a, b⟩
abbrev rmX6_prints : Room := { frames := 1, cells := 0, slots := 0, locals := 21 }
def wp_X6_prints_L59 (o : Nat) (Q : MEM → Prop) (s_3 : Int64) : Nat → Int64 → MEM → Prop
  | 0, _, _ => False
  | n59 + 1, x5_6, M_7 => (x5_6 ≤ 0 → (Q M_7)) ∧ (¬ x5_6 ≤ 0 → (¬ x5_6 = 0 ∧ (wp_X6_sign o (gch ((48 + ((s_3 / x5_6) - (s_3 / x5_6) / 10 * 10) : Int64).toInt32)) M_7 (fun M_10 => ∀ x5_11 : Int64, x5_11 = x5_6 / 10 → ((wp_X6_prints_L59 o Q s_3 n59) x5_11 M_10)))))
def wp_X6_prints_L37 (o : Nat) (Q : MEM → Prop) (M_2 : MEM) (s_3 : Int64) : Nat → Int64 → Prop
  | 0, _ => False
  | n37 + 1, x5_4 => ¬ x5_4 = 0 ∧ (((s_3 / x5_4) ≤ 9 → (∃ m59 : Nat, wp_X6_prints_L59 o Q s_3 m59 x5_4 M_2)) ∧ (¬ (s_3 / x5_4) ≤ 9 → (∀ x5_12 : Int64, x5_12 = x5_4 * 10 → ((wp_X6_prints_L37 o Q M_2 s_3 n37) x5_12))))
def wp_X6_prints_J33 (o : Nat) (Q : MEM → Prop) (M_2 : MEM) (s_3 : Int64) : Prop := ∃ m37 : Nat, wp_X6_prints_L37 o Q M_2 s_3 m37 1
def wp_X6_prints_J21 (o : Nat) (p2 : Int32) (Q : MEM → Prop) (M_2 : MEM) : Prop := (0 ≤ p2 → (wp_X6_prints_J33 o Q M_2 p2.toInt64)) ∧ (¬ 0 ≤ p2 → (wp_X6_prints_J33 o Q M_2 (-p2.toInt64)))
def wp_X6_prints_J11 (o : Nat) (p2 : Int32) (Q : MEM → Prop) (M_1 : MEM) : Prop := (0 ≤ p2 → (wp_X6_prints_J21 o p2 Q M_1)) ∧ (¬ 0 ≤ p2 → (wp_X6_sign o 45 M_1 (fun M_14 => wp_X6_prints_J21 o p2 Q M_14)))
def wp_X6_prints (o : Nat) (p1 : Int32) (p2 : Int32) (M : MEM) (Q : MEM → Prop) : Prop := KD o = (16, 0) ∧ ((p1 = 32 → (wp_X6_prints_J11 o p2 Q M)) ∧ (¬ p1 = 32 → (wp_X6_sign o p1 M (fun M_16 => wp_X6_prints_J11 o p2 Q M_16))))
set_option maxRecDepth 100000 in
set_option maxHeartbeats 4000000 in
theorem met_X6_prints {l : Launch} (hl : l.stackTraces = false) {E : MK} {o : Nat} {p1 : Int32} {p2 : Int32} {M : MEM} {Q : MEM → Prop} (hw : wp_X6_prints o p1 p2 M Q) : gMet l E yX6_prints rmX6_prints [gR E o, .int p1, .int p2] M (qV Q) gNo := by
  obtain ⟨hk0, hw⟩ := hw
  refine g_met hl (cc := cX6_prints) (maxL := 7) (ret := none) (hh := []) (loc := [(0, gR E o), (1, .int p1), (2, .int p2)]) (by decide +kernel) (Or.inl ⟨tw1440, rfl⟩) (Nat.le_of_ble_eq_true rfl) rfl (fun K hK C => ?_)
  have C : GC K E cX6_prints RX6 7 none [] rmX6_prints := C
  refine g_iload_n C dX6_prints_0 1 rfl rfl ?_
  refine g_bipush C dX6_prints_1 (v := 32) rfl ?_
  have hJ11 : ∀ (M_1 : MEM), wp_X6_prints_J11 o p2 Q M_1 → GX K E 7 M_1 [(0, gR E o), (2, .int p2)] [] 11 0 0 (gEnd K E (qV Q) gNo rmX6_prints.cells rmX6_prints.slots) := by
    intro M_1 hw
    refine g_iload_n C dX6_prints_11 1 rfl rfl ?_
    have hJ21 : ∀ (M_2 : MEM), wp_X6_prints_J21 o p2 Q M_2 → GX K E 7 M_2 [(0, gR E o), (2, .int p2)] [] 21 0 0 (gEnd K E (qV Q) gNo rmX6_prints.cells rmX6_prints.slots) := by
      intro M_2 hw
      refine g_iload_n C dX6_prints_21 1 rfl rfl ?_
      have hJ33 : ∀ (s_3 : Int64), wp_X6_prints_J33 o Q M_2 s_3 → GX K E 7 M_2 [(0, gR E o)] [.long s_3] 33 0 0 (gEnd K E (qV Q) gNo rmX6_prints.cells rmX6_prints.slots) := by
        intro s_3 hw
        refine g_lstore_n C dX6_prints_33 rfl (Nat.le_of_ble_eq_true rfl) (loc' := [(3, .long s_3), (0, gR E o)]) rfl ?_
        refine g_lconst C dX6_prints_34 (v := 1) rfl ?_
        refine g_lstore C dX6_prints_35 (Nat.le_of_ble_eq_true rfl) (loc' := [(5, .long 1), (3, .long s_3), (0, gR E o)]) rfl ?_
        obtain ⟨m37, hw⟩ := hw
        have hL37 : ∀ (n37 : Nat) (x5_4 : Int64), wp_X6_prints_L37 o Q M_2 s_3 n37 x5_4 → GX K E 7 M_2 [(0, gR E o), (3, .long s_3), (5, .long x5_4)] [] 37 0 0 (gEnd K E (qV Q) gNo rmX6_prints.cells rmX6_prints.slots) := by
          intro n37
          induction n37 with
          | zero => intro _ hw; exact False.elim hw
          | succ n37 ih37 =>
            intro x5_4 hw
            refine g_lload_n C dX6_prints_37 1 rfl rfl ?_
            refine g_lload C (j := 0) dX6_prints_38 2 rfl ?_
            obtain ⟨hz_5, hw⟩ := hw
            refine g_ldiv C dX6_prints_40 hz_5 ?_
            refine g_ldc2 C dX6_prints_41 tw1445 ?_
            refine g_lc_le C dX6_prints_44 dX6_prints_45 (tgt := 59) (by decide) (fun c45 => ?_) (fun c45 => ?_)
            · have hw := hw.1 c45
              obtain ⟨m59, hw⟩ := hw
              have hL59 : ∀ (n59 : Nat) (x5_6 : Int64) (M_7 : MEM), wp_X6_prints_L59 o Q s_3 n59 x5_6 M_7 → GX K E 7 M_7 [(0, gR E o), (3, .long s_3), (5, .long x5_6)] [] 59 0 0 (gEnd K E (qV Q) gNo rmX6_prints.cells rmX6_prints.slots) := by
                intro n59
                induction n59 with
                | zero => intro _ _ hw; exact False.elim hw
                | succ n59 ih59 =>
                  intro x5_6 M_7 hw
                  refine g_lload C (j := 0) dX6_prints_59 2 rfl ?_
                  refine g_lconst C dX6_prints_61 (v := 0) rfl ?_
                  refine g_lc_le C dX6_prints_62 dX6_prints_63 (tgt := 95) (by decide) (fun c63 => ?_) (fun c63 => ?_)
                  · have hw := hw.1 c63
                    exact g_vret C dX6_prints_95 (Nat.le_of_ble_eq_true rfl) (Nat.le_of_ble_eq_true rfl) ⟨rfl, hw⟩
                  · have hw := hw.2 c63
                    refine g_aload_n C dX6_prints_66 0 rfl rfl ?_
                    refine g_ldc2 C dX6_prints_67 tw1424 ?_
                    refine g_lload_n C dX6_prints_70 1 rfl rfl ?_
                    refine g_lload C (j := 0) dX6_prints_71 2 rfl ?_
                    obtain ⟨hz_8, hw⟩ := hw
                    refine g_ldiv C dX6_prints_73 hz_8 ?_
                    refine g_ldc2 C dX6_prints_74 tw1426 ?_
                    refine g_lrem C dX6_prints_77 (by decide) ?_
                    refine g_ladd C dX6_prints_78 ?_
                    refine g_l2i C dX6_prints_79 ?_
                    refine g_i2c C dX6_prints_80 ?_
                    refine g_cV C dX6_prints_81 (met_X6_sign C.st hw) (gc_X6_sign _ (Nat.le_of_ble_eq_true rfl) (Nat.le_of_ble_eq_true rfl)) tw1441 tw1443 twp68 (ci := 6) rfl (by decide) hk0 rfl (Nat.le_of_ble_eq_true rfl) (c2 := 0) (s2 := 0) rfl rfl (Nat.le_of_ble_eq_true rfl) (Nat.le_of_ble_eq_true rfl) rfl (kV (fun M_10 hw => ?_)) tNo
                    refine g_lload C (j := 0) dX6_prints_84 2 rfl ?_
                    refine g_ldc2 C dX6_prints_86 tw1426 ?_
                    refine g_ldiv C dX6_prints_89 (by decide) ?_
                    refine g_nmL (fun x5_11 ex5_11 => ?_)
                    have hw := hw x5_11 ex5_11
                    refine g_lstore C dX6_prints_90 (Nat.le_of_ble_eq_true rfl) (loc' := [(5, .long x5_11), (0, gR E o), (3, .long s_3)]) rfl ?_
                    refine g_goto C dX6_prints_92 (tgt := 59) (by decide) ?_
                    refine g_sub [1, 2, 0] rfl ?_
                    exact ih59 _ _ hw
              exact hL59 m59 _ _ hw
            · have hw := hw.2 c45
              refine g_lload C (j := 0) dX6_prints_48 2 rfl ?_
              refine g_ldc2 C dX6_prints_50 tw1426 ?_
              refine g_lmul C dX6_prints_53 ?_
              refine g_nmL (fun x5_12 ex5_12 => ?_)
              have hw := hw x5_12 ex5_12
              refine g_lstore C dX6_prints_54 (Nat.le_of_ble_eq_true rfl) (loc' := [(5, .long x5_12), (0, gR E o), (3, .long s_3)]) rfl ?_
              refine g_goto C dX6_prints_56 (tgt := 37) (by decide) ?_
              refine g_sub [1, 2, 0] rfl ?_
              exact ih37 _ hw
        refine g_sub [2, 1, 0] rfl ?_
        exact hL37 m37 _ hw
      refine g_if_ge C dX6_prints_22 (tgt := 31) (by decide) (fun c22 => ?_) (fun c22 => ?_)
      · have hw := hw.1 c22
        refine g_iload_n C dX6_prints_31 1 rfl rfl ?_
        refine g_i2l C dX6_prints_32 ?_
        refine g_sub [0] rfl ?_
        exact hJ33 _ hw
      · have hw := hw.2 c22
        refine g_iload_n C dX6_prints_25 1 rfl rfl ?_
        refine g_i2l C dX6_prints_26 ?_
        refine g_lneg C dX6_prints_27 ?_
        refine g_goto C dX6_prints_28 (tgt := 33) (by decide) ?_
        refine g_sub [0] rfl ?_
        exact hJ33 _ hw
    refine g_if_ge C dX6_prints_12 (tgt := 21) (by decide) (fun c12 => ?_) (fun c12 => ?_)
    · have hw := hw.1 c12
      exact hJ21 _ hw
    · have hw := hw.2 c12
      refine g_aload_n C dX6_prints_15 0 rfl rfl ?_
      refine g_bipush C dX6_prints_16 (v := 45) rfl ?_
      refine g_cV C dX6_prints_18 (met_X6_sign C.st hw) (gc_X6_sign _ (Nat.le_of_ble_eq_true rfl) (Nat.le_of_ble_eq_true rfl)) tw1441 tw1443 twp68 (ci := 6) rfl (by decide) hk0 rfl (Nat.le_of_ble_eq_true rfl) (c2 := 0) (s2 := 0) rfl rfl (Nat.le_of_ble_eq_true rfl) (Nat.le_of_ble_eq_true rfl) rfl (kV (fun M_14 hw => ?_)) tNo
      exact hJ21 _ hw
  refine g_icmp_eq C dX6_prints_3 (tgt := 11) (by decide) (fun c3 => ?_) (fun c3 => ?_)
  · have hw := hw.1 c3
    refine g_sub [0, 2] rfl ?_
    exact hJ11 _ hw
  · have hw := hw.2 c3
    refine g_aload_n C dX6_prints_6 0 rfl rfl ?_
    refine g_iload_n C dX6_prints_7 1 rfl rfl ?_
    refine g_cV C dX6_prints_8 (met_X6_sign C.st hw) (gc_X6_sign _ (Nat.le_of_ble_eq_true rfl) (Nat.le_of_ble_eq_true rfl)) tw1441 tw1443 twp68 (ci := 6) rfl (by decide) hk0 rfl (Nat.le_of_ble_eq_true rfl) (c2 := 0) (s2 := 0) rfl rfl (Nat.le_of_ble_eq_true rfl) (Nat.le_of_ble_eq_true rfl) rfl (kV (fun M_16 hw => ?_)) tNo
    refine g_sub [0, 2] rfl ?_
    exact hJ11 _ hw
theorem gc_X6_prints : ∀ rm : Room, rmX6_prints.frames + 1 ≤ rm.frames → 8 + (7 + 11) + rmX6_prints.locals ≤ rm.locals → gCall yX6_prints 7 2 rmX6_prints rm := fun rm a b => ⟨Or.inl ⟨_, _, tw1440⟩, tw8, ⟨by decide, by decide⟩, by decide, a, b⟩
