abbrev rmX6_mix : Room := { frames := 4, cells := 0, slots := 0, locals := 87 }
def wp_X6_mix (o : Nat) (p1 : Int32) (p2 : Int32) (M : MEM) (Q : Int64 → MEM → Prop) : Prop := KD o = (16, 0) ∧ (wp_X6_notKept o p1 p2 M (fun r_1 => (r_1 ≤ 0 → (wp_X6_isThere o p1 M (fun r_3 => (¬ r_3 = 0 → ((∀ M_5 : MEM, M_5 = uI M o 0 0 → (wp_X6_mixAt o p1 p2 M_5 (fun r_6 => Q r_6 M_5))))) ∧ (r_3 = 0 → (wp_X6_fails o 2 M (fun r_8 M_9 => Q r_8.toInt64 M_9)))))) ∧ (¬ r_1 ≤ 0 → (wp_X6_fails o 1 M (fun r_10 M_11 => Q r_10.toInt64 M_11)))))
set_option maxRecDepth 100000 in
set_option maxHeartbeats 4000000 in
theorem met_X6_mix {l : Launch} (hl : l.stackTraces = false) {E : MK} {o : Nat} {p1 : Int32} {p2 : Int32} {M : MEM} {Q : Int64 → MEM → Prop} (hw : wp_X6_mix o p1 p2 M Q) : gMet l E yX6_mix rmX6_mix [gR E o, .int p1, .int p2] M (qL Q) gNo := by
  obtain ⟨hk0, hw⟩ := hw
  refine g_met hl (cc := cX6_mix) (maxL := 3) (ret := (some .long)) (hh := []) (loc := [(0, gR E o), (1, .int p1), (2, .int p2)]) (by decide +kernel) (Or.inl ⟨tw1304, rfl⟩) (Nat.le_of_ble_eq_true rfl) rfl (fun K hK C => ?_)
  have C : GC K E cX6_mix RX6 3 (some .long) [] rmX6_mix := C
  refine g_aload_n C dX6_mix_0 0 rfl rfl ?_
  refine g_iload_n C dX6_mix_1 1 rfl rfl ?_
  refine g_iload_n C dX6_mix_2 2 rfl rfl ?_
  refine g_cV C dX6_mix_3 (met_X6_notKept C.st hw) (gc_X6_notKept _ (Nat.le_of_ble_eq_true rfl) (Nat.le_of_ble_eq_true rfl)) tw1287 tw1289 twp50 (ci := 6) rfl (by decide) hk0 rfl (Nat.le_of_ble_eq_true rfl) (c2 := 0) (s2 := 0) rfl rfl (Nat.le_of_ble_eq_true rfl) (Nat.le_of_ble_eq_true rfl) rfl (kIp (fun r_1 hw => ?_)) tNo
  refine g_if_le C dX6_mix_6 (tgt := 16) (by decide) (fun c6 => ?_) (fun c6 => ?_)
  · have hw := hw.1 c6
    refine g_aload_n C dX6_mix_16 0 rfl rfl ?_
    refine g_iload_n C dX6_mix_17 1 rfl rfl ?_
    refine g_cV C dX6_mix_18 (met_X6_isThere C.st hw) (gc_X6_isThere _ (Nat.le_of_ble_eq_true rfl) (Nat.le_of_ble_eq_true rfl)) tw1152 tw1154 twp31 (ci := 6) rfl (by decide) hk0 rfl (Nat.le_of_ble_eq_true rfl) (c2 := 0) (s2 := 0) rfl rfl (Nat.le_of_ble_eq_true rfl) (Nat.le_of_ble_eq_true rfl) rfl (kIp (fun r_3 hw => ?_)) tNo
    refine g_if_ne C dX6_mix_21 (tgt := 31) (by decide) (fun c21 => ?_) (fun c21 => ?_)
    · have hw := hw.1 c21
      refine g_aload_n C dX6_mix_31 0 rfl rfl ?_
      refine g_iconst C dX6_mix_32 (v := 0) rfl ?_
      refine pf_RX6_57 C hk0 dX6_mix_33 ?_
      refine g_nmM (fun M_5 eM_5 => ?_)
      have hw := hw M_5 eM_5
      refine g_aload_n C dX6_mix_36 0 rfl rfl ?_
      refine g_iload_n C dX6_mix_37 1 rfl rfl ?_
      refine g_iload_n C dX6_mix_38 2 rfl rfl ?_
      refine g_cV C dX6_mix_39 (met_X6_mixAt C.st hw) (gc_X6_mixAt _ (Nat.le_of_ble_eq_true rfl) (Nat.le_of_ble_eq_true rfl)) tw1232 tw1234 twp44 (ci := 6) rfl (by decide) hk0 rfl (Nat.le_of_ble_eq_true rfl) (c2 := 0) (s2 := 0) rfl rfl (Nat.le_of_ble_eq_true rfl) (Nat.le_of_ble_eq_true rfl) rfl (kLp (fun r_6 hw => ?_)) tNo
      exact g_lret C dX6_mix_42 (Nat.le_of_ble_eq_true rfl) (Nat.le_of_ble_eq_true rfl) ⟨_, rfl, hw⟩
    · have hw := hw.2 c21
      refine g_aload_n C dX6_mix_24 0 rfl rfl ?_
      refine g_iconst C dX6_mix_25 (v := 2) rfl ?_
      refine g_cV C dX6_mix_26 (met_X6_fails C.st hw) (gc_X6_fails _ (Nat.le_of_ble_eq_true rfl) (Nat.le_of_ble_eq_true rfl)) tw1131 tw1133 twp28 (ci := 6) rfl (by decide) hk0 rfl (Nat.le_of_ble_eq_true rfl) (c2 := 0) (s2 := 0) rfl rfl (Nat.le_of_ble_eq_true rfl) (Nat.le_of_ble_eq_true rfl) rfl (kI (fun r_8 M_9 hw => ?_)) tNo
      refine g_i2l C dX6_mix_29 ?_
      exact g_lret C dX6_mix_30 (Nat.le_of_ble_eq_true rfl) (Nat.le_of_ble_eq_true rfl) ⟨_, rfl, hw⟩
  · have hw := hw.2 c6
    refine g_aload_n C dX6_mix_9 0 rfl rfl ?_
    refine g_iconst C dX6_mix_10 (v := 1) rfl ?_
    refine g_cV C dX6_mix_11 (met_X6_fails C.st hw) (gc_X6_fails _ (Nat.le_of_ble_eq_true rfl) (Nat.le_of_ble_eq_true rfl)) tw1131 tw1133 twp28 (ci := 6) rfl (by decide) hk0 rfl (Nat.le_of_ble_eq_true rfl) (c2 := 0) (s2 := 0) rfl rfl (Nat.le_of_ble_eq_true rfl) (Nat.le_of_ble_eq_true rfl) rfl (kI (fun r_10 M_11 hw => ?_)) tNo
    refine g_i2l C dX6_mix_14 ?_
    exact g_lret C dX6_mix_15 (Nat.le_of_ble_eq_true rfl) (Nat.le_of_ble_eq_true rfl) ⟨_, rfl, hw⟩
theorem gc_X6_mix : ∀ rm : Room, rmX6_mix.frames + 1 ≤ rm.frames → 8 + (3 + 11) + rmX6_mix.locals ≤ rm.locals → gCall yX6_mix 3 2 rmX6_mix rm := fun rm a b => ⟨Or.inl ⟨_, _, tw1304⟩, tw8, ⟨by decide, by decide⟩, by decide, a, b⟩
abbrev rmX6_commonKey : Room := { frames := 5, cells := 0, slots := 0, locals := 118 }
def wp_X6_commonKey_J125 (K57 : Int32 → Int32 → Int32 → Prop) (x3_9 : Int32) (x4_10 : Int32) (x5_11 : Int32) (s_13 : Int32) : Prop := (x5_11 ≤ x3_9 → (∀ x4_14 : Int32, x4_14 = x4_10 + 1 → (K57 s_13 x3_9 x4_14))) ∧ (¬ x5_11 ≤ x3_9 → (∀ x4_15 : Int32, x4_15 = x4_10 + 1 → (K57 s_13 x5_11 x4_15)))
def wp_X6_commonKey_L70 (o : Nat) (p1 : Int32) (M_7 : MEM) (K57 : Int32 → Int32 → Int32 → Prop) (x2_8 : Int32) (x3_9 : Int32) (x4_10 : Int32) : Nat → Int32 → Int32 → Prop
  | 0, _, _ => False
  | n70 + 1, x5_11, x6_12 => ((mI M_7 o 6) ≤ x6_12 → ((x5_11 ≤ x3_9 → (wp_X6_commonKey_J125 K57 x3_9 x4_10 x5_11 x2_8)) ∧ (¬ x5_11 ≤ x3_9 → (wp_X6_commonKey_J125 K57 x3_9 x4_10 x5_11 x4_10)))) ∧ (¬ (mI M_7 o 6) ≤ x6_12 → (KD (RF o 3) = (0, 60) ∧ vp_in x6_12 60 ∧ (wp_X6_item o p1 (mI M_7 (RF o 3) x6_12.toNatClampNeg) 1 M_7 (fun r_18 => (¬ r_18 = x4_10 → (∀ x5_20 : Int32, x5_20 = x5_11 + 0 → (∀ x6_21 : Int32, x6_21 = x6_12 + 1 → ((wp_X6_commonKey_L70 o p1 M_7 K57 x2_8 x3_9 x4_10 n70) x5_20 x6_21)))) ∧ (r_18 = x4_10 → (∀ x5_22 : Int32, x5_22 = x5_11 + 1 → (∀ x6_23 : Int32, x6_23 = x6_12 + 1 → ((wp_X6_commonKey_L70 o p1 M_7 K57 x2_8 x3_9 x4_10 n70) x5_22 x6_23))))))))
def wp_X6_commonKey_L57 (o : Nat) (p1 : Int32) (Q : Int32 → MEM → Prop) (M_7 : MEM) : Nat → Int32 → Int32 → Int32 → Prop
  | 0, _, _, _ => False
  | n57 + 1, x2_8, x3_9, x4_10 => (100 ≤ x4_10 → (Q x2_8 M_7)) ∧ (¬ 100 ≤ x4_10 → (∃ m70 : Nat, wp_X6_commonKey_L70 o p1 M_7 (wp_X6_commonKey_L57 o p1 Q M_7 n57) x2_8 x3_9 x4_10 m70 0 0))
def wp_X6_commonKey (o : Nat) (p1 : Int32) (M : MEM) (Q : Int32 → MEM → Prop) : Prop := KD o = (16, 0) ∧ (wp_X6_isSlot p1 M (fun r_1 => (¬ r_1 = 0 → (wp_X6_isThere o p1 M (fun r_3 => (¬ r_3 = 0 → (wp_X6_finds o p1 M (fun M_6 => (¬ (mI M_6 o 6) = 0 → ((∀ M_7 : MEM, M_7 = uI M_6 o 0 0 → (∃ m57 : Nat, wp_X6_commonKey_L57 o p1 Q M_7 m57 (-1) 0 0)))) ∧ ((mI M_6 o 6) = 0 → (wp_X6_fails o 3 M_6 (fun r_24 M_25 => Q r_24 M_25)))))) ∧ (r_3 = 0 → (wp_X6_fails o 2 M (fun r_26 M_27 => Q r_26 M_27)))))) ∧ (r_1 = 0 → (wp_X6_fails o 1 M (fun r_28 M_29 => Q r_28 M_29)))))
set_option maxRecDepth 100000 in
set_option maxHeartbeats 4000000 in
theorem met_X6_commonKey {l : Launch} (hl : l.stackTraces = false) {E : MK} {o : Nat} {p1 : Int32} {M : MEM} {Q : Int32 → MEM → Prop} (hw : wp_X6_commonKey o p1 M Q) : gMet l E yX6_commonKey rmX6_commonKey [gR E o, .int p1] M (qI Q) gNo := by
  obtain ⟨hk0, hw⟩ := hw
  refine g_met hl (cc := cX6_commonKey) (maxL := 7) (ret := (some .int)) (hh := []) (loc := [(0, gR E o), (1, .int p1)]) (by decide +kernel) (Or.inl ⟨tw1308, rfl⟩) (Nat.le_of_ble_eq_true rfl) rfl (fun K hK C => ?_)
  have C : GC K E cX6_commonKey RX6 7 (some .int) [] rmX6_commonKey := C
  refine g_iload_n C dX6_commonKey_0 1 rfl rfl ?_
  refine g_cS C dX6_commonKey_1 (met_X6_isSlot C.st hw) (gc_X6_isSlot _ (Nat.le_of_ble_eq_true rfl) (Nat.le_of_ble_eq_true rfl)) (Or.inl tw1128) tw1129 rfl (Nat.le_of_ble_eq_true rfl) (c2 := 0) (s2 := 0) rfl rfl (Nat.le_of_ble_eq_true rfl) (Nat.le_of_ble_eq_true rfl) rfl (kIp (fun r_1 hw => ?_)) tNo
  refine g_if_ne C dX6_commonKey_4 (tgt := 13) (by decide) (fun c4 => ?_) (fun c4 => ?_)
  · have hw := hw.1 c4
    refine g_aload_n C dX6_commonKey_13 0 rfl rfl ?_
    refine g_iload_n C dX6_commonKey_14 1 rfl rfl ?_
    refine g_cV C dX6_commonKey_15 (met_X6_isThere C.st hw) (gc_X6_isThere _ (Nat.le_of_ble_eq_true rfl) (Nat.le_of_ble_eq_true rfl)) tw1152 tw1154 twp31 (ci := 6) rfl (by decide) hk0 rfl (Nat.le_of_ble_eq_true rfl) (c2 := 0) (s2 := 0) rfl rfl (Nat.le_of_ble_eq_true rfl) (Nat.le_of_ble_eq_true rfl) rfl (kIp (fun r_3 hw => ?_)) tNo
    refine g_if_ne C dX6_commonKey_18 (tgt := 27) (by decide) (fun c18 => ?_) (fun c18 => ?_)
    · have hw := hw.1 c18
      refine g_aload_n C dX6_commonKey_27 0 rfl rfl ?_
      refine g_iload_n C dX6_commonKey_28 1 rfl rfl ?_
      refine g_cV C dX6_commonKey_29 (met_X6_finds C.st hw) (gc_X6_finds _ (Nat.le_of_ble_eq_true rfl) (Nat.le_of_ble_eq_true rfl)) tw1216 tw1218 twp40 (ci := 6) rfl (by decide) hk0 rfl (Nat.le_of_ble_eq_true rfl) (c2 := 0) (s2 := 0) rfl rfl (Nat.le_of_ble_eq_true rfl) (Nat.le_of_ble_eq_true rfl) rfl (kV (fun M_6 hw => ?_)) tNo
      refine g_aload_n C dX6_commonKey_32 0 rfl rfl ?_
      refine gf_RX6_160 C hk0 dX6_commonKey_33 ?_
      refine g_if_ne C dX6_commonKey_36 (tgt := 45) (by decide) (fun c36 => ?_) (fun c36 => ?_)
      · have hw := hw.1 c36
        refine g_aload_n C dX6_commonKey_45 0 rfl rfl ?_
        refine g_iconst C dX6_commonKey_46 (v := 0) rfl ?_
        refine pf_RX6_57 C hk0 dX6_commonKey_47 ?_
        refine g_nmM (fun M_7 eM_7 => ?_)
        have hw := hw M_7 eM_7
        refine g_iconst C dX6_commonKey_50 (v := (-1)) rfl ?_
        refine g_istore_n C dX6_commonKey_51 rfl (Nat.le_of_ble_eq_true rfl) (loc' := [(2, .int (-1)), (0, gR E o), (1, .int p1)]) rfl ?_
        refine g_iconst C dX6_commonKey_52 (v := 0) rfl ?_
        refine g_istore_n C dX6_commonKey_53 rfl (Nat.le_of_ble_eq_true rfl) (loc' := [(3, .int 0), (2, .int (-1)), (0, gR E o), (1, .int p1)]) rfl ?_
        refine g_iconst C dX6_commonKey_54 (v := 0) rfl ?_
        refine g_istore C dX6_commonKey_55 (Nat.le_of_ble_eq_true rfl) (loc' := [(4, .int 0), (3, .int 0), (2, .int (-1)), (0, gR E o), (1, .int p1)]) rfl ?_
        obtain ⟨m57, hw⟩ := hw
        have hL57 : ∀ (n57 : Nat) (x2_8 : Int32) (x3_9 : Int32) (x4_10 : Int32), wp_X6_commonKey_L57 o p1 Q M_7 n57 x2_8 x3_9 x4_10 → GX K E 7 M_7 [(0, gR E o), (1, .int p1), (2, .int x2_8), (3, .int x3_9), (4, .int x4_10)] [] 57 0 0 (gEnd K E (qI Q) gNo rmX6_commonKey.cells rmX6_commonKey.slots) := by
          intro n57
          induction n57 with
          | zero => intro _ _ _ hw; exact False.elim hw
          | succ n57 ih57 =>
            intro x2_8 x3_9 x4_10 hw
            refine g_iload C (j := 0) dX6_commonKey_57 4 rfl ?_
            refine g_bipush C dX6_commonKey_59 (v := 100) rfl ?_
            refine g_icmp_ge C dX6_commonKey_61 (tgt := 145) (by decide) (fun c61 => ?_) (fun c61 => ?_)
            · have hw := hw.1 c61
              refine g_iload_n C dX6_commonKey_145 2 rfl rfl ?_
              exact g_iret C dX6_commonKey_146 (Nat.le_of_ble_eq_true rfl) (Nat.le_of_ble_eq_true rfl) ⟨_, rfl, hw⟩
            · have hw := hw.2 c61
              refine g_iconst C dX6_commonKey_64 (v := 0) rfl ?_
              refine g_istore C dX6_commonKey_65 (Nat.le_of_ble_eq_true rfl) (loc' := [(5, .int 0), (0, gR E o), (1, .int p1), (2, .int x2_8), (3, .int x3_9), (4, .int x4_10)]) rfl ?_
              refine g_iconst C dX6_commonKey_67 (v := 0) rfl ?_
              refine g_istore C dX6_commonKey_68 (Nat.le_of_ble_eq_true rfl) (loc' := [(6, .int 0), (5, .int 0), (0, gR E o), (1, .int p1), (2, .int x2_8), (3, .int x3_9), (4, .int x4_10)]) rfl ?_
              obtain ⟨m70, hw⟩ := hw
              have hL70 : ∀ (n70 : Nat) (x5_11 : Int32) (x6_12 : Int32), wp_X6_commonKey_L70 o p1 M_7 (wp_X6_commonKey_L57 o p1 Q M_7 n57) x2_8 x3_9 x4_10 n70 x5_11 x6_12 → GX K E 7 M_7 [(0, gR E o), (1, .int p1), (2, .int x2_8), (3, .int x3_9), (4, .int x4_10), (5, .int x5_11), (6, .int x6_12)] [] 70 0 0 (gEnd K E (qI Q) gNo rmX6_commonKey.cells rmX6_commonKey.slots) := by
                intro n70
                induction n70 with
                | zero => intro _ _ hw; exact False.elim hw
                | succ n70 ih70 =>
                  intro x5_11 x6_12 hw
                  refine g_iload C (j := 0) dX6_commonKey_70 6 rfl ?_
                  refine g_aload_n C dX6_commonKey_72 0 rfl rfl ?_
                  refine gf_RX6_160 C hk0 dX6_commonKey_73 ?_
                  refine g_icmp_ge C dX6_commonKey_76 (tgt := 113) (by decide) (fun c76 => ?_) (fun c76 => ?_)
                  · have hw := hw.1 c76
                    refine g_iload C (j := 0) dX6_commonKey_113 5 rfl ?_
                    refine g_iload_n C dX6_commonKey_115 3 rfl rfl ?_
                    have hJ125 : ∀ (s_13 : Int32), wp_X6_commonKey_J125 (wp_X6_commonKey_L57 o p1 Q M_7 n57) x3_9 x4_10 x5_11 s_13 → GX K E 7 M_7 [(0, gR E o), (1, .int p1), (3, .int x3_9), (4, .int x4_10), (5, .int x5_11)] [.int s_13] 125 0 0 (gEnd K E (qI Q) gNo rmX6_commonKey.cells rmX6_commonKey.slots) := by
                      intro s_13 hw
                      refine g_istore_n C dX6_commonKey_125 rfl (Nat.le_of_ble_eq_true rfl) (loc' := [(2, .int s_13), (0, gR E o), (1, .int p1), (3, .int x3_9), (4, .int x4_10), (5, .int x5_11)]) rfl ?_
                      refine g_iload C (j := 0) dX6_commonKey_126 5 rfl ?_
                      refine g_iload_n C dX6_commonKey_128 3 rfl rfl ?_
                      refine g_icmp_le C dX6_commonKey_129 (tgt := 137) (by decide) (fun c129 => ?_) (fun c129 => ?_)
                      · have hw := hw.1 c129
                        refine g_iload_n C dX6_commonKey_137 3 rfl rfl ?_
                        refine g_istore_n C dX6_commonKey_138 rfl (Nat.le_of_ble_eq_true rfl) (loc' := [(3, .int x3_9), (2, .int s_13), (0, gR E o), (1, .int p1), (4, .int x4_10), (5, .int x5_11)]) rfl ?_
                        obtain ⟨x4_14, ex4_14⟩ : ∃ y : Int32, y = x4_10 + 1 := ⟨_, rfl⟩
                        have hw := hw x4_14 ex4_14
                        refine g_iinc C (j := 0) dX6_commonKey_139 4 rfl (v := x4_14) (by rw [ex4_14]; rfl) (Nat.le_of_ble_eq_true rfl) (loc' := [(4, .int x4_14), (3, .int x3_9), (2, .int s_13), (0, gR E o), (1, .int p1), (5, .int x5_11)]) rfl ?_
                        refine g_goto C dX6_commonKey_142 (tgt := 57) (by decide) ?_
                        refine g_sub [3, 4, 2, 1, 0] rfl ?_
                        exact ih57 _ _ _ hw
                      · have hw := hw.2 c129
                        refine g_iload C (j := 0) dX6_commonKey_132 5 rfl ?_
                        refine g_goto C dX6_commonKey_134 (tgt := 138) (by decide) ?_
                        refine g_istore_n C dX6_commonKey_138 rfl (Nat.le_of_ble_eq_true rfl) (loc' := [(3, .int x5_11), (2, .int s_13), (0, gR E o), (1, .int p1), (4, .int x4_10), (5, .int x5_11)]) rfl ?_
                        obtain ⟨x4_15, ex4_15⟩ : ∃ y : Int32, y = x4_10 + 1 := ⟨_, rfl⟩
                        have hw := hw x4_15 ex4_15
                        refine g_iinc C (j := 0) dX6_commonKey_139 4 rfl (v := x4_15) (by rw [ex4_15]; rfl) (Nat.le_of_ble_eq_true rfl) (loc' := [(4, .int x4_15), (3, .int x5_11), (2, .int s_13), (0, gR E o), (1, .int p1), (5, .int x5_11)]) rfl ?_
                        refine g_goto C dX6_commonKey_142 (tgt := 57) (by decide) ?_
                        refine g_sub [3, 4, 2, 1, 0] rfl ?_
                        exact ih57 _ _ _ hw
                    refine g_icmp_le C dX6_commonKey_116 (tgt := 124) (by decide) (fun c116 => ?_) (fun c116 => ?_)
                    · have hw := hw.1 c116
                      refine g_iload_n C dX6_commonKey_124 2 rfl rfl ?_
                      refine g_sub [0, 1, 3, 4, 5] rfl ?_
                      exact hJ125 _ hw
                    · have hw := hw.2 c116
                      refine g_iload C (j := 0) dX6_commonKey_119 4 rfl ?_
                      refine g_goto C dX6_commonKey_121 (tgt := 125) (by decide) ?_
                      refine g_sub [0, 1, 3, 4, 5] rfl ?_
                      exact hJ125 _ hw
                  · have hw := hw.2 c76
                    refine g_iload C (j := 0) dX6_commonKey_79 5 rfl ?_
                    refine g_aload_n C dX6_commonKey_81 0 rfl rfl ?_
                    refine g_iload_n C dX6_commonKey_82 1 rfl rfl ?_
                    refine g_aload_n C dX6_commonKey_83 0 rfl rfl ?_
                    refine gf_RX6_16 C hk0 dX6_commonKey_84 ?_
                    refine g_iload C (j := 0) dX6_commonKey_87 6 rfl ?_
                    obtain ⟨hk_16, hw⟩ := hw
                    obtain ⟨hi_17, hw⟩ := hw
                    refine g_iaload C hk_16 hi_17 dX6_commonKey_89 ?_
                    refine g_iconst C dX6_commonKey_90 (v := 1) rfl ?_
                    refine g_cV C dX6_commonKey_91 (met_X6_item C.st hw) (gc_X6_item _ (Nat.le_of_ble_eq_true rfl) (Nat.le_of_ble_eq_true rfl)) tw1197 tw1199 twp38 (ci := 6) rfl (by decide) hk0 rfl (Nat.le_of_ble_eq_true rfl) (c2 := 0) (s2 := 0) rfl rfl (Nat.le_of_ble_eq_true rfl) (Nat.le_of_ble_eq_true rfl) rfl (kIp (fun r_18 hw => ?_)) tNo
                    refine g_iload C (j := 0) dX6_commonKey_94 4 rfl ?_
                    refine g_icmp_ne C dX6_commonKey_96 (tgt := 103) (by decide) (fun c96 => ?_) (fun c96 => ?_)
                    · have hw := hw.1 c96
                      refine g_iconst C dX6_commonKey_103 (v := 0) rfl ?_
                      refine g_iadd C dX6_commonKey_104 ?_
                      refine g_nmI (fun x5_20 ex5_20 => ?_)
                      have hw := hw x5_20 ex5_20
                      refine g_istore C dX6_commonKey_105 (Nat.le_of_ble_eq_true rfl) (loc' := [(5, .int x5_20), (0, gR E o), (1, .int p1), (2, .int x2_8), (3, .int x3_9), (4, .int x4_10), (6, .int x6_12)]) rfl ?_
                      obtain ⟨x6_21, ex6_21⟩ : ∃ y : Int32, y = x6_12 + 1 := ⟨_, rfl⟩
                      have hw := hw x6_21 ex6_21
                      refine g_iinc C (j := 0) dX6_commonKey_107 6 rfl (v := x6_21) (by rw [ex6_21]; rfl) (Nat.le_of_ble_eq_true rfl) (loc' := [(6, .int x6_21), (5, .int x5_20), (0, gR E o), (1, .int p1), (2, .int x2_8), (3, .int x3_9), (4, .int x4_10)]) rfl ?_
                      refine g_goto C dX6_commonKey_110 (tgt := 70) (by decide) ?_
                      refine g_sub [2, 3, 4, 5, 6, 1, 0] rfl ?_
                      exact ih70 _ _ hw
                    · have hw := hw.2 c96
                      refine g_iconst C dX6_commonKey_99 (v := 1) rfl ?_
                      refine g_goto C dX6_commonKey_100 (tgt := 104) (by decide) ?_
                      refine g_iadd C dX6_commonKey_104 ?_
                      refine g_nmI (fun x5_22 ex5_22 => ?_)
                      have hw := hw x5_22 ex5_22
                      refine g_istore C dX6_commonKey_105 (Nat.le_of_ble_eq_true rfl) (loc' := [(5, .int x5_22), (0, gR E o), (1, .int p1), (2, .int x2_8), (3, .int x3_9), (4, .int x4_10), (6, .int x6_12)]) rfl ?_
                      obtain ⟨x6_23, ex6_23⟩ : ∃ y : Int32, y = x6_12 + 1 := ⟨_, rfl⟩
                      have hw := hw x6_23 ex6_23
                      refine g_iinc C (j := 0) dX6_commonKey_107 6 rfl (v := x6_23) (by rw [ex6_23]; rfl) (Nat.le_of_ble_eq_true rfl) (loc' := [(6, .int x6_23), (5, .int x5_22), (0, gR E o), (1, .int p1), (2, .int x2_8), (3, .int x3_9), (4, .int x4_10)]) rfl ?_
                      refine g_goto C dX6_commonKey_110 (tgt := 70) (by decide) ?_
                      refine g_sub [2, 3, 4, 5, 6, 1, 0] rfl ?_
                      exact ih70 _ _ hw
              refine g_sub [2, 3, 4, 5, 6, 1, 0] rfl ?_
              exact hL70 m70 _ _ hw
        refine g_sub [3, 4, 2, 1, 0] rfl ?_
        exact hL57 m57 _ _ _ hw
      · have hw := hw.2 c36
        refine g_aload_n C dX6_commonKey_39 0 rfl rfl ?_
        refine g_iconst C dX6_commonKey_40 (v := 3) rfl ?_
        refine g_cV C dX6_commonKey_41 (met_X6_fails C.st hw) (gc_X6_fails _ (Nat.le_of_ble_eq_true rfl) (Nat.le_of_ble_eq_true rfl)) tw1131 tw1133 twp28 (ci := 6) rfl (by decide) hk0 rfl (Nat.le_of_ble_eq_true rfl) (c2 := 0) (s2 := 0) rfl rfl (Nat.le_of_ble_eq_true rfl) (Nat.le_of_ble_eq_true rfl) rfl (kI (fun r_24 M_25 hw => ?_)) tNo
        exact g_iret C dX6_commonKey_44 (Nat.le_of_ble_eq_true rfl) (Nat.le_of_ble_eq_true rfl) ⟨_, rfl, hw⟩
    · have hw := hw.2 c18
      refine g_aload_n C dX6_commonKey_21 0 rfl rfl ?_
      refine g_iconst C dX6_commonKey_22 (v := 2) rfl ?_
      refine g_cV C dX6_commonKey_23 (met_X6_fails C.st hw) (gc_X6_fails _ (Nat.le_of_ble_eq_true rfl) (Nat.le_of_ble_eq_true rfl)) tw1131 tw1133 twp28 (ci := 6) rfl (by decide) hk0 rfl (Nat.le_of_ble_eq_true rfl) (c2 := 0) (s2 := 0) rfl rfl (Nat.le_of_ble_eq_true rfl) (Nat.le_of_ble_eq_true rfl) rfl (kI (fun r_26 M_27 hw => ?_)) tNo
      exact g_iret C dX6_commonKey_26 (Nat.le_of_ble_eq_true rfl) (Nat.le_of_ble_eq_true rfl) ⟨_, rfl, hw⟩
  · have hw := hw.2 c4
    refine g_aload_n C dX6_commonKey_7 0 rfl rfl ?_
    refine g_iconst C dX6_commonKey_8 (v := 1) rfl ?_
    refine g_cV C dX6_commonKey_9 (met_X6_fails C.st hw) (gc_X6_fails _ (Nat.le_of_ble_eq_true rfl) (Nat.le_of_ble_eq_true rfl)) tw1131 tw1133 twp28 (ci := 6) rfl (by decide) hk0 rfl (Nat.le_of_ble_eq_true rfl) (c2 := 0) (s2 := 0) rfl rfl (Nat.le_of_ble_eq_true rfl) (Nat.le_of_ble_eq_true rfl) rfl (kI (fun r_28 M_29 hw => ?_)) tNo
    exact g_iret C dX6_commonKey_12 (Nat.le_of_ble_eq_true rfl) (Nat.le_of_ble_eq_true rfl) ⟨_, rfl, hw⟩
theorem gc_X6_commonKey : ∀ rm : Room, rmX6_commonKey.frames + 1 ≤ rm.frames → 8 + (7 + 11) + rmX6_commonKey.locals ≤ rm.locals → gCall yX6_commonKey 7 1 rmX6_commonKey rm := fun rm a b => ⟨Or.inl ⟨_, _, tw1308⟩, tw8, ⟨by decide, by decide⟩, by decide, a, b⟩
abbrev rmX6_reason : Room := { frames := 5, cells := 0, slots := 0, locals := 118 }
def wp_X6_reason (o : Nat) (p1 : Int32) (p2 : Int32) (M : MEM) (Q : Int32 → MEM → Prop) : Prop := KD o = (16, 0) ∧ (wp_X6_notKept o p1 p2 M (fun r_1 => (r_1 ≤ 0 → (wp_X6_isThere o p1 M (fun r_3 => (¬ r_3 = 0 → ((∀ M_5 : MEM, M_5 = uI M o 0 0 → (wp_X6_finds o p1 M_5 (fun M_7 => KD (RF o 4) = (0, 60) ∧ vp_in p2 60 ∧ (((mI M_7 (RF o 4) p2.toNatClampNeg) < 0 → (wp_X6_isCandidate o p1 p2 M_7 (fun r_10 => (¬ r_10 = 0 → (wp_X6_of o p1 1 M_7 (fun r_12 => (¬ r_12 = 2 → (Q 2 M_7)) ∧ (r_12 = 2 → (wp_X6_item o p1 p2 2 M_7 (fun r_14 => wp_X6_of o p1 (5 + r_14) M_7 (fun r_16 => (¬ r_16 = 0 → (Q 2 M_7)) ∧ (r_16 = 0 → (Q 3 M_7))))))))) ∧ (r_10 = 0 → (Q 1 M_7))))) ∧ (¬ (mI M_7 (RF o 4) p2.toNatClampNeg) < 0 → (Q 0 M_7)))))))) ∧ (r_3 = 0 → (wp_X6_fails o 2 M (fun r_18 M_19 => Q r_18 M_19)))))) ∧ (¬ r_1 ≤ 0 → (wp_X6_fails o 1 M (fun r_20 M_21 => Q r_20 M_21)))))
set_option maxRecDepth 100000 in
set_option maxHeartbeats 4000000 in
theorem met_X6_reason {l : Launch} (hl : l.stackTraces = false) {E : MK} {o : Nat} {p1 : Int32} {p2 : Int32} {M : MEM} {Q : Int32 → MEM → Prop} (hw : wp_X6_reason o p1 p2 M Q) : gMet l E yX6_reason rmX6_reason [gR E o, .int p1, .int p2] M (qI Q) gNo := by
  obtain ⟨hk0, hw⟩ := hw
  refine g_met hl (cc := cX6_reason) (maxL := 3) (ret := (some .int)) (hh := []) (loc := [(0, gR E o), (1, .int p1), (2, .int p2)]) (by decide +kernel) (Or.inl ⟨tw1312, rfl⟩) (Nat.le_of_ble_eq_true rfl) rfl (fun K hK C => ?_)
  have C : GC K E cX6_reason RX6 3 (some .int) [] rmX6_reason := C
  refine g_aload_n C dX6_reason_0 0 rfl rfl ?_
  refine g_iload_n C dX6_reason_1 1 rfl rfl ?_
  refine g_iload_n C dX6_reason_2 2 rfl rfl ?_
  refine g_cV C dX6_reason_3 (met_X6_notKept C.st hw) (gc_X6_notKept _ (Nat.le_of_ble_eq_true rfl) (Nat.le_of_ble_eq_true rfl)) tw1287 tw1289 twp50 (ci := 6) rfl (by decide) hk0 rfl (Nat.le_of_ble_eq_true rfl) (c2 := 0) (s2 := 0) rfl rfl (Nat.le_of_ble_eq_true rfl) (Nat.le_of_ble_eq_true rfl) rfl (kIp (fun r_1 hw => ?_)) tNo
  refine g_if_le C dX6_reason_6 (tgt := 15) (by decide) (fun c6 => ?_) (fun c6 => ?_)
  · have hw := hw.1 c6
    refine g_aload_n C dX6_reason_15 0 rfl rfl ?_
    refine g_iload_n C dX6_reason_16 1 rfl rfl ?_
    refine g_cV C dX6_reason_17 (met_X6_isThere C.st hw) (gc_X6_isThere _ (Nat.le_of_ble_eq_true rfl) (Nat.le_of_ble_eq_true rfl)) tw1152 tw1154 twp31 (ci := 6) rfl (by decide) hk0 rfl (Nat.le_of_ble_eq_true rfl) (c2 := 0) (s2 := 0) rfl rfl (Nat.le_of_ble_eq_true rfl) (Nat.le_of_ble_eq_true rfl) rfl (kIp (fun r_3 hw => ?_)) tNo
    refine g_if_ne C dX6_reason_20 (tgt := 29) (by decide) (fun c20 => ?_) (fun c20 => ?_)
    · have hw := hw.1 c20
      refine g_aload_n C dX6_reason_29 0 rfl rfl ?_
      refine g_iconst C dX6_reason_30 (v := 0) rfl ?_
      refine pf_RX6_57 C hk0 dX6_reason_31 ?_
      refine g_nmM (fun M_5 eM_5 => ?_)
      have hw := hw M_5 eM_5
      refine g_aload_n C dX6_reason_34 0 rfl rfl ?_
      refine g_iload_n C dX6_reason_35 1 rfl rfl ?_
      refine g_cV C dX6_reason_36 (met_X6_finds C.st hw) (gc_X6_finds _ (Nat.le_of_ble_eq_true rfl) (Nat.le_of_ble_eq_true rfl)) tw1216 tw1218 twp40 (ci := 6) rfl (by decide) hk0 rfl (Nat.le_of_ble_eq_true rfl) (c2 := 0) (s2 := 0) rfl rfl (Nat.le_of_ble_eq_true rfl) (Nat.le_of_ble_eq_true rfl) rfl (kV (fun M_7 hw => ?_)) tNo
      refine g_aload_n C dX6_reason_39 0 rfl rfl ?_
      refine gf_RX6_19 C hk0 dX6_reason_40 ?_
      refine g_iload_n C dX6_reason_43 2 rfl rfl ?_
      obtain ⟨hk_8, hw⟩ := hw
      obtain ⟨hi_9, hw⟩ := hw
      refine g_iaload C hk_8 hi_9 dX6_reason_44 ?_
      refine g_if_lt C dX6_reason_45 (tgt := 50) (by decide) (fun c45 => ?_) (fun c45 => ?_)
      · have hw := hw.1 c45
        refine g_aload_n C dX6_reason_50 0 rfl rfl ?_
        refine g_iload_n C dX6_reason_51 1 rfl rfl ?_
        refine g_iload_n C dX6_reason_52 2 rfl rfl ?_
        refine g_cV C dX6_reason_53 (met_X6_isCandidate C.st hw) (gc_X6_isCandidate _ (Nat.le_of_ble_eq_true rfl) (Nat.le_of_ble_eq_true rfl)) tw1224 tw1226 twp42 (ci := 6) rfl (by decide) hk0 rfl (Nat.le_of_ble_eq_true rfl) (c2 := 0) (s2 := 0) rfl rfl (Nat.le_of_ble_eq_true rfl) (Nat.le_of_ble_eq_true rfl) rfl (kIp (fun r_10 hw => ?_)) tNo
        refine g_if_ne C dX6_reason_56 (tgt := 61) (by decide) (fun c56 => ?_) (fun c56 => ?_)
        · have hw := hw.1 c56
          refine g_aload_n C dX6_reason_61 0 rfl rfl ?_
          refine g_iload_n C dX6_reason_62 1 rfl rfl ?_
          refine g_iconst C dX6_reason_63 (v := 1) rfl ?_
          refine g_cV C dX6_reason_64 (met_X6_of C.st hw) (gc_X6_of _ (Nat.le_of_ble_eq_true rfl) (Nat.le_of_ble_eq_true rfl)) tw1160 tw1162 twp33 (ci := 6) rfl (by decide) hk0 rfl (Nat.le_of_ble_eq_true rfl) (c2 := 0) (s2 := 0) rfl rfl (Nat.le_of_ble_eq_true rfl) (Nat.le_of_ble_eq_true rfl) rfl (kIp (fun r_12 hw => ?_)) tNo
          refine g_iconst C dX6_reason_67 (v := 2) rfl ?_
          refine g_icmp_ne C dX6_reason_68 (tgt := 92) (by decide) (fun c68 => ?_) (fun c68 => ?_)
          · have hw := hw.1 c68
            refine g_iconst C dX6_reason_92 (v := 2) rfl ?_
            exact g_iret C dX6_reason_93 (Nat.le_of_ble_eq_true rfl) (Nat.le_of_ble_eq_true rfl) ⟨_, rfl, hw⟩
          · have hw := hw.2 c68
            refine g_aload_n C dX6_reason_71 0 rfl rfl ?_
            refine g_iload_n C dX6_reason_72 1 rfl rfl ?_
            refine g_iconst C dX6_reason_73 (v := 5) rfl ?_
            refine g_aload_n C dX6_reason_74 0 rfl rfl ?_
            refine g_iload_n C dX6_reason_75 1 rfl rfl ?_
            refine g_iload_n C dX6_reason_76 2 rfl rfl ?_
            refine g_iconst C dX6_reason_77 (v := 2) rfl ?_
            refine g_cV C dX6_reason_78 (met_X6_item C.st hw) (gc_X6_item _ (Nat.le_of_ble_eq_true rfl) (Nat.le_of_ble_eq_true rfl)) tw1197 tw1199 twp38 (ci := 6) rfl (by decide) hk0 rfl (Nat.le_of_ble_eq_true rfl) (c2 := 0) (s2 := 0) rfl rfl (Nat.le_of_ble_eq_true rfl) (Nat.le_of_ble_eq_true rfl) rfl (kIp (fun r_14 hw => ?_)) tNo
            refine g_iadd C dX6_reason_81 ?_
            refine g_cV C dX6_reason_82 (met_X6_of C.st hw) (gc_X6_of _ (Nat.le_of_ble_eq_true rfl) (Nat.le_of_ble_eq_true rfl)) tw1160 tw1162 twp33 (ci := 6) rfl (by decide) hk0 rfl (Nat.le_of_ble_eq_true rfl) (c2 := 0) (s2 := 0) rfl rfl (Nat.le_of_ble_eq_true rfl) (Nat.le_of_ble_eq_true rfl) rfl (kIp (fun r_16 hw => ?_)) tNo
            refine g_if_ne C dX6_reason_85 (tgt := 92) (by decide) (fun c85 => ?_) (fun c85 => ?_)
            · have hw := hw.1 c85
              refine g_iconst C dX6_reason_92 (v := 2) rfl ?_
              exact g_iret C dX6_reason_93 (Nat.le_of_ble_eq_true rfl) (Nat.le_of_ble_eq_true rfl) ⟨_, rfl, hw⟩
            · have hw := hw.2 c85
              refine g_iconst C dX6_reason_88 (v := 3) rfl ?_
              refine g_goto C dX6_reason_89 (tgt := 93) (by decide) ?_
              exact g_iret C dX6_reason_93 (Nat.le_of_ble_eq_true rfl) (Nat.le_of_ble_eq_true rfl) ⟨_, rfl, hw⟩
        · have hw := hw.2 c56
          refine g_iconst C dX6_reason_59 (v := 1) rfl ?_
          exact g_iret C dX6_reason_60 (Nat.le_of_ble_eq_true rfl) (Nat.le_of_ble_eq_true rfl) ⟨_, rfl, hw⟩
      · have hw := hw.2 c45
        refine g_iconst C dX6_reason_48 (v := 0) rfl ?_
        exact g_iret C dX6_reason_49 (Nat.le_of_ble_eq_true rfl) (Nat.le_of_ble_eq_true rfl) ⟨_, rfl, hw⟩
    · have hw := hw.2 c20
      refine g_aload_n C dX6_reason_23 0 rfl rfl ?_
      refine g_iconst C dX6_reason_24 (v := 2) rfl ?_
      refine g_cV C dX6_reason_25 (met_X6_fails C.st hw) (gc_X6_fails _ (Nat.le_of_ble_eq_true rfl) (Nat.le_of_ble_eq_true rfl)) tw1131 tw1133 twp28 (ci := 6) rfl (by decide) hk0 rfl (Nat.le_of_ble_eq_true rfl) (c2 := 0) (s2 := 0) rfl rfl (Nat.le_of_ble_eq_true rfl) (Nat.le_of_ble_eq_true rfl) rfl (kI (fun r_18 M_19 hw => ?_)) tNo
      exact g_iret C dX6_reason_28 (Nat.le_of_ble_eq_true rfl) (Nat.le_of_ble_eq_true rfl) ⟨_, rfl, hw⟩
  · have hw := hw.2 c6
    refine g_aload_n C dX6_reason_9 0 rfl rfl ?_
    refine g_iconst C dX6_reason_10 (v := 1) rfl ?_
    refine g_cV C dX6_reason_11 (met_X6_fails C.st hw) (gc_X6_fails _ (Nat.le_of_ble_eq_true rfl) (Nat.le_of_ble_eq_true rfl)) tw1131 tw1133 twp28 (ci := 6) rfl (by decide) hk0 rfl (Nat.le_of_ble_eq_true rfl) (c2 := 0) (s2 := 0) rfl rfl (Nat.le_of_ble_eq_true rfl) (Nat.le_of_ble_eq_true rfl) rfl (kI (fun r_20 M_21 hw => ?_)) tNo
    exact g_iret C dX6_reason_14 (Nat.le_of_ble_eq_true rfl) (Nat.le_of_ble_eq_true rfl) ⟨_, rfl, hw⟩
theorem gc_X6_reason : ∀ rm : Room, rmX6_reason.frames + 1 ≤ rm.frames → 8 + (3 + 11) + rmX6_reason.locals ≤ rm.locals → gCall yX6_reason 3 2 rmX6_reason rm := fun rm a b => ⟨Or.inl ⟨_, _, tw1312⟩, tw8, ⟨by decide, by decide⟩, by decide, a, b⟩
abbrev rmX6_before : Room := { frames := 1, cells := 0, slots := 0, locals := 23 }
def wp_X6_before_L5 (o : Nat) (p1 : Int32) (p2 : Int32) (M : MEM) (Q : Int32 → Prop) : Nat → Int32 → Int32 → Prop
  | 0, _, _ => False
  | n5 + 1, x3_1, x4_2 => ((mI M o 5) ≤ x4_2 → (Q x3_1)) ∧ (¬ (mI M o 5) ≤ x4_2 → (KD (RF o 2) = (0, 60) ∧ vp_in x4_2 60 ∧ (((mI M (RF o 2) x4_2.toNatClampNeg) = p2 → (Q x3_1)) ∧ (¬ (mI M (RF o 2) x4_2.toNatClampNeg) = p2 → (wp_X6_of o p1 1 M (fun r_5 => (¬ r_5 = 2 → (∀ x3_7 : Int32, x3_7 = x3_1 + 1 → (∀ x4_8 : Int32, x4_8 = x4_2 + 1 → ((wp_X6_before_L5 o p1 p2 M Q n5) x3_7 x4_8)))) ∧ (r_5 = 2 → (vp_in x4_2 60 ∧ (wp_X6_item o p1 (mI M (RF o 2) x4_2.toNatClampNeg) 2 M (fun r_10 => wp_X6_item o p1 p2 2 M (fun r_12 => (¬ r_10 = r_12 → (∀ x3_14 : Int32, x3_14 = x3_1 + 0 → (∀ x4_15 : Int32, x4_15 = x4_2 + 1 → ((wp_X6_before_L5 o p1 p2 M Q n5) x3_14 x4_15)))) ∧ (r_10 = r_12 → (∀ x3_16 : Int32, x3_16 = x3_1 + 1 → (∀ x4_17 : Int32, x4_17 = x4_2 + 1 → ((wp_X6_before_L5 o p1 p2 M Q n5) x3_16 x4_17)))))))))))))))
def wp_X6_before (o : Nat) (p1 : Int32) (p2 : Int32) (M : MEM) (Q : Int32 → Prop) : Prop := KD o = (16, 0) ∧ (∃ m5 : Nat, wp_X6_before_L5 o p1 p2 M Q m5 0 0)
set_option maxRecDepth 100000 in
set_option maxHeartbeats 4000000 in
theorem met_X6_before {l : Launch} (hl : l.stackTraces = false) {E : MK} {o : Nat} {p1 : Int32} {p2 : Int32} {M : MEM} {Q : Int32 → Prop} (hw : wp_X6_before o p1 p2 M Q) : gMet l E yX6_before rmX6_before [gR E o, .int p1, .int p2] M (qIp M Q) gNo := by
  obtain ⟨hk0, hw⟩ := hw
  refine g_met hl (cc := cX6_before) (maxL := 5) (ret := (some .int)) (hh := []) (loc := [(0, gR E o), (1, .int p1), (2, .int p2)]) (by decide +kernel) (Or.inl ⟨tw1320, rfl⟩) (Nat.le_of_ble_eq_true rfl) rfl (fun K hK C => ?_)
  have C : GC K E cX6_before RX6 5 (some .int) [] rmX6_before := C
  refine g_iconst C dX6_before_0 (v := 0) rfl ?_
  refine g_istore_n C dX6_before_1 rfl (Nat.le_of_ble_eq_true rfl) (loc' := [(3, .int 0), (0, gR E o), (1, .int p1), (2, .int p2)]) rfl ?_
  refine g_iconst C dX6_before_2 (v := 0) rfl ?_
  refine g_istore C dX6_before_3 (Nat.le_of_ble_eq_true rfl) (loc' := [(4, .int 0), (3, .int 0), (0, gR E o), (1, .int p1), (2, .int p2)]) rfl ?_
  obtain ⟨m5, hw⟩ := hw
  have hL5 : ∀ (n5 : Nat) (x3_1 : Int32) (x4_2 : Int32), wp_X6_before_L5 o p1 p2 M Q n5 x3_1 x4_2 → GX K E 5 M [(0, gR E o), (1, .int p1), (2, .int p2), (3, .int x3_1), (4, .int x4_2)] [] 5 0 0 (gEnd K E (qIp M Q) gNo rmX6_before.cells rmX6_before.slots) := by
    intro n5
    induction n5 with
    | zero => intro _ _ hw; exact False.elim hw
    | succ n5 ih5 =>
      intro x3_1 x4_2 hw
      refine g_iload C (j := 0) dX6_before_5 4 rfl ?_
      refine g_aload_n C dX6_before_7 0 rfl rfl ?_
      refine gf_RX6_150 C hk0 dX6_before_8 ?_
      refine g_icmp_ge C dX6_before_11 (tgt := 72) (by decide) (fun c11 => ?_) (fun c11 => ?_)
      · have hw := hw.1 c11
        refine g_iload_n C dX6_before_72 3 rfl rfl ?_
        exact g_iret C dX6_before_73 (Nat.le_of_ble_eq_true rfl) (Nat.le_of_ble_eq_true rfl) ⟨_, rfl, rfl, hw⟩
      · have hw := hw.2 c11
        refine g_aload_n C dX6_before_14 0 rfl rfl ?_
        refine gf_RX6_13 C hk0 dX6_before_15 ?_
        refine g_iload C (j := 0) dX6_before_18 4 rfl ?_
        obtain ⟨hk_3, hw⟩ := hw
        obtain ⟨hi_4, hw⟩ := hw
        refine g_iaload C hk_3 hi_4 dX6_before_20 ?_
        refine g_iload_n C dX6_before_21 2 rfl rfl ?_
        refine g_icmp_eq C dX6_before_22 (tgt := 72) (by decide) (fun c22 => ?_) (fun c22 => ?_)
        · have hw := hw.1 c22
          refine g_iload_n C dX6_before_72 3 rfl rfl ?_
          exact g_iret C dX6_before_73 (Nat.le_of_ble_eq_true rfl) (Nat.le_of_ble_eq_true rfl) ⟨_, rfl, rfl, hw⟩
        · have hw := hw.2 c22
          refine g_iload_n C dX6_before_25 3 rfl rfl ?_
          refine g_aload_n C dX6_before_26 0 rfl rfl ?_
          refine g_iload_n C dX6_before_27 1 rfl rfl ?_
          refine g_iconst C dX6_before_28 (v := 1) rfl ?_
          refine g_cV C dX6_before_29 (met_X6_of C.st hw) (gc_X6_of _ (Nat.le_of_ble_eq_true rfl) (Nat.le_of_ble_eq_true rfl)) tw1160 tw1162 twp33 (ci := 6) rfl (by decide) hk0 rfl (Nat.le_of_ble_eq_true rfl) (c2 := 0) (s2 := 0) rfl rfl (Nat.le_of_ble_eq_true rfl) (Nat.le_of_ble_eq_true rfl) rfl (kIp (fun r_5 hw => ?_)) tNo
          refine g_iconst C dX6_before_32 (v := 2) rfl ?_
          refine g_icmp_ne C dX6_before_33 (tgt := 59) (by decide) (fun c33 => ?_) (fun c33 => ?_)
          · have hw := hw.1 c33
            refine g_iconst C dX6_before_59 (v := 1) rfl ?_
            refine g_goto C dX6_before_60 (tgt := 64) (by decide) ?_
            refine g_iadd C dX6_before_64 ?_
            refine g_nmI (fun x3_7 ex3_7 => ?_)
            have hw := hw x3_7 ex3_7
            refine g_istore_n C dX6_before_65 rfl (Nat.le_of_ble_eq_true rfl) (loc' := [(3, .int x3_7), (0, gR E o), (1, .int p1), (2, .int p2), (4, .int x4_2)]) rfl ?_
            obtain ⟨x4_8, ex4_8⟩ : ∃ y : Int32, y = x4_2 + 1 := ⟨_, rfl⟩
            have hw := hw x4_8 ex4_8
            refine g_iinc C (j := 0) dX6_before_66 4 rfl (v := x4_8) (by rw [ex4_8]; rfl) (Nat.le_of_ble_eq_true rfl) (loc' := [(4, .int x4_8), (3, .int x3_7), (0, gR E o), (1, .int p1), (2, .int p2)]) rfl ?_
            refine g_goto C dX6_before_69 (tgt := 5) (by decide) ?_
            refine g_sub [2, 3, 4, 1, 0] rfl ?_
            exact ih5 _ _ hw
          · have hw := hw.2 c33
            refine g_aload_n C dX6_before_36 0 rfl rfl ?_
            refine g_iload_n C dX6_before_37 1 rfl rfl ?_
            refine g_aload_n C dX6_before_38 0 rfl rfl ?_
            refine gf_RX6_13 C hk0 dX6_before_39 ?_
            refine g_iload C (j := 0) dX6_before_42 4 rfl ?_
            obtain ⟨hi_9, hw⟩ := hw
            refine g_iaload C hk_3 hi_9 dX6_before_44 ?_
            refine g_iconst C dX6_before_45 (v := 2) rfl ?_
            refine g_cV C dX6_before_46 (met_X6_item C.st hw) (gc_X6_item _ (Nat.le_of_ble_eq_true rfl) (Nat.le_of_ble_eq_true rfl)) tw1197 tw1199 twp38 (ci := 6) rfl (by decide) hk0 rfl (Nat.le_of_ble_eq_true rfl) (c2 := 0) (s2 := 0) rfl rfl (Nat.le_of_ble_eq_true rfl) (Nat.le_of_ble_eq_true rfl) rfl (kIp (fun r_10 hw => ?_)) tNo
            refine g_aload_n C dX6_before_49 0 rfl rfl ?_
            refine g_iload_n C dX6_before_50 1 rfl rfl ?_
            refine g_iload_n C dX6_before_51 2 rfl rfl ?_
            refine g_iconst C dX6_before_52 (v := 2) rfl ?_
            refine g_cV C dX6_before_53 (met_X6_item C.st hw) (gc_X6_item _ (Nat.le_of_ble_eq_true rfl) (Nat.le_of_ble_eq_true rfl)) tw1197 tw1199 twp38 (ci := 6) rfl (by decide) hk0 rfl (Nat.le_of_ble_eq_true rfl) (c2 := 0) (s2 := 0) rfl rfl (Nat.le_of_ble_eq_true rfl) (Nat.le_of_ble_eq_true rfl) rfl (kIp (fun r_12 hw => ?_)) tNo
            refine g_icmp_ne C dX6_before_56 (tgt := 63) (by decide) (fun c56 => ?_) (fun c56 => ?_)
            · have hw := hw.1 c56
              refine g_iconst C dX6_before_63 (v := 0) rfl ?_
              refine g_iadd C dX6_before_64 ?_
              refine g_nmI (fun x3_14 ex3_14 => ?_)
              have hw := hw x3_14 ex3_14
              refine g_istore_n C dX6_before_65 rfl (Nat.le_of_ble_eq_true rfl) (loc' := [(3, .int x3_14), (0, gR E o), (1, .int p1), (2, .int p2), (4, .int x4_2)]) rfl ?_
              obtain ⟨x4_15, ex4_15⟩ : ∃ y : Int32, y = x4_2 + 1 := ⟨_, rfl⟩
              have hw := hw x4_15 ex4_15
              refine g_iinc C (j := 0) dX6_before_66 4 rfl (v := x4_15) (by rw [ex4_15]; rfl) (Nat.le_of_ble_eq_true rfl) (loc' := [(4, .int x4_15), (3, .int x3_14), (0, gR E o), (1, .int p1), (2, .int p2)]) rfl ?_
              refine g_goto C dX6_before_69 (tgt := 5) (by decide) ?_
              refine g_sub [2, 3, 4, 1, 0] rfl ?_
              exact ih5 _ _ hw
            · have hw := hw.2 c56
              refine g_iconst C dX6_before_59 (v := 1) rfl ?_
              refine g_goto C dX6_before_60 (tgt := 64) (by decide) ?_
              refine g_iadd C dX6_before_64 ?_
              refine g_nmI (fun x3_16 ex3_16 => ?_)
              have hw := hw x3_16 ex3_16
              refine g_istore_n C dX6_before_65 rfl (Nat.le_of_ble_eq_true rfl) (loc' := [(3, .int x3_16), (0, gR E o), (1, .int p1), (2, .int p2), (4, .int x4_2)]) rfl ?_
              obtain ⟨x4_17, ex4_17⟩ : ∃ y : Int32, y = x4_2 + 1 := ⟨_, rfl⟩
              have hw := hw x4_17 ex4_17
              refine g_iinc C (j := 0) dX6_before_66 4 rfl (v := x4_17) (by rw [ex4_17]; rfl) (Nat.le_of_ble_eq_true rfl) (loc' := [(4, .int x4_17), (3, .int x3_16), (0, gR E o), (1, .int p1), (2, .int p2)]) rfl ?_
              refine g_goto C dX6_before_69 (tgt := 5) (by decide) ?_
              refine g_sub [2, 3, 4, 1, 0] rfl ?_
              exact ih5 _ _ hw
  refine g_sub [2, 3, 4, 1, 0] rfl ?_
  exact hL5 m5 _ _ hw
theorem gc_X6_before : ∀ rm : Room, rmX6_before.frames + 1 ≤ rm.frames → 8 + (5 + 11) + rmX6_before.locals ≤ rm.locals → gCall yX6_before 5 2 rmX6_before rm := fun rm a b => ⟨Or.inl ⟨_, _, tw1320⟩, tw8, ⟨by decide, by decide⟩, by decide, a, b⟩
abbrev rmX6_needed : Room := { frames := 5, cells := 0, slots := 0, locals := 118 }
def wp_X6_needed (o : Nat) (p1 : Int32) (p2 : Int32) (M : MEM) (Q : Int32 → MEM → Prop) : Prop := KD o = (16, 0) ∧ (wp_X6_notKept o p1 p2 M (fun r_1 => (r_1 ≤ 0 → (wp_X6_isThere o p1 M (fun r_3 => (¬ r_3 = 0 → (wp_X6_isCandidate o p1 p2 M (fun r_5 => (¬ r_5 = 0 → ((∀ M_7 : MEM, M_7 = uI M o 0 0 → (wp_X6_finds o p1 M_7 (fun M_9 => wp_X6_before o p1 p2 M_9 (fun r_10 => Q (r_10 + 1) M_9)))))) ∧ (r_5 = 0 → (wp_X6_fails o 3 M (fun r_12 M_13 => Q r_12 M_13)))))) ∧ (r_3 = 0 → (wp_X6_fails o 2 M (fun r_14 M_15 => Q r_14 M_15)))))) ∧ (¬ r_1 ≤ 0 → (wp_X6_fails o 1 M (fun r_16 M_17 => Q r_16 M_17)))))
set_option maxRecDepth 100000 in
set_option maxHeartbeats 4000000 in
theorem met_X6_needed {l : Launch} (hl : l.stackTraces = false) {E : MK} {o : Nat} {p1 : Int32} {p2 : Int32} {M : MEM} {Q : Int32 → MEM → Prop} (hw : wp_X6_needed o p1 p2 M Q) : gMet l E yX6_needed rmX6_needed [gR E o, .int p1, .int p2] M (qI Q) gNo := by
  obtain ⟨hk0, hw⟩ := hw
  refine g_met hl (cc := cX6_needed) (maxL := 3) (ret := (some .int)) (hh := []) (loc := [(0, gR E o), (1, .int p1), (2, .int p2)]) (by decide +kernel) (Or.inl ⟨tw1316, rfl⟩) (Nat.le_of_ble_eq_true rfl) rfl (fun K hK C => ?_)
  have C : GC K E cX6_needed RX6 3 (some .int) [] rmX6_needed := C
  refine g_aload_n C dX6_needed_0 0 rfl rfl ?_
  refine g_iload_n C dX6_needed_1 1 rfl rfl ?_
  refine g_iload_n C dX6_needed_2 2 rfl rfl ?_
  refine g_cV C dX6_needed_3 (met_X6_notKept C.st hw) (gc_X6_notKept _ (Nat.le_of_ble_eq_true rfl) (Nat.le_of_ble_eq_true rfl)) tw1287 tw1289 twp50 (ci := 6) rfl (by decide) hk0 rfl (Nat.le_of_ble_eq_true rfl) (c2 := 0) (s2 := 0) rfl rfl (Nat.le_of_ble_eq_true rfl) (Nat.le_of_ble_eq_true rfl) rfl (kIp (fun r_1 hw => ?_)) tNo
  refine g_if_le C dX6_needed_6 (tgt := 15) (by decide) (fun c6 => ?_) (fun c6 => ?_)
  · have hw := hw.1 c6
    refine g_aload_n C dX6_needed_15 0 rfl rfl ?_
    refine g_iload_n C dX6_needed_16 1 rfl rfl ?_
    refine g_cV C dX6_needed_17 (met_X6_isThere C.st hw) (gc_X6_isThere _ (Nat.le_of_ble_eq_true rfl) (Nat.le_of_ble_eq_true rfl)) tw1152 tw1154 twp31 (ci := 6) rfl (by decide) hk0 rfl (Nat.le_of_ble_eq_true rfl) (c2 := 0) (s2 := 0) rfl rfl (Nat.le_of_ble_eq_true rfl) (Nat.le_of_ble_eq_true rfl) rfl (kIp (fun r_3 hw => ?_)) tNo
    refine g_if_ne C dX6_needed_20 (tgt := 29) (by decide) (fun c20 => ?_) (fun c20 => ?_)
    · have hw := hw.1 c20
      refine g_aload_n C dX6_needed_29 0 rfl rfl ?_
      refine g_iload_n C dX6_needed_30 1 rfl rfl ?_
      refine g_iload_n C dX6_needed_31 2 rfl rfl ?_
      refine g_cV C dX6_needed_32 (met_X6_isCandidate C.st hw) (gc_X6_isCandidate _ (Nat.le_of_ble_eq_true rfl) (Nat.le_of_ble_eq_true rfl)) tw1224 tw1226 twp42 (ci := 6) rfl (by decide) hk0 rfl (Nat.le_of_ble_eq_true rfl) (c2 := 0) (s2 := 0) rfl rfl (Nat.le_of_ble_eq_true rfl) (Nat.le_of_ble_eq_true rfl) rfl (kIp (fun r_5 hw => ?_)) tNo
      refine g_if_ne C dX6_needed_35 (tgt := 44) (by decide) (fun c35 => ?_) (fun c35 => ?_)
      · have hw := hw.1 c35
        refine g_aload_n C dX6_needed_44 0 rfl rfl ?_
        refine g_iconst C dX6_needed_45 (v := 0) rfl ?_
        refine pf_RX6_57 C hk0 dX6_needed_46 ?_
        refine g_nmM (fun M_7 eM_7 => ?_)
        have hw := hw M_7 eM_7
        refine g_aload_n C dX6_needed_49 0 rfl rfl ?_
        refine g_iload_n C dX6_needed_50 1 rfl rfl ?_
        refine g_cV C dX6_needed_51 (met_X6_finds C.st hw) (gc_X6_finds _ (Nat.le_of_ble_eq_true rfl) (Nat.le_of_ble_eq_true rfl)) tw1216 tw1218 twp40 (ci := 6) rfl (by decide) hk0 rfl (Nat.le_of_ble_eq_true rfl) (c2 := 0) (s2 := 0) rfl rfl (Nat.le_of_ble_eq_true rfl) (Nat.le_of_ble_eq_true rfl) rfl (kV (fun M_9 hw => ?_)) tNo
        refine g_aload_n C dX6_needed_54 0 rfl rfl ?_
        refine g_iload_n C dX6_needed_55 1 rfl rfl ?_
        refine g_iload_n C dX6_needed_56 2 rfl rfl ?_
        refine g_cV C dX6_needed_57 (met_X6_before C.st hw) (gc_X6_before _ (Nat.le_of_ble_eq_true rfl) (Nat.le_of_ble_eq_true rfl)) tw1317 tw1319 twp52 (ci := 6) rfl (by decide) hk0 rfl (Nat.le_of_ble_eq_true rfl) (c2 := 0) (s2 := 0) rfl rfl (Nat.le_of_ble_eq_true rfl) (Nat.le_of_ble_eq_true rfl) rfl (kIp (fun r_10 hw => ?_)) tNo
        refine g_iconst C dX6_needed_60 (v := 1) rfl ?_
        refine g_iadd C dX6_needed_61 ?_
        exact g_iret C dX6_needed_62 (Nat.le_of_ble_eq_true rfl) (Nat.le_of_ble_eq_true rfl) ⟨_, rfl, hw⟩
      · have hw := hw.2 c35
        refine g_aload_n C dX6_needed_38 0 rfl rfl ?_
        refine g_iconst C dX6_needed_39 (v := 3) rfl ?_
        refine g_cV C dX6_needed_40 (met_X6_fails C.st hw) (gc_X6_fails _ (Nat.le_of_ble_eq_true rfl) (Nat.le_of_ble_eq_true rfl)) tw1131 tw1133 twp28 (ci := 6) rfl (by decide) hk0 rfl (Nat.le_of_ble_eq_true rfl) (c2 := 0) (s2 := 0) rfl rfl (Nat.le_of_ble_eq_true rfl) (Nat.le_of_ble_eq_true rfl) rfl (kI (fun r_12 M_13 hw => ?_)) tNo
        exact g_iret C dX6_needed_43 (Nat.le_of_ble_eq_true rfl) (Nat.le_of_ble_eq_true rfl) ⟨_, rfl, hw⟩
    · have hw := hw.2 c20
      refine g_aload_n C dX6_needed_23 0 rfl rfl ?_
      refine g_iconst C dX6_needed_24 (v := 2) rfl ?_
      refine g_cV C dX6_needed_25 (met_X6_fails C.st hw) (gc_X6_fails _ (Nat.le_of_ble_eq_true rfl) (Nat.le_of_ble_eq_true rfl)) tw1131 tw1133 twp28 (ci := 6) rfl (by decide) hk0 rfl (Nat.le_of_ble_eq_true rfl) (c2 := 0) (s2 := 0) rfl rfl (Nat.le_of_ble_eq_true rfl) (Nat.le_of_ble_eq_true rfl) rfl (kI (fun r_14 M_15 hw => ?_)) tNo
      exact g_iret C dX6_needed_28 (Nat.le_of_ble_eq_true rfl) (Nat.le_of_ble_eq_true rfl) ⟨_, rfl, hw⟩
  · have hw := hw.2 c6
    refine g_aload_n C dX6_needed_9 0 rfl rfl ?_
    refine g_iconst C dX6_needed_10 (v := 1) rfl ?_
    refine g_cV C dX6_needed_11 (met_X6_fails C.st hw) (gc_X6_fails _ (Nat.le_of_ble_eq_true rfl) (Nat.le_of_ble_eq_true rfl)) tw1131 tw1133 twp28 (ci := 6) rfl (by decide) hk0 rfl (Nat.le_of_ble_eq_true rfl) (c2 := 0) (s2 := 0) rfl rfl (Nat.le_of_ble_eq_true rfl) (Nat.le_of_ble_eq_true rfl) rfl (kI (fun r_16 M_17 hw => ?_)) tNo
    exact g_iret C dX6_needed_14 (Nat.le_of_ble_eq_true rfl) (Nat.le_of_ble_eq_true rfl) ⟨_, rfl, hw⟩
theorem gc_X6_needed : ∀ rm : Room, rmX6_needed.frames + 1 ≤ rm.frames → 8 + (3 + 11) + rmX6_needed.locals ≤ rm.locals → gCall yX6_needed 3 2 rmX6_needed rm := fun rm a b => ⟨Or.inl ⟨_, _, tw1316⟩, tw8, ⟨by decide, by decide⟩, by decide, a, b⟩
abbrev rmX6_margin : Room := { frames := 5, cells := 0, slots := 0, locals := 118 }
def wp_X6_margin_J87 (o : Nat) (p1 : Int32) (p2 : Int32) (Q : Int32 → MEM → Prop) (M_9 : MEM) (s_12 : Int32) : Prop := wp_X6_before o p1 p2 M_9 (fun r_13 => Q (s_12 - r_13) M_9)
def wp_X6_margin (o : Nat) (p1 : Int32) (p2 : Int32) (M : MEM) (Q : Int32 → MEM → Prop) : Prop := KD o = (16, 0) ∧ (wp_X6_notKept o p1 p2 M (fun r_1 => (r_1 ≤ 0 → (wp_X6_isThere o p1 M (fun r_3 => (¬ r_3 = 0 → (wp_X6_finds o p1 M (fun M_6 => KD (RF o 4) = (0, 60) ∧ vp_in p2 60 ∧ ((0 ≤ (mI M_6 (RF o 4) p2.toNatClampNeg) → ((∀ M_9 : MEM, M_9 = uI M_6 o 0 0 → (wp_X6_of o p1 1 M_9 (fun r_10 => (¬ r_10 = 2 → (wp_X6_of o p1 2 M_9 (fun r_15 => wp_X6_margin_J87 o p1 p2 Q M_9 r_15))) ∧ (r_10 = 2 → (wp_X6_item o p1 p2 2 M_9 (fun r_17 => wp_X6_of o p1 (5 + r_17) M_9 (fun r_19 => wp_X6_margin_J87 o p1 p2 Q M_9 r_19))))))))) ∧ (¬ 0 ≤ (mI M_6 (RF o 4) p2.toNatClampNeg) → (wp_X6_fails o 3 M_6 (fun r_21 M_22 => Q r_21 M_22))))))) ∧ (r_3 = 0 → (wp_X6_fails o 2 M (fun r_23 M_24 => Q r_23 M_24)))))) ∧ (¬ r_1 ≤ 0 → (wp_X6_fails o 1 M (fun r_25 M_26 => Q r_25 M_26)))))
set_option maxRecDepth 100000 in
set_option maxHeartbeats 4000000 in
theorem met_X6_margin {l : Launch} (hl : l.stackTraces = false) {E : MK} {o : Nat} {p1 : Int32} {p2 : Int32} {M : MEM} {Q : Int32 → MEM → Prop} (hw : wp_X6_margin o p1 p2 M Q) : gMet l E yX6_margin rmX6_margin [gR E o, .int p1, .int p2] M (qI Q) gNo := by
  obtain ⟨hk0, hw⟩ := hw
  refine g_met hl (cc := cX6_margin) (maxL := 4) (ret := (some .int)) (hh := []) (loc := [(0, gR E o), (1, .int p1), (2, .int p2)]) (by decide +kernel) (Or.inl ⟨tw1324, rfl⟩) (Nat.le_of_ble_eq_true rfl) rfl (fun K hK C => ?_)
  have C : GC K E cX6_margin RX6 4 (some .int) [] rmX6_margin := C
  refine g_aload_n C dX6_margin_0 0 rfl rfl ?_
  refine g_iload_n C dX6_margin_1 1 rfl rfl ?_
  refine g_iload_n C dX6_margin_2 2 rfl rfl ?_
  refine g_cV C dX6_margin_3 (met_X6_notKept C.st hw) (gc_X6_notKept _ (Nat.le_of_ble_eq_true rfl) (Nat.le_of_ble_eq_true rfl)) tw1287 tw1289 twp50 (ci := 6) rfl (by decide) hk0 rfl (Nat.le_of_ble_eq_true rfl) (c2 := 0) (s2 := 0) rfl rfl (Nat.le_of_ble_eq_true rfl) (Nat.le_of_ble_eq_true rfl) rfl (kIp (fun r_1 hw => ?_)) tNo
  refine g_if_le C dX6_margin_6 (tgt := 15) (by decide) (fun c6 => ?_) (fun c6 => ?_)
  · have hw := hw.1 c6
    refine g_aload_n C dX6_margin_15 0 rfl rfl ?_
    refine g_iload_n C dX6_margin_16 1 rfl rfl ?_
    refine g_cV C dX6_margin_17 (met_X6_isThere C.st hw) (gc_X6_isThere _ (Nat.le_of_ble_eq_true rfl) (Nat.le_of_ble_eq_true rfl)) tw1152 tw1154 twp31 (ci := 6) rfl (by decide) hk0 rfl (Nat.le_of_ble_eq_true rfl) (c2 := 0) (s2 := 0) rfl rfl (Nat.le_of_ble_eq_true rfl) (Nat.le_of_ble_eq_true rfl) rfl (kIp (fun r_3 hw => ?_)) tNo
    refine g_if_ne C dX6_margin_20 (tgt := 29) (by decide) (fun c20 => ?_) (fun c20 => ?_)
    · have hw := hw.1 c20
      refine g_aload_n C dX6_margin_29 0 rfl rfl ?_
      refine g_iload_n C dX6_margin_30 1 rfl rfl ?_
      refine g_cV C dX6_margin_31 (met_X6_finds C.st hw) (gc_X6_finds _ (Nat.le_of_ble_eq_true rfl) (Nat.le_of_ble_eq_true rfl)) tw1216 tw1218 twp40 (ci := 6) rfl (by decide) hk0 rfl (Nat.le_of_ble_eq_true rfl) (c2 := 0) (s2 := 0) rfl rfl (Nat.le_of_ble_eq_true rfl) (Nat.le_of_ble_eq_true rfl) rfl (kV (fun M_6 hw => ?_)) tNo
      refine g_aload_n C dX6_margin_34 0 rfl rfl ?_
      refine gf_RX6_19 C hk0 dX6_margin_35 ?_
      refine g_iload_n C dX6_margin_38 2 rfl rfl ?_
      obtain ⟨hk_7, hw⟩ := hw
      obtain ⟨hi_8, hw⟩ := hw
      refine g_iaload C hk_7 hi_8 dX6_margin_39 ?_
      refine g_if_ge C dX6_margin_40 (tgt := 49) (by decide) (fun c40 => ?_) (fun c40 => ?_)
      · have hw := hw.1 c40
        refine g_aload_n C dX6_margin_49 0 rfl rfl ?_
        refine g_iconst C dX6_margin_50 (v := 0) rfl ?_
        refine pf_RX6_57 C hk0 dX6_margin_51 ?_
        refine g_nmM (fun M_9 eM_9 => ?_)
        have hw := hw M_9 eM_9
        refine g_aload_n C dX6_margin_54 0 rfl rfl ?_
        refine g_iload_n C dX6_margin_55 1 rfl rfl ?_
        refine g_iconst C dX6_margin_56 (v := 1) rfl ?_
        refine g_cV C dX6_margin_57 (met_X6_of C.st hw) (gc_X6_of _ (Nat.le_of_ble_eq_true rfl) (Nat.le_of_ble_eq_true rfl)) tw1160 tw1162 twp33 (ci := 6) rfl (by decide) hk0 rfl (Nat.le_of_ble_eq_true rfl) (c2 := 0) (s2 := 0) rfl rfl (Nat.le_of_ble_eq_true rfl) (Nat.le_of_ble_eq_true rfl) rfl (kIp (fun r_10 hw => ?_)) tNo
        refine g_iconst C dX6_margin_60 (v := 2) rfl ?_
        have hJ87 : ∀ (s_12 : Int32), wp_X6_margin_J87 o p1 p2 Q M_9 s_12 → GX K E 4 M_9 [(0, gR E o), (1, .int p1), (2, .int p2)] [.int s_12] 87 0 0 (gEnd K E (qI Q) gNo rmX6_margin.cells rmX6_margin.slots) := by
          intro s_12 hw
          refine g_istore_n C dX6_margin_87 rfl (Nat.le_of_ble_eq_true rfl) (loc' := [(3, .int s_12), (0, gR E o), (1, .int p1), (2, .int p2)]) rfl ?_
          refine g_iload_n C dX6_margin_88 0 rfl rfl ?_
          refine g_aload_n C dX6_margin_89 1 rfl rfl ?_
          refine g_iload_n C dX6_margin_90 2 rfl rfl ?_
          refine g_iload_n C dX6_margin_91 3 rfl rfl ?_
          refine g_cV C dX6_margin_92 (met_X6_before C.st hw) (gc_X6_before _ (Nat.le_of_ble_eq_true rfl) (Nat.le_of_ble_eq_true rfl)) tw1317 tw1319 twp52 (ci := 6) rfl (by decide) hk0 rfl (Nat.le_of_ble_eq_true rfl) (c2 := 0) (s2 := 0) rfl rfl (Nat.le_of_ble_eq_true rfl) (Nat.le_of_ble_eq_true rfl) rfl (kIp (fun r_13 hw => ?_)) tNo
          refine g_isub C dX6_margin_95 ?_
          exact g_iret C dX6_margin_96 (Nat.le_of_ble_eq_true rfl) (Nat.le_of_ble_eq_true rfl) ⟨_, rfl, hw⟩
        refine g_icmp_ne C dX6_margin_61 (tgt := 81) (by decide) (fun c61 => ?_) (fun c61 => ?_)
        · have hw := hw.1 c61
          refine g_aload_n C dX6_margin_81 0 rfl rfl ?_
          refine g_iload_n C dX6_margin_82 1 rfl rfl ?_
          refine g_iconst C dX6_margin_83 (v := 2) rfl ?_
          refine g_cV C dX6_margin_84 (met_X6_of C.st hw) (gc_X6_of _ (Nat.le_of_ble_eq_true rfl) (Nat.le_of_ble_eq_true rfl)) tw1160 tw1162 twp33 (ci := 6) rfl (by decide) hk0 rfl (Nat.le_of_ble_eq_true rfl) (c2 := 0) (s2 := 0) rfl rfl (Nat.le_of_ble_eq_true rfl) (Nat.le_of_ble_eq_true rfl) rfl (kIp (fun r_15 hw => ?_)) tNo
          exact hJ87 _ hw
        · have hw := hw.2 c61
          refine g_aload_n C dX6_margin_64 0 rfl rfl ?_
          refine g_iload_n C dX6_margin_65 1 rfl rfl ?_
          refine g_iconst C dX6_margin_66 (v := 5) rfl ?_
          refine g_aload_n C dX6_margin_67 0 rfl rfl ?_
          refine g_iload_n C dX6_margin_68 1 rfl rfl ?_
          refine g_iload_n C dX6_margin_69 2 rfl rfl ?_
          refine g_iconst C dX6_margin_70 (v := 2) rfl ?_
          refine g_cV C dX6_margin_71 (met_X6_item C.st hw) (gc_X6_item _ (Nat.le_of_ble_eq_true rfl) (Nat.le_of_ble_eq_true rfl)) tw1197 tw1199 twp38 (ci := 6) rfl (by decide) hk0 rfl (Nat.le_of_ble_eq_true rfl) (c2 := 0) (s2 := 0) rfl rfl (Nat.le_of_ble_eq_true rfl) (Nat.le_of_ble_eq_true rfl) rfl (kIp (fun r_17 hw => ?_)) tNo
          refine g_iadd C dX6_margin_74 ?_
          refine g_cV C dX6_margin_75 (met_X6_of C.st hw) (gc_X6_of _ (Nat.le_of_ble_eq_true rfl) (Nat.le_of_ble_eq_true rfl)) tw1160 tw1162 twp33 (ci := 6) rfl (by decide) hk0 rfl (Nat.le_of_ble_eq_true rfl) (c2 := 0) (s2 := 0) rfl rfl (Nat.le_of_ble_eq_true rfl) (Nat.le_of_ble_eq_true rfl) rfl (kIp (fun r_19 hw => ?_)) tNo
          refine g_goto C dX6_margin_78 (tgt := 87) (by decide) ?_
          exact hJ87 _ hw
      · have hw := hw.2 c40
        refine g_aload_n C dX6_margin_43 0 rfl rfl ?_
        refine g_iconst C dX6_margin_44 (v := 3) rfl ?_
        refine g_cV C dX6_margin_45 (met_X6_fails C.st hw) (gc_X6_fails _ (Nat.le_of_ble_eq_true rfl) (Nat.le_of_ble_eq_true rfl)) tw1131 tw1133 twp28 (ci := 6) rfl (by decide) hk0 rfl (Nat.le_of_ble_eq_true rfl) (c2 := 0) (s2 := 0) rfl rfl (Nat.le_of_ble_eq_true rfl) (Nat.le_of_ble_eq_true rfl) rfl (kI (fun r_21 M_22 hw => ?_)) tNo
        exact g_iret C dX6_margin_48 (Nat.le_of_ble_eq_true rfl) (Nat.le_of_ble_eq_true rfl) ⟨_, rfl, hw⟩
    · have hw := hw.2 c20
      refine g_aload_n C dX6_margin_23 0 rfl rfl ?_
      refine g_iconst C dX6_margin_24 (v := 2) rfl ?_
      refine g_cV C dX6_margin_25 (met_X6_fails C.st hw) (gc_X6_fails _ (Nat.le_of_ble_eq_true rfl) (Nat.le_of_ble_eq_true rfl)) tw1131 tw1133 twp28 (ci := 6) rfl (by decide) hk0 rfl (Nat.le_of_ble_eq_true rfl) (c2 := 0) (s2 := 0) rfl rfl (Nat.le_of_ble_eq_true rfl) (Nat.le_of_ble_eq_true rfl) rfl (kI (fun r_23 M_24 hw => ?_)) tNo
      exact g_iret C dX6_margin_28 (Nat.le_of_ble_eq_true rfl) (Nat.le_of_ble_eq_true rfl) ⟨_, rfl, hw⟩
  · have hw := hw.2 c6
    refine g_aload_n C dX6_margin_9 0 rfl rfl ?_
    refine g_iconst C dX6_margin_10 (v := 1) rfl ?_
    refine g_cV C dX6_margin_11 (met_X6_fails C.st hw) (gc_X6_fails _ (Nat.le_of_ble_eq_true rfl) (Nat.le_of_ble_eq_true rfl)) tw1131 tw1133 twp28 (ci := 6) rfl (by decide) hk0 rfl (Nat.le_of_ble_eq_true rfl) (c2 := 0) (s2 := 0) rfl rfl (Nat.le_of_ble_eq_true rfl) (Nat.le_of_ble_eq_true rfl) rfl (kI (fun r_25 M_26 hw => ?_)) tNo
    exact g_iret C dX6_margin_14 (Nat.le_of_ble_eq_true rfl) (Nat.le_of_ble_eq_true rfl) ⟨_, rfl, hw⟩
theorem gc_X6_margin : ∀ rm : Room, rmX6_margin.frames + 1 ≤ rm.frames → 8 + (4 + 11) + rmX6_margin.locals ≤ rm.locals → gCall yX6_margin 4 2 rmX6_margin rm := fun rm a b => ⟨Or.inl ⟨_, _, tw1324⟩, tw8, ⟨by decide, by decide⟩, by decide, a, b⟩
abbrev rmX6_stratum : Room := { frames := 5, cells := 0, slots := 0, locals := 118 }
def wp_X6_stratum_J110 (o : Nat) (p1 : Int32) (p3 : Int32) (M_13 : MEM) (K68 : Int32 → Int32 → Prop) (x4_14 : Int32) (x5_15 : Int32) : Prop := (2 ≤ p3 → ((4 ≤ p3 → (wp_X6_item o p1 x5_15 3 M_13 (fun r_21 => ∀ x4_23 : Int32, x4_23 = x4_14 + r_21 → (∀ x5_24 : Int32, x5_24 = x5_15 + 1 → (K68 x4_23 x5_24))))) ∧ (¬ 4 ≤ p3 → (wp_X6_item o p1 x5_15 4 M_13 (fun r_25 => ∀ x4_27 : Int32, x4_27 = x4_14 + r_25 → (∀ x5_28 : Int32, x5_28 = x5_15 + 1 → (K68 x4_27 x5_28))))))) ∧ (¬ 2 ≤ p3 → (∀ x4_29 : Int32, x4_29 = x4_14 + 1 → (∀ x5_30 : Int32, x5_30 = x5_15 + 1 → (K68 x4_29 x5_30))))
def wp_X6_stratum_L68 (o : Nat) (p1 : Int32) (p2 : Int32) (p3 : Int32) (Q : Int32 → MEM → Prop) (M_13 : MEM) : Nat → Int32 → Int32 → Prop
  | 0, _, _ => False
  | n68 + 1, x4_14, x5_15 => wp_X6_many o p1 M_13 (fun r_16 => (r_16 ≤ x5_15 → (Q x4_14 M_13)) ∧ (¬ r_16 ≤ x5_15 → (wp_X6_item o p1 x5_15 2 M_13 (fun r_18 => (¬ r_18 = p2 → (∀ x5_20 : Int32, x5_20 = x5_15 + 1 → ((wp_X6_stratum_L68 o p1 p2 p3 Q M_13 n68) x4_14 x5_20))) ∧ (r_18 = p2 → ((¬ (p3 - p3 / 2 * 2) = 1 → (wp_X6_stratum_J110 o p1 p3 M_13 (wp_X6_stratum_L68 o p1 p2 p3 Q M_13 n68) x4_14 x5_15)) ∧ ((p3 - p3 / 2 * 2) = 1 → (KD (RF o 4) = (0, 60) ∧ vp_in x5_15 60 ∧ ((0 ≤ (mI M_13 (RF o 4) x5_15.toNatClampNeg) → (wp_X6_stratum_J110 o p1 p3 M_13 (wp_X6_stratum_L68 o p1 p2 p3 Q M_13 n68) x4_14 x5_15)) ∧ (¬ 0 ≤ (mI M_13 (RF o 4) x5_15.toNatClampNeg) → (∀ x5_33 : Int32, x5_33 = x5_15 + 1 → ((wp_X6_stratum_L68 o p1 p2 p3 Q M_13 n68) x4_14 x5_33))))))))))))
def wp_X6_stratum (o : Nat) (p1 : Int32) (p2 : Int32) (p3 : Int32) (M : MEM) (Q : Int32 → MEM → Prop) : Prop := KD o = (16, 0) ∧ (wp_X6_isSlot p1 M (fun r_1 => (r_1 = 0 → (wp_X6_fails o 1 M (fun r_3 M_4 => Q r_3 M_4))) ∧ (¬ r_1 = 0 → (wp_X6_isStratum p2 M (fun r_5 => (¬ r_5 = 0 → (wp_X6_isBetween p3.toInt64 0 5 M (fun r_7 => (¬ r_7 = 0 → (wp_X6_isThere o p1 M (fun r_9 => (¬ r_9 = 0 → ((∀ M_11 : MEM, M_11 = uI M o 0 0 → (wp_X6_finds o p1 M_11 (fun M_13 => ∃ m68 : Nat, wp_X6_stratum_L68 o p1 p2 p3 Q M_13 m68 0 0))))) ∧ (r_9 = 0 → (wp_X6_fails o 3 M (fun r_34 M_35 => Q r_34 M_35)))))) ∧ (r_7 = 0 → (wp_X6_fails o 2 M (fun r_36 M_37 => Q r_36 M_37)))))) ∧ (r_5 = 0 → (wp_X6_fails o 1 M (fun r_38 M_39 => Q r_38 M_39))))))))
set_option maxRecDepth 100000 in
set_option maxHeartbeats 4000000 in
theorem met_X6_stratum {l : Launch} (hl : l.stackTraces = false) {E : MK} {o : Nat} {p1 : Int32} {p2 : Int32} {p3 : Int32} {M : MEM} {Q : Int32 → MEM → Prop} (hw : wp_X6_stratum o p1 p2 p3 M Q) : gMet l E yX6_stratum rmX6_stratum [gR E o, .int p1, .int p2, .int p3] M (qI Q) gNo := by
  obtain ⟨hk0, hw⟩ := hw
  refine g_met hl (cc := cX6_stratum) (maxL := 6) (ret := (some .int)) (hh := []) (loc := [(0, gR E o), (1, .int p1), (2, .int p2), (3, .int p3)]) (by decide +kernel) (Or.inl ⟨tw1328, rfl⟩) (Nat.le_of_ble_eq_true rfl) rfl (fun K hK C => ?_)
  have C : GC K E cX6_stratum RX6 6 (some .int) [] rmX6_stratum := C
  refine g_iload_n C dX6_stratum_0 1 rfl rfl ?_
  refine g_cS C dX6_stratum_1 (met_X6_isSlot C.st hw) (gc_X6_isSlot _ (Nat.le_of_ble_eq_true rfl) (Nat.le_of_ble_eq_true rfl)) (Or.inl tw1128) tw1129 rfl (Nat.le_of_ble_eq_true rfl) (c2 := 0) (s2 := 0) rfl rfl (Nat.le_of_ble_eq_true rfl) (Nat.le_of_ble_eq_true rfl) rfl (kIp (fun r_1 hw => ?_)) tNo
  refine g_if_eq C dX6_stratum_4 (tgt := 14) (by decide) (fun c4 => ?_) (fun c4 => ?_)
  · have hw := hw.1 c4
    refine g_aload_n C dX6_stratum_14 0 rfl rfl ?_
    refine g_iconst C dX6_stratum_15 (v := 1) rfl ?_
    refine g_cV C dX6_stratum_16 (met_X6_fails C.st hw) (gc_X6_fails _ (Nat.le_of_ble_eq_true rfl) (Nat.le_of_ble_eq_true rfl)) tw1131 tw1133 twp28 (ci := 6) rfl (by decide) hk0 rfl (Nat.le_of_ble_eq_true rfl) (c2 := 0) (s2 := 0) rfl rfl (Nat.le_of_ble_eq_true rfl) (Nat.le_of_ble_eq_true rfl) rfl (kI (fun r_3 M_4 hw => ?_)) tNo
    exact g_iret C dX6_stratum_19 (Nat.le_of_ble_eq_true rfl) (Nat.le_of_ble_eq_true rfl) ⟨_, rfl, hw⟩
  · have hw := hw.2 c4
    refine g_iload_n C dX6_stratum_7 2 rfl rfl ?_
    refine g_cS C dX6_stratum_8 (met_X6_isStratum C.st hw) (gc_X6_isStratum _ (Nat.le_of_ble_eq_true rfl) (Nat.le_of_ble_eq_true rfl)) (Or.inl tw1184) tw1185 rfl (Nat.le_of_ble_eq_true rfl) (c2 := 0) (s2 := 0) rfl rfl (Nat.le_of_ble_eq_true rfl) (Nat.le_of_ble_eq_true rfl) rfl (kIp (fun r_5 hw => ?_)) tNo
    refine g_if_ne C dX6_stratum_11 (tgt := 20) (by decide) (fun c11 => ?_) (fun c11 => ?_)
    · have hw := hw.1 c11
      refine g_iload_n C dX6_stratum_20 3 rfl rfl ?_
      refine g_i2l C dX6_stratum_21 ?_
      refine g_lconst C dX6_stratum_22 (v := 0) rfl ?_
      refine g_ldc2 C dX6_stratum_23 tw1295 ?_
      refine g_cS C dX6_stratum_26 (met_X6_isBetween C.st hw) (gc_X6_isBetween _ (Nat.le_of_ble_eq_true rfl) (Nat.le_of_ble_eq_true rfl)) (Or.inl tw1139) tw1140 rfl (Nat.le_of_ble_eq_true rfl) (c2 := 0) (s2 := 0) rfl rfl (Nat.le_of_ble_eq_true rfl) (Nat.le_of_ble_eq_true rfl) rfl (kIp (fun r_7 hw => ?_)) tNo
      refine g_if_ne C dX6_stratum_29 (tgt := 38) (by decide) (fun c29 => ?_) (fun c29 => ?_)
      · have hw := hw.1 c29
        refine g_aload_n C dX6_stratum_38 0 rfl rfl ?_
        refine g_iload_n C dX6_stratum_39 1 rfl rfl ?_
        refine g_cV C dX6_stratum_40 (met_X6_isThere C.st hw) (gc_X6_isThere _ (Nat.le_of_ble_eq_true rfl) (Nat.le_of_ble_eq_true rfl)) tw1152 tw1154 twp31 (ci := 6) rfl (by decide) hk0 rfl (Nat.le_of_ble_eq_true rfl) (c2 := 0) (s2 := 0) rfl rfl (Nat.le_of_ble_eq_true rfl) (Nat.le_of_ble_eq_true rfl) rfl (kIp (fun r_9 hw => ?_)) tNo
        refine g_if_ne C dX6_stratum_43 (tgt := 52) (by decide) (fun c43 => ?_) (fun c43 => ?_)
        · have hw := hw.1 c43
          refine g_aload_n C dX6_stratum_52 0 rfl rfl ?_
          refine g_iconst C dX6_stratum_53 (v := 0) rfl ?_
          refine pf_RX6_57 C hk0 dX6_stratum_54 ?_
          refine g_nmM (fun M_11 eM_11 => ?_)
          have hw := hw M_11 eM_11
          refine g_aload_n C dX6_stratum_57 0 rfl rfl ?_
          refine g_iload_n C dX6_stratum_58 1 rfl rfl ?_
          refine g_cV C dX6_stratum_59 (met_X6_finds C.st hw) (gc_X6_finds _ (Nat.le_of_ble_eq_true rfl) (Nat.le_of_ble_eq_true rfl)) tw1216 tw1218 twp40 (ci := 6) rfl (by decide) hk0 rfl (Nat.le_of_ble_eq_true rfl) (c2 := 0) (s2 := 0) rfl rfl (Nat.le_of_ble_eq_true rfl) (Nat.le_of_ble_eq_true rfl) rfl (kV (fun M_13 hw => ?_)) tNo
          refine g_iconst C dX6_stratum_62 (v := 0) rfl ?_
          refine g_istore C dX6_stratum_63 (Nat.le_of_ble_eq_true rfl) (loc' := [(4, .int 0), (0, gR E o), (1, .int p1), (2, .int p2), (3, .int p3)]) rfl ?_
          refine g_iconst C dX6_stratum_65 (v := 0) rfl ?_
          refine g_istore C dX6_stratum_66 (Nat.le_of_ble_eq_true rfl) (loc' := [(5, .int 0), (4, .int 0), (0, gR E o), (1, .int p1), (2, .int p2), (3, .int p3)]) rfl ?_
          obtain ⟨m68, hw⟩ := hw
          have hL68 : ∀ (n68 : Nat) (x4_14 : Int32) (x5_15 : Int32), wp_X6_stratum_L68 o p1 p2 p3 Q M_13 n68 x4_14 x5_15 → GX K E 6 M_13 [(0, gR E o), (1, .int p1), (2, .int p2), (3, .int p3), (4, .int x4_14), (5, .int x5_15)] [] 68 0 0 (gEnd K E (qI Q) gNo rmX6_stratum.cells rmX6_stratum.slots) := by
            intro n68
            induction n68 with
            | zero => intro _ _ hw; exact False.elim hw
            | succ n68 ih68 =>
              intro x4_14 x5_15 hw
              refine g_iload C (j := 0) dX6_stratum_68 5 rfl ?_
              refine g_aload_n C dX6_stratum_70 0 rfl rfl ?_
              refine g_iload_n C dX6_stratum_71 1 rfl rfl ?_
              refine g_cV C dX6_stratum_72 (met_X6_many C.st hw) (gc_X6_many _ (Nat.le_of_ble_eq_true rfl) (Nat.le_of_ble_eq_true rfl)) tw1156 tw1158 twp32 (ci := 6) rfl (by decide) hk0 rfl (Nat.le_of_ble_eq_true rfl) (c2 := 0) (s2 := 0) rfl rfl (Nat.le_of_ble_eq_true rfl) (Nat.le_of_ble_eq_true rfl) rfl (kIp (fun r_16 hw => ?_)) tNo
              refine g_icmp_ge C dX6_stratum_75 (tgt := 154) (by decide) (fun c75 => ?_) (fun c75 => ?_)
              · have hw := hw.1 c75
                refine g_iload C (j := 0) dX6_stratum_154 4 rfl ?_
                exact g_iret C dX6_stratum_156 (Nat.le_of_ble_eq_true rfl) (Nat.le_of_ble_eq_true rfl) ⟨_, rfl, hw⟩
              · have hw := hw.2 c75
                refine g_aload_n C dX6_stratum_78 0 rfl rfl ?_
                refine g_iload_n C dX6_stratum_79 1 rfl rfl ?_
                refine g_iload C (j := 0) dX6_stratum_80 5 rfl ?_
                refine g_iconst C dX6_stratum_82 (v := 2) rfl ?_
                refine g_cV C dX6_stratum_83 (met_X6_item C.st hw) (gc_X6_item _ (Nat.le_of_ble_eq_true rfl) (Nat.le_of_ble_eq_true rfl)) tw1197 tw1199 twp38 (ci := 6) rfl (by decide) hk0 rfl (Nat.le_of_ble_eq_true rfl) (c2 := 0) (s2 := 0) rfl rfl (Nat.le_of_ble_eq_true rfl) (Nat.le_of_ble_eq_true rfl) rfl (kIp (fun r_18 hw => ?_)) tNo
                refine g_iload_n C dX6_stratum_86 2 rfl rfl ?_
                refine g_icmp_ne C dX6_stratum_87 (tgt := 148) (by decide) (fun c87 => ?_) (fun c87 => ?_)
                · have hw := hw.1 c87
                  obtain ⟨x5_20, ex5_20⟩ : ∃ y : Int32, y = x5_15 + 1 := ⟨_, rfl⟩
                  have hw := hw x5_20 ex5_20
                  refine g_iinc C (j := 0) dX6_stratum_148 5 rfl (v := x5_20) (by rw [ex5_20]; rfl) (Nat.le_of_ble_eq_true rfl) (loc' := [(5, .int x5_20), (0, gR E o), (1, .int p1), (2, .int p2), (3, .int p3), (4, .int x4_14)]) rfl ?_
                  refine g_goto C dX6_stratum_151 (tgt := 68) (by decide) ?_
                  refine g_sub [1, 2, 3, 4, 5, 0] rfl ?_
                  exact ih68 _ _ hw
                · have hw := hw.2 c87
                  refine g_iload_n C dX6_stratum_90 3 rfl rfl ?_
                  refine g_iconst C dX6_stratum_91 (v := 2) rfl ?_
                  refine g_irem C dX6_stratum_92 (by decide) ?_
                  refine g_iconst C dX6_stratum_93 (v := 1) rfl ?_
                  have hJ110 : wp_X6_stratum_J110 o p1 p3 M_13 (wp_X6_stratum_L68 o p1 p2 p3 Q M_13 n68) x4_14 x5_15 → GX K E 6 M_13 [(0, gR E o), (1, .int p1), (2, .int p2), (3, .int p3), (4, .int x4_14), (5, .int x5_15)] [] 110 0 0 (gEnd K E (qI Q) gNo rmX6_stratum.cells rmX6_stratum.slots) := by
                    intro hw
                    refine g_iload C (j := 0) dX6_stratum_110 4 rfl ?_
                    refine g_iload_n C dX6_stratum_112 3 rfl rfl ?_
                    refine g_iconst C dX6_stratum_113 (v := 2) rfl ?_
                    refine g_icmp_ge C dX6_stratum_114 (tgt := 121) (by decide) (fun c114 => ?_) (fun c114 => ?_)
                    · have hw := hw.1 c114
                      refine g_iload_n C dX6_stratum_121 3 rfl rfl ?_
                      refine g_iconst C dX6_stratum_122 (v := 4) rfl ?_
                      refine g_icmp_ge C dX6_stratum_123 (tgt := 137) (by decide) (fun c123 => ?_) (fun c123 => ?_)
                      · have hw := hw.1 c123
                        refine g_aload_n C dX6_stratum_137 0 rfl rfl ?_
                        refine g_iload_n C dX6_stratum_138 1 rfl rfl ?_
                        refine g_iload C (j := 0) dX6_stratum_139 5 rfl ?_
                        refine g_iconst C dX6_stratum_141 (v := 3) rfl ?_
                        refine g_cV C dX6_stratum_142 (met_X6_item C.st hw) (gc_X6_item _ (Nat.le_of_ble_eq_true rfl) (Nat.le_of_ble_eq_true rfl)) tw1197 tw1199 twp38 (ci := 6) rfl (by decide) hk0 rfl (Nat.le_of_ble_eq_true rfl) (c2 := 0) (s2 := 0) rfl rfl (Nat.le_of_ble_eq_true rfl) (Nat.le_of_ble_eq_true rfl) rfl (kIp (fun r_21 hw => ?_)) tNo
                        refine g_iadd C dX6_stratum_145 ?_
                        refine g_nmI (fun x4_23 ex4_23 => ?_)
                        have hw := hw x4_23 ex4_23
                        refine g_istore C dX6_stratum_146 (Nat.le_of_ble_eq_true rfl) (loc' := [(4, .int x4_23), (0, gR E o), (1, .int p1), (2, .int p2), (3, .int p3), (5, .int x5_15)]) rfl ?_
                        obtain ⟨x5_24, ex5_24⟩ : ∃ y : Int32, y = x5_15 + 1 := ⟨_, rfl⟩
                        have hw := hw x5_24 ex5_24
                        refine g_iinc C (j := 0) dX6_stratum_148 5 rfl (v := x5_24) (by rw [ex5_24]; rfl) (Nat.le_of_ble_eq_true rfl) (loc' := [(5, .int x5_24), (4, .int x4_23), (0, gR E o), (1, .int p1), (2, .int p2), (3, .int p3)]) rfl ?_
                        refine g_goto C dX6_stratum_151 (tgt := 68) (by decide) ?_
                        refine g_sub [2, 3, 4, 5, 1, 0] rfl ?_
                        exact ih68 _ _ hw
                      · have hw := hw.2 c123
                        refine g_aload_n C dX6_stratum_126 0 rfl rfl ?_
                        refine g_iload_n C dX6_stratum_127 1 rfl rfl ?_
                        refine g_iload C (j := 0) dX6_stratum_128 5 rfl ?_
                        refine g_iconst C dX6_stratum_130 (v := 4) rfl ?_
                        refine g_cV C dX6_stratum_131 (met_X6_item C.st hw) (gc_X6_item _ (Nat.le_of_ble_eq_true rfl) (Nat.le_of_ble_eq_true rfl)) tw1197 tw1199 twp38 (ci := 6) rfl (by decide) hk0 rfl (Nat.le_of_ble_eq_true rfl) (c2 := 0) (s2 := 0) rfl rfl (Nat.le_of_ble_eq_true rfl) (Nat.le_of_ble_eq_true rfl) rfl (kIp (fun r_25 hw => ?_)) tNo
                        refine g_goto C dX6_stratum_134 (tgt := 145) (by decide) ?_
                        refine g_iadd C dX6_stratum_145 ?_
                        refine g_nmI (fun x4_27 ex4_27 => ?_)
                        have hw := hw x4_27 ex4_27
                        refine g_istore C dX6_stratum_146 (Nat.le_of_ble_eq_true rfl) (loc' := [(4, .int x4_27), (0, gR E o), (1, .int p1), (2, .int p2), (3, .int p3), (5, .int x5_15)]) rfl ?_
                        obtain ⟨x5_28, ex5_28⟩ : ∃ y : Int32, y = x5_15 + 1 := ⟨_, rfl⟩
                        have hw := hw x5_28 ex5_28
                        refine g_iinc C (j := 0) dX6_stratum_148 5 rfl (v := x5_28) (by rw [ex5_28]; rfl) (Nat.le_of_ble_eq_true rfl) (loc' := [(5, .int x5_28), (4, .int x4_27), (0, gR E o), (1, .int p1), (2, .int p2), (3, .int p3)]) rfl ?_
                        refine g_goto C dX6_stratum_151 (tgt := 68) (by decide) ?_
                        refine g_sub [2, 3, 4, 5, 1, 0] rfl ?_
                        exact ih68 _ _ hw
                    · have hw := hw.2 c114
                      refine g_iconst C dX6_stratum_117 (v := 1) rfl ?_
                      refine g_goto C dX6_stratum_118 (tgt := 145) (by decide) ?_
                      refine g_iadd C dX6_stratum_145 ?_
                      refine g_nmI (fun x4_29 ex4_29 => ?_)
                      have hw := hw x4_29 ex4_29
                      refine g_istore C dX6_stratum_146 (Nat.le_of_ble_eq_true rfl) (loc' := [(4, .int x4_29), (0, gR E o), (1, .int p1), (2, .int p2), (3, .int p3), (5, .int x5_15)]) rfl ?_
                      obtain ⟨x5_30, ex5_30⟩ : ∃ y : Int32, y = x5_15 + 1 := ⟨_, rfl⟩
                      have hw := hw x5_30 ex5_30
                      refine g_iinc C (j := 0) dX6_stratum_148 5 rfl (v := x5_30) (by rw [ex5_30]; rfl) (Nat.le_of_ble_eq_true rfl) (loc' := [(5, .int x5_30), (4, .int x4_29), (0, gR E o), (1, .int p1), (2, .int p2), (3, .int p3)]) rfl ?_
                      refine g_goto C dX6_stratum_151 (tgt := 68) (by decide) ?_
                      refine g_sub [2, 3, 4, 5, 1, 0] rfl ?_
                      exact ih68 _ _ hw
                  refine g_icmp_ne C dX6_stratum_94 (tgt := 110) (by decide) (fun c94 => ?_) (fun c94 => ?_)
                  · have hw := hw.1 c94
                    exact hJ110 hw
                  · have hw := hw.2 c94
                    refine g_aload_n C dX6_stratum_97 0 rfl rfl ?_
                    refine gf_RX6_19 C hk0 dX6_stratum_98 ?_
                    refine g_iload C (j := 0) dX6_stratum_101 5 rfl ?_
                    obtain ⟨hk_31, hw⟩ := hw
                    obtain ⟨hi_32, hw⟩ := hw
                    refine g_iaload C hk_31 hi_32 dX6_stratum_103 ?_
                    refine g_if_ge C dX6_stratum_104 (tgt := 110) (by decide) (fun c104 => ?_) (fun c104 => ?_)
                    · have hw := hw.1 c104
                      exact hJ110 hw
                    · have hw := hw.2 c104
                      refine g_goto C dX6_stratum_107 (tgt := 148) (by decide) ?_
                      obtain ⟨x5_33, ex5_33⟩ : ∃ y : Int32, y = x5_15 + 1 := ⟨_, rfl⟩
                      have hw := hw x5_33 ex5_33
                      refine g_iinc C (j := 0) dX6_stratum_148 5 rfl (v := x5_33) (by rw [ex5_33]; rfl) (Nat.le_of_ble_eq_true rfl) (loc' := [(5, .int x5_33), (0, gR E o), (1, .int p1), (2, .int p2), (3, .int p3), (4, .int x4_14)]) rfl ?_
                      refine g_goto C dX6_stratum_151 (tgt := 68) (by decide) ?_
                      refine g_sub [1, 2, 3, 4, 5, 0] rfl ?_
                      exact ih68 _ _ hw
          refine g_sub [2, 3, 4, 5, 1, 0] rfl ?_
          exact hL68 m68 _ _ hw
        · have hw := hw.2 c43
          refine g_aload_n C dX6_stratum_46 0 rfl rfl ?_
          refine g_iconst C dX6_stratum_47 (v := 3) rfl ?_
          refine g_cV C dX6_stratum_48 (met_X6_fails C.st hw) (gc_X6_fails _ (Nat.le_of_ble_eq_true rfl) (Nat.le_of_ble_eq_true rfl)) tw1131 tw1133 twp28 (ci := 6) rfl (by decide) hk0 rfl (Nat.le_of_ble_eq_true rfl) (c2 := 0) (s2 := 0) rfl rfl (Nat.le_of_ble_eq_true rfl) (Nat.le_of_ble_eq_true rfl) rfl (kI (fun r_34 M_35 hw => ?_)) tNo
          exact g_iret C dX6_stratum_51 (Nat.le_of_ble_eq_true rfl) (Nat.le_of_ble_eq_true rfl) ⟨_, rfl, hw⟩
      · have hw := hw.2 c29
        refine g_aload_n C dX6_stratum_32 0 rfl rfl ?_
        refine g_iconst C dX6_stratum_33 (v := 2) rfl ?_
        refine g_cV C dX6_stratum_34 (met_X6_fails C.st hw) (gc_X6_fails _ (Nat.le_of_ble_eq_true rfl) (Nat.le_of_ble_eq_true rfl)) tw1131 tw1133 twp28 (ci := 6) rfl (by decide) hk0 rfl (Nat.le_of_ble_eq_true rfl) (c2 := 0) (s2 := 0) rfl rfl (Nat.le_of_ble_eq_true rfl) (Nat.le_of_ble_eq_true rfl) rfl (kI (fun r_36 M_37 hw => ?_)) tNo
        exact g_iret C dX6_stratum_37 (Nat.le_of_ble_eq_true rfl) (Nat.le_of_ble_eq_true rfl) ⟨_, rfl, hw⟩
    · have hw := hw.2 c11
      refine g_aload_n C dX6_stratum_14 0 rfl rfl ?_
      refine g_iconst C dX6_stratum_15 (v := 1) rfl ?_
      refine g_cV C dX6_stratum_16 (met_X6_fails C.st hw) (gc_X6_fails _ (Nat.le_of_ble_eq_true rfl) (Nat.le_of_ble_eq_true rfl)) tw1131 tw1133 twp28 (ci := 6) rfl (by decide) hk0 rfl (Nat.le_of_ble_eq_true rfl) (c2 := 0) (s2 := 0) rfl rfl (Nat.le_of_ble_eq_true rfl) (Nat.le_of_ble_eq_true rfl) rfl (kI (fun r_38 M_39 hw => ?_)) tNo
      exact g_iret C dX6_stratum_19 (Nat.le_of_ble_eq_true rfl) (Nat.le_of_ble_eq_true rfl) ⟨_, rfl, hw⟩
theorem gc_X6_stratum : ∀ rm : Room, rmX6_stratum.frames + 1 ≤ rm.frames → 8 + (6 + 11) + rmX6_stratum.locals ≤ rm.locals → gCall yX6_stratum 6 3 rmX6_stratum rm := fun rm a b => ⟨Or.inl ⟨_, _, tw1328⟩, tw8, ⟨by decide, by decide⟩, by decide, a, b⟩
abbrev rmX6_numberOf : Room := { frames := 1, cells := 0, slots := 0, locals := 25 }
def wp_X6_numberOf (o : Nat) (p1 : Int32) (p2 : Int32) (M : MEM) (Q : Int64 → Prop) : Prop := KD o = (16, 0) ∧ (wp_X6_item o p1 p2 1 M (fun r_1 => wp_X6_isBetween r_1.toInt64 ((mI M o 11 : Int32).toInt64) ((mI M o 12 : Int32).toInt64) M (fun r_3 => (r_3 = 0 → (Q 0)) ∧ (¬ r_3 = 0 → (((mI M o 13) = 0 → (wp_X6_item o p1 p2 4 M (fun r_5 => Q r_5.toInt64))) ∧ (¬ (mI M o 13) = 0 → (wp_X6_item o p1 p2 3 M (fun r_7 => Q r_7.toInt64))))))))
set_option maxRecDepth 100000 in
set_option maxHeartbeats 4000000 in
theorem met_X6_numberOf {l : Launch} (hl : l.stackTraces = false) {E : MK} {o : Nat} {p1 : Int32} {p2 : Int32} {M : MEM} {Q : Int64 → Prop} (hw : wp_X6_numberOf o p1 p2 M Q) : gMet l E yX6_numberOf rmX6_numberOf [gR E o, .int p1, .int p2] M (qLp M Q) gNo := by
  obtain ⟨hk0, hw⟩ := hw
  refine g_met hl (cc := cX6_numberOf) (maxL := 3) (ret := (some .long)) (hh := []) (loc := [(0, gR E o), (1, .int p1), (2, .int p2)]) (by decide +kernel) (Or.inl ⟨tw1348, rfl⟩) (Nat.le_of_ble_eq_true rfl) rfl (fun K hK C => ?_)
  have C : GC K E cX6_numberOf RX6 3 (some .long) [] rmX6_numberOf := C
  refine g_aload_n C dX6_numberOf_0 0 rfl rfl ?_
  refine g_iload_n C dX6_numberOf_1 1 rfl rfl ?_
  refine g_iload_n C dX6_numberOf_2 2 rfl rfl ?_
  refine g_iconst C dX6_numberOf_3 (v := 1) rfl ?_
  refine g_cV C dX6_numberOf_4 (met_X6_item C.st hw) (gc_X6_item _ (Nat.le_of_ble_eq_true rfl) (Nat.le_of_ble_eq_true rfl)) tw1197 tw1199 twp38 (ci := 6) rfl (by decide) hk0 rfl (Nat.le_of_ble_eq_true rfl) (c2 := 0) (s2 := 0) rfl rfl (Nat.le_of_ble_eq_true rfl) (Nat.le_of_ble_eq_true rfl) rfl (kIp (fun r_1 hw => ?_)) tNo
  refine g_i2l C dX6_numberOf_7 ?_
  refine g_aload_n C dX6_numberOf_8 0 rfl rfl ?_
  refine gf_RX6_205 C hk0 dX6_numberOf_9 ?_
  refine g_i2l C dX6_numberOf_12 ?_
  refine g_aload_n C dX6_numberOf_13 0 rfl rfl ?_
  refine gf_RX6_208 C hk0 dX6_numberOf_14 ?_
  refine g_i2l C dX6_numberOf_17 ?_
  refine g_cS C dX6_numberOf_18 (met_X6_isBetween C.st hw) (gc_X6_isBetween _ (Nat.le_of_ble_eq_true rfl) (Nat.le_of_ble_eq_true rfl)) (Or.inl tw1139) tw1140 rfl (Nat.le_of_ble_eq_true rfl) (c2 := 0) (s2 := 0) rfl rfl (Nat.le_of_ble_eq_true rfl) (Nat.le_of_ble_eq_true rfl) rfl (kIp (fun r_3 hw => ?_)) tNo
  refine g_if_eq C dX6_numberOf_21 (tgt := 46) (by decide) (fun c21 => ?_) (fun c21 => ?_)
  · have hw := hw.1 c21
    refine g_lconst C dX6_numberOf_46 (v := 0) rfl ?_
    exact g_lret C dX6_numberOf_47 (Nat.le_of_ble_eq_true rfl) (Nat.le_of_ble_eq_true rfl) ⟨_, rfl, rfl, hw⟩
  · have hw := hw.2 c21
    refine g_aload_n C dX6_numberOf_24 0 rfl rfl ?_
    refine g_iload_n C dX6_numberOf_25 1 rfl rfl ?_
    refine g_iload_n C dX6_numberOf_26 2 rfl rfl ?_
    refine g_aload_n C dX6_numberOf_27 0 rfl rfl ?_
    refine gf_RX6_211 C hk0 dX6_numberOf_28 ?_
    refine g_if_eq C dX6_numberOf_31 (tgt := 38) (by decide) (fun c31 => ?_) (fun c31 => ?_)
    · have hw := hw.1 c31
      refine g_iconst C dX6_numberOf_38 (v := 4) rfl ?_
      refine g_cV C dX6_numberOf_39 (met_X6_item C.st hw) (gc_X6_item _ (Nat.le_of_ble_eq_true rfl) (Nat.le_of_ble_eq_true rfl)) tw1197 tw1199 twp38 (ci := 6) rfl (by decide) hk0 rfl (Nat.le_of_ble_eq_true rfl) (c2 := 0) (s2 := 0) rfl rfl (Nat.le_of_ble_eq_true rfl) (Nat.le_of_ble_eq_true rfl) rfl (kIp (fun r_5 hw => ?_)) tNo
      refine g_i2l C dX6_numberOf_42 ?_
      refine g_goto C dX6_numberOf_43 (tgt := 47) (by decide) ?_
      exact g_lret C dX6_numberOf_47 (Nat.le_of_ble_eq_true rfl) (Nat.le_of_ble_eq_true rfl) ⟨_, rfl, rfl, hw⟩
    · have hw := hw.2 c31
      refine g_iconst C dX6_numberOf_34 (v := 3) rfl ?_
      refine g_goto C dX6_numberOf_35 (tgt := 39) (by decide) ?_
      refine g_cV C dX6_numberOf_39 (met_X6_item C.st hw) (gc_X6_item _ (Nat.le_of_ble_eq_true rfl) (Nat.le_of_ble_eq_true rfl)) tw1197 tw1199 twp38 (ci := 6) rfl (by decide) hk0 rfl (Nat.le_of_ble_eq_true rfl) (c2 := 0) (s2 := 0) rfl rfl (Nat.le_of_ble_eq_true rfl) (Nat.le_of_ble_eq_true rfl) rfl (kIp (fun r_7 hw => ?_)) tNo
      refine g_i2l C dX6_numberOf_42 ?_
      refine g_goto C dX6_numberOf_43 (tgt := 47) (by decide) ?_
      exact g_lret C dX6_numberOf_47 (Nat.le_of_ble_eq_true rfl) (Nat.le_of_ble_eq_true rfl) ⟨_, rfl, rfl, hw⟩
theorem gc_X6_numberOf : ∀ rm : Room, rmX6_numberOf.frames + 1 ≤ rm.frames → 8 + (3 + 11) + rmX6_numberOf.locals ≤ rm.locals → gCall yX6_numberOf 3 2 rmX6_numberOf rm := fun rm a b => ⟨Or.inl ⟨_, _, tw1348⟩, tw8, ⟨by decide, by decide⟩, by decide, a, b⟩
abbrev rmX6_rounded : Room := { frames := 1, cells := 0, slots := 0, locals := 25 }
def wp_X6_rounded (p1 : Int64) (p2 : Int64) (M : MEM) (Q : Int64 → Prop) : Prop := wp_J9_floorDiv_f86c9 ((2 * p1) + p2) (2 * p2) M (fun r_1 => Q r_1)
set_option maxRecDepth 100000 in
set_option maxHeartbeats 4000000 in
theorem met_X6_rounded {l : Launch} (hl : l.stackTraces = false) {E : MK} {p1 : Int64} {p2 : Int64} {M : MEM} {Q : Int64 → Prop} (hw : wp_X6_rounded p1 p2 M Q) : gMet l E yX6_rounded rmX6_rounded [.long p1, .long p2] M (qLp M Q) gNo := by
  refine g_met hl (cc := cX6_rounded) (maxL := 4) (ret := (some .long)) (hh := []) (loc := [(0, .long p1), (2, .long p2)]) (by decide +kernel) (Or.inl ⟨tw1351, rfl⟩) (Nat.le_of_ble_eq_true rfl) rfl (fun K hK C => ?_)
  have C : GC K E cX6_rounded RX6 4 (some .long) [] rmX6_rounded := C
  refine g_ldc2 C dX6_rounded_0 tw1352 ?_
  refine g_lload_n C dX6_rounded_3 0 rfl rfl ?_
  refine g_lmul C dX6_rounded_4 ?_
  refine g_lload_n C dX6_rounded_5 1 rfl rfl ?_
  refine g_ladd C dX6_rounded_6 ?_
  refine g_ldc2 C dX6_rounded_7 tw1352 ?_
  refine g_lload_n C dX6_rounded_10 1 rfl rfl ?_
  refine g_lmul C dX6_rounded_11 ?_
  refine g_cS C dX6_rounded_12 (met_J9_floorDiv_f86c9 C.st hw) (gc_J9_floorDiv_f86c9 _ (Nat.le_of_ble_eq_true rfl) (Nat.le_of_ble_eq_true rfl)) (Or.inl tw1353) tw782 rfl (Nat.le_of_ble_eq_true rfl) (c2 := 0) (s2 := 0) rfl rfl (Nat.le_of_ble_eq_true rfl) (Nat.le_of_ble_eq_true rfl) rfl (kLp (fun r_1 hw => ?_)) tNo
  exact g_lret C dX6_rounded_15 (Nat.le_of_ble_eq_true rfl) (Nat.le_of_ble_eq_true rfl) ⟨_, rfl, rfl, hw⟩
theorem gc_X6_rounded : ∀ rm : Room, rmX6_rounded.frames + 1 ≤ rm.frames → 8 + (4 + 11) + rmX6_rounded.locals ≤ rm.locals → gCall yX6_rounded 4 2 rmX6_rounded rm := fun rm a b => ⟨Or.inl ⟨_, _, tw1351⟩, tw8, ⟨by decide, by decide⟩, by decide, a, b⟩
abbrev rmX6_countOf : Room := { frames := 2, cells := 0, slots := 0, locals := 48 }
def wp_X6_countOf (o : Nat) (p1 : Int32) (M : MEM) (Q : Int64 → Prop) : Prop := KD o = (16, 0) ∧ (wp_X6_of o p1 1 M (fun r_1 => (r_1 = 3 → (wp_X6_isComplete o M (fun r_3 => (r_3 = 0 → (KD (RF o 2) = (0, 60) ∧ vp_in (mI M o 6) 60 ∧ (wp_X6_mixAt o p1 (mI M (RF o 2) (mI M o 6).toNatClampNeg) M (fun r_7 => wp_X6_rounded (((mI M o 6 : Int32).toInt64) * 2147483648) r_7 M (fun r_9 => Q r_9))))) ∧ (¬ r_3 = 0 → (Q ((mI M o 6 : Int32).toInt64)))))) ∧ (¬ r_1 = 3 → (wp_X6_many o p1 M (fun r_11 => Q r_11.toInt64)))))
set_option maxRecDepth 100000 in
set_option maxHeartbeats 4000000 in
theorem met_X6_countOf {l : Launch} (hl : l.stackTraces = false) {E : MK} {o : Nat} {p1 : Int32} {M : MEM} {Q : Int64 → Prop} (hw : wp_X6_countOf o p1 M Q) : gMet l E yX6_countOf rmX6_countOf [gR E o, .int p1] M (qLp M Q) gNo := by
  obtain ⟨hk0, hw⟩ := hw
  refine g_met hl (cc := cX6_countOf) (maxL := 2) (ret := (some .long)) (hh := []) (loc := [(0, gR E o), (1, .int p1)]) (by decide +kernel) (Or.inl ⟨tw1366, rfl⟩) (Nat.le_of_ble_eq_true rfl) rfl (fun K hK C => ?_)
  have C : GC K E cX6_countOf RX6 2 (some .long) [] rmX6_countOf := C
  refine g_aload_n C dX6_countOf_0 0 rfl rfl ?_
  refine g_iload_n C dX6_countOf_1 1 rfl rfl ?_
  refine g_iconst C dX6_countOf_2 (v := 1) rfl ?_
  refine g_cV C dX6_countOf_3 (met_X6_of C.st hw) (gc_X6_of _ (Nat.le_of_ble_eq_true rfl) (Nat.le_of_ble_eq_true rfl)) tw1160 tw1162 twp33 (ci := 6) rfl (by decide) hk0 rfl (Nat.le_of_ble_eq_true rfl) (c2 := 0) (s2 := 0) rfl rfl (Nat.le_of_ble_eq_true rfl) (Nat.le_of_ble_eq_true rfl) rfl (kIp (fun r_1 hw => ?_)) tNo
  refine g_iconst C dX6_countOf_6 (v := 3) rfl ?_
  refine g_icmp_eq C dX6_countOf_7 (tgt := 17) (by decide) (fun c7 => ?_) (fun c7 => ?_)
  · have hw := hw.1 c7
    refine g_aload_n C dX6_countOf_17 0 rfl rfl ?_
    refine g_cV C dX6_countOf_18 (met_X6_isComplete C.st hw) (gc_X6_isComplete _ (Nat.le_of_ble_eq_true rfl) (Nat.le_of_ble_eq_true rfl)) tw1247 tw1249 twp46 (ci := 6) rfl (by decide) hk0 rfl (Nat.le_of_ble_eq_true rfl) (c2 := 0) (s2 := 0) rfl rfl (Nat.le_of_ble_eq_true rfl) (Nat.le_of_ble_eq_true rfl) rfl (kIp (fun r_3 hw => ?_)) tNo
    refine g_if_eq C dX6_countOf_21 (tgt := 32) (by decide) (fun c21 => ?_) (fun c21 => ?_)
    · have hw := hw.1 c21
      refine g_aload_n C dX6_countOf_32 0 rfl rfl ?_
      refine gf_RX6_160 C hk0 dX6_countOf_33 ?_
      refine g_i2l C dX6_countOf_36 ?_
      refine g_ldc2 C dX6_countOf_37 tw1358 ?_
      refine g_lmul C dX6_countOf_40 ?_
      refine g_aload_n C dX6_countOf_41 0 rfl rfl ?_
      refine g_iload_n C dX6_countOf_42 1 rfl rfl ?_
      refine g_aload_n C dX6_countOf_43 0 rfl rfl ?_
      refine gf_RX6_13 C hk0 dX6_countOf_44 ?_
      refine g_aload_n C dX6_countOf_47 0 rfl rfl ?_
      refine gf_RX6_160 C hk0 dX6_countOf_48 ?_
      obtain ⟨hk_5, hw⟩ := hw
      obtain ⟨hi_6, hw⟩ := hw
      refine g_iaload C hk_5 hi_6 dX6_countOf_51 ?_
      refine g_cV C dX6_countOf_52 (met_X6_mixAt C.st hw) (gc_X6_mixAt _ (Nat.le_of_ble_eq_true rfl) (Nat.le_of_ble_eq_true rfl)) tw1232 tw1234 twp44 (ci := 6) rfl (by decide) hk0 rfl (Nat.le_of_ble_eq_true rfl) (c2 := 0) (s2 := 0) rfl rfl (Nat.le_of_ble_eq_true rfl) (Nat.le_of_ble_eq_true rfl) rfl (kLp (fun r_7 hw => ?_)) tNo
      refine g_cS C dX6_countOf_55 (met_X6_rounded C.st hw) (gc_X6_rounded _ (Nat.le_of_ble_eq_true rfl) (Nat.le_of_ble_eq_true rfl)) (Or.inl tw1349) tw1350 rfl (Nat.le_of_ble_eq_true rfl) (c2 := 0) (s2 := 0) rfl rfl (Nat.le_of_ble_eq_true rfl) (Nat.le_of_ble_eq_true rfl) rfl (kLp (fun r_9 hw => ?_)) tNo
      exact g_lret C dX6_countOf_58 (Nat.le_of_ble_eq_true rfl) (Nat.le_of_ble_eq_true rfl) ⟨_, rfl, rfl, hw⟩
    · have hw := hw.2 c21
      refine g_aload_n C dX6_countOf_24 0 rfl rfl ?_
      refine gf_RX6_160 C hk0 dX6_countOf_25 ?_
      refine g_i2l C dX6_countOf_28 ?_
      refine g_goto C dX6_countOf_29 (tgt := 58) (by decide) ?_
      exact g_lret C dX6_countOf_58 (Nat.le_of_ble_eq_true rfl) (Nat.le_of_ble_eq_true rfl) ⟨_, rfl, rfl, hw⟩
  · have hw := hw.2 c7
    refine g_aload_n C dX6_countOf_10 0 rfl rfl ?_
    refine g_iload_n C dX6_countOf_11 1 rfl rfl ?_
    refine g_cV C dX6_countOf_12 (met_X6_many C.st hw) (gc_X6_many _ (Nat.le_of_ble_eq_true rfl) (Nat.le_of_ble_eq_true rfl)) tw1156 tw1158 twp32 (ci := 6) rfl (by decide) hk0 rfl (Nat.le_of_ble_eq_true rfl) (c2 := 0) (s2 := 0) rfl rfl (Nat.le_of_ble_eq_true rfl) (Nat.le_of_ble_eq_true rfl) rfl (kIp (fun r_11 hw => ?_)) tNo
    refine g_i2l C dX6_countOf_15 ?_
    exact g_lret C dX6_countOf_16 (Nat.le_of_ble_eq_true rfl) (Nat.le_of_ble_eq_true rfl) ⟨_, rfl, rfl, hw⟩
theorem gc_X6_countOf : ∀ rm : Room, rmX6_countOf.frames + 1 ≤ rm.frames → 8 + (2 + 11) + rmX6_countOf.locals ≤ rm.locals → gCall yX6_countOf 2 1 rmX6_countOf rm := fun rm a b => ⟨Or.inl ⟨_, _, tw1366⟩, tw8, ⟨by decide, by decide⟩, by decide, a, b⟩
abbrev rmX6_sampleTotal : Room := { frames := 2, cells := 0, slots := 0, locals := 47 }
def wp_X6_sampleTotal_J36 (o : Nat) (p1 : Int32) (M : MEM) (K5 : Int64 → Int32 → Prop) (x3_1 : Int64) (x5_2 : Int32) : Prop := KD (RF o 3) = (0, 60) ∧ vp_in x5_2 60 ∧ (wp_X6_numberOf o p1 (mI M (RF o 3) x5_2.toNatClampNeg) M (fun r_5 => ∀ x3_7 : Int64, x3_7 = x3_1 + r_5 → (∀ x5_8 : Int32, x5_8 = x5_2 + 1 → (K5 x3_7 x5_8))))
def wp_X6_sampleTotal_L5 (o : Nat) (p1 : Int32) (p2 : Int32) (M : MEM) (Q : Int64 → Prop) : Nat → Int64 → Int32 → Prop
  | 0, _, _ => False
  | n5 + 1, x3_1, x5_2 => ((mI M o 6) ≤ x5_2 → (Q x3_1)) ∧ (¬ (mI M o 6) ≤ x5_2 → ((p2 < 0 → (wp_X6_sampleTotal_J36 o p1 M (wp_X6_sampleTotal_L5 o p1 p2 M Q n5) x3_1 x5_2)) ∧ (¬ p2 < 0 → (KD (RF o 3) = (0, 60) ∧ vp_in x5_2 60 ∧ (wp_X6_item o p1 (mI M (RF o 3) x5_2.toNatClampNeg) 2 M (fun r_11 => (¬ r_11 = p2 → (∀ x3_13 : Int64, x3_13 = x3_1 + 0 → (∀ x5_14 : Int32, x5_14 = x5_2 + 1 → ((wp_X6_sampleTotal_L5 o p1 p2 M Q n5) x3_13 x5_14)))) ∧ (r_11 = p2 → (wp_X6_sampleTotal_J36 o p1 M (wp_X6_sampleTotal_L5 o p1 p2 M Q n5) x3_1 x5_2))))))))
def wp_X6_sampleTotal (o : Nat) (p1 : Int32) (p2 : Int32) (M : MEM) (Q : Int64 → Prop) : Prop := KD o = (16, 0) ∧ (∃ m5 : Nat, wp_X6_sampleTotal_L5 o p1 p2 M Q m5 0 0)
set_option maxRecDepth 100000 in
set_option maxHeartbeats 4000000 in
theorem met_X6_sampleTotal {l : Launch} (hl : l.stackTraces = false) {E : MK} {o : Nat} {p1 : Int32} {p2 : Int32} {M : MEM} {Q : Int64 → Prop} (hw : wp_X6_sampleTotal o p1 p2 M Q) : gMet l E yX6_sampleTotal rmX6_sampleTotal [gR E o, .int p1, .int p2] M (qLp M Q) gNo := by
  obtain ⟨hk0, hw⟩ := hw
  refine g_met hl (cc := cX6_sampleTotal) (maxL := 6) (ret := (some .long)) (hh := []) (loc := [(0, gR E o), (1, .int p1), (2, .int p2)]) (by decide +kernel) (Or.inl ⟨tw1344, rfl⟩) (Nat.le_of_ble_eq_true rfl) rfl (fun K hK C => ?_)
  have C : GC K E cX6_sampleTotal RX6 6 (some .long) [] rmX6_sampleTotal := C
  refine g_lconst C dX6_sampleTotal_0 (v := 0) rfl ?_
  refine g_lstore_n C dX6_sampleTotal_1 rfl (Nat.le_of_ble_eq_true rfl) (loc' := [(3, .long 0), (0, gR E o), (1, .int p1), (2, .int p2)]) rfl ?_
  refine g_iconst C dX6_sampleTotal_2 (v := 0) rfl ?_
  refine g_istore C dX6_sampleTotal_3 (Nat.le_of_ble_eq_true rfl) (loc' := [(5, .int 0), (3, .long 0), (0, gR E o), (1, .int p1), (2, .int p2)]) rfl ?_
  obtain ⟨m5, hw⟩ := hw
  have hL5 : ∀ (n5 : Nat) (x3_1 : Int64) (x5_2 : Int32), wp_X6_sampleTotal_L5 o p1 p2 M Q n5 x3_1 x5_2 → GX K E 6 M [(0, gR E o), (1, .int p1), (2, .int p2), (3, .long x3_1), (5, .int x5_2)] [] 5 0 0 (gEnd K E (qLp M Q) gNo rmX6_sampleTotal.cells rmX6_sampleTotal.slots) := by
    intro n5
    induction n5 with
    | zero => intro _ _ hw; exact False.elim hw
    | succ n5 ih5 =>
      intro x3_1 x5_2 hw
      refine g_iload C (j := 0) dX6_sampleTotal_5 4 rfl ?_
      refine g_aload_n C dX6_sampleTotal_7 0 rfl rfl ?_
      refine gf_RX6_160 C hk0 dX6_sampleTotal_8 ?_
      refine g_icmp_ge C dX6_sampleTotal_11 (tgt := 60) (by decide) (fun c11 => ?_) (fun c11 => ?_)
      · have hw := hw.1 c11
        refine g_lload_n C dX6_sampleTotal_60 3 rfl rfl ?_
        exact g_lret C dX6_sampleTotal_61 (Nat.le_of_ble_eq_true rfl) (Nat.le_of_ble_eq_true rfl) ⟨_, rfl, rfl, hw⟩
      · have hw := hw.2 c11
        refine g_lload_n C dX6_sampleTotal_14 3 rfl rfl ?_
        refine g_iload_n C dX6_sampleTotal_15 2 rfl rfl ?_
        have hJ36 : wp_X6_sampleTotal_J36 o p1 M (wp_X6_sampleTotal_L5 o p1 p2 M Q n5) x3_1 x5_2 → GX K E 6 M [(0, gR E o), (1, .int p1), (2, .int p2), (5, .int x5_2)] [.long x3_1] 36 0 0 (gEnd K E (qLp M Q) gNo rmX6_sampleTotal.cells rmX6_sampleTotal.slots) := by
          intro hw
          refine g_aload_n C dX6_sampleTotal_36 0 rfl rfl ?_
          refine g_iload_n C dX6_sampleTotal_37 1 rfl rfl ?_
          refine g_aload_n C dX6_sampleTotal_38 0 rfl rfl ?_
          refine gf_RX6_16 C hk0 dX6_sampleTotal_39 ?_
          refine g_iload C (j := 0) dX6_sampleTotal_42 3 rfl ?_
          obtain ⟨hk_3, hw⟩ := hw
          obtain ⟨hi_4, hw⟩ := hw
          refine g_iaload C hk_3 hi_4 dX6_sampleTotal_44 ?_
          refine g_cV C dX6_sampleTotal_45 (met_X6_numberOf C.st hw) (gc_X6_numberOf _ (Nat.le_of_ble_eq_true rfl) (Nat.le_of_ble_eq_true rfl)) tw1345 tw1347 twp56 (ci := 6) rfl (by decide) hk0 rfl (Nat.le_of_ble_eq_true rfl) (c2 := 0) (s2 := 0) rfl rfl (Nat.le_of_ble_eq_true rfl) (Nat.le_of_ble_eq_true rfl) rfl (kLp (fun r_5 hw => ?_)) tNo
          refine g_goto C dX6_sampleTotal_48 (tgt := 52) (by decide) ?_
          refine g_ladd C dX6_sampleTotal_52 ?_
          refine g_nmL (fun x3_7 ex3_7 => ?_)
          have hw := hw x3_7 ex3_7
          refine g_lstore_n C dX6_sampleTotal_53 rfl (Nat.le_of_ble_eq_true rfl) (loc' := [(3, .long x3_7), (0, gR E o), (1, .int p1), (2, .int p2), (5, .int x5_2)]) rfl ?_
          obtain ⟨x5_8, ex5_8⟩ : ∃ y : Int32, y = x5_2 + 1 := ⟨_, rfl⟩
          have hw := hw x5_8 ex5_8
          refine g_iinc C (j := 0) dX6_sampleTotal_54 4 rfl (v := x5_8) (by rw [ex5_8]; rfl) (Nat.le_of_ble_eq_true rfl) (loc' := [(5, .int x5_8), (3, .long x3_7), (0, gR E o), (1, .int p1), (2, .int p2)]) rfl ?_
          refine g_goto C dX6_sampleTotal_57 (tgt := 5) (by decide) ?_
          refine g_sub [2, 3, 4, 1, 0] rfl ?_
          exact ih5 _ _ hw
        refine g_if_lt C dX6_sampleTotal_16 (tgt := 36) (by decide) (fun c16 => ?_) (fun c16 => ?_)
        · have hw := hw.1 c16
          refine g_sub [0, 1, 2, 4] rfl ?_
          exact hJ36 hw
        · have hw := hw.2 c16
          refine g_aload_n C dX6_sampleTotal_19 0 rfl rfl ?_
          refine g_iload_n C dX6_sampleTotal_20 1 rfl rfl ?_
          refine g_aload_n C dX6_sampleTotal_21 0 rfl rfl ?_
          refine gf_RX6_16 C hk0 dX6_sampleTotal_22 ?_
          refine g_iload C (j := 0) dX6_sampleTotal_25 4 rfl ?_
          obtain ⟨hk_9, hw⟩ := hw
          obtain ⟨hi_10, hw⟩ := hw
          refine g_iaload C hk_9 hi_10 dX6_sampleTotal_27 ?_
          refine g_iconst C dX6_sampleTotal_28 (v := 2) rfl ?_
          refine g_cV C dX6_sampleTotal_29 (met_X6_item C.st hw) (gc_X6_item _ (Nat.le_of_ble_eq_true rfl) (Nat.le_of_ble_eq_true rfl)) tw1197 tw1199 twp38 (ci := 6) rfl (by decide) hk0 rfl (Nat.le_of_ble_eq_true rfl) (c2 := 0) (s2 := 0) rfl rfl (Nat.le_of_ble_eq_true rfl) (Nat.le_of_ble_eq_true rfl) rfl (kIp (fun r_11 hw => ?_)) tNo
          refine g_iload_n C dX6_sampleTotal_32 2 rfl rfl ?_
          refine g_icmp_ne C dX6_sampleTotal_33 (tgt := 51) (by decide) (fun c33 => ?_) (fun c33 => ?_)
          · have hw := hw.1 c33
            refine g_lconst C dX6_sampleTotal_51 (v := 0) rfl ?_
            refine g_ladd C dX6_sampleTotal_52 ?_
            refine g_nmL (fun x3_13 ex3_13 => ?_)
            have hw := hw x3_13 ex3_13
            refine g_lstore_n C dX6_sampleTotal_53 rfl (Nat.le_of_ble_eq_true rfl) (loc' := [(3, .long x3_13), (0, gR E o), (1, .int p1), (2, .int p2), (5, .int x5_2)]) rfl ?_
            obtain ⟨x5_14, ex5_14⟩ : ∃ y : Int32, y = x5_2 + 1 := ⟨_, rfl⟩
            have hw := hw x5_14 ex5_14
            refine g_iinc C (j := 0) dX6_sampleTotal_54 4 rfl (v := x5_14) (by rw [ex5_14]; rfl) (Nat.le_of_ble_eq_true rfl) (loc' := [(5, .int x5_14), (3, .long x3_13), (0, gR E o), (1, .int p1), (2, .int p2)]) rfl ?_
            refine g_goto C dX6_sampleTotal_57 (tgt := 5) (by decide) ?_
            refine g_sub [2, 3, 4, 1, 0] rfl ?_
            exact ih5 _ _ hw
          · have hw := hw.2 c33
            refine g_sub [0, 1, 2, 4] rfl ?_
            exact hJ36 hw
  refine g_sub [2, 3, 4, 1, 0] rfl ?_
  exact hL5 m5 _ _ hw
theorem gc_X6_sampleTotal : ∀ rm : Room, rmX6_sampleTotal.frames + 1 ≤ rm.frames → 8 + (6 + 11) + rmX6_sampleTotal.locals ≤ rm.locals → gCall yX6_sampleTotal 6 2 rmX6_sampleTotal rm := fun rm a b => ⟨Or.inl ⟨_, _, tw1344⟩, tw8, ⟨by decide, by decide⟩, by decide, a, b⟩
abbrev rmX6_weightedTotal : Room := { frames := 2, cells := 0, slots := 0, locals := 48 }
def wp_X6_weightedTotal_L5 (o : Nat) (p1 : Int32) (M : MEM) (Q : Int64 → Prop) : Nat → Int64 → Int32 → Prop
  | 0, _, _ => False
  | n5 + 1, x2_1, x4_2 => ((mI M o 6) ≤ x4_2 → (Q x2_1)) ∧ (¬ (mI M o 6) ≤ x4_2 → (KD (RF o 3) = (0, 60) ∧ vp_in x4_2 60 ∧ (wp_X6_numberOf o p1 (mI M (RF o 3) x4_2.toNatClampNeg) M (fun r_5 => wp_X6_isComplete o M (fun r_7 => (¬ r_7 = 0 → (∀ x2_9 : Int64, x2_9 = x2_1 + r_5 → (∀ x4_10 : Int32, x4_10 = x4_2 + 1 → ((wp_X6_weightedTotal_L5 o p1 M Q n5) x2_9 x4_10)))) ∧ (r_7 = 0 → (KD (RF o 2) = (0, 60) ∧ vp_in (mI M o 6) 60 ∧ (∀ x7_13 : Int32, x7_13 = mI M (RF o 2) (mI M o 6).toNatClampNeg → (wp_X6_item o p1 x7_13 3 M (fun r_14 => ∀ x8_16 : Int64, x8_16 = 2147483648 * r_14.toInt64 → (vp_in x4_2 60 ∧ (wp_X6_item o p1 (mI M (RF o 3) x4_2.toNatClampNeg) 3 M (fun r_18 => wp_X6_mixAt o p1 x7_13 M (fun r_20 => ∀ x10_22 : Int64, x10_22 = r_18.toInt64 * r_20 → ((x10_22 < x8_16 → (wp_X6_rounded (r_5 * x8_16) x10_22 M (fun r_23 => ∀ x2_25 : Int64, x2_25 = x2_1 + r_23 → (∀ x4_26 : Int32, x4_26 = x4_2 + 1 → ((wp_X6_weightedTotal_L5 o p1 M Q n5) x2_25 x4_26))))) ∧ (¬ x10_22 < x8_16 → (∀ x2_27 : Int64, x2_27 = x2_1 + r_5 → (∀ x4_28 : Int32, x4_28 = x4_2 + 1 → ((wp_X6_weightedTotal_L5 o p1 M Q n5) x2_27 x4_28)))))))))))))))))))
def wp_X6_weightedTotal (o : Nat) (p1 : Int32) (M : MEM) (Q : Int64 → Prop) : Prop := KD o = (16, 0) ∧ (∃ m5 : Nat, wp_X6_weightedTotal_L5 o p1 M Q m5 0 0)
set_option maxRecDepth 100000 in
set_option maxHeartbeats 4000000 in
theorem met_X6_weightedTotal {l : Launch} (hl : l.stackTraces = false) {E : MK} {o : Nat} {p1 : Int32} {M : MEM} {Q : Int64 → Prop} (hw : wp_X6_weightedTotal o p1 M Q) : gMet l E yX6_weightedTotal rmX6_weightedTotal [gR E o, .int p1] M (qLp M Q) gNo := by
  obtain ⟨hk0, hw⟩ := hw
  refine g_met hl (cc := cX6_weightedTotal) (maxL := 12) (ret := (some .long)) (hh := []) (loc := [(0, gR E o), (1, .int p1)]) (by decide +kernel) (Or.inl ⟨tw1357, rfl⟩) (Nat.le_of_ble_eq_true rfl) rfl (fun K hK C => ?_)
  have C : GC K E cX6_weightedTotal RX6 12 (some .long) [] rmX6_weightedTotal := C
  refine g_lconst C dX6_weightedTotal_0 (v := 0) rfl ?_
  refine g_lstore_n C dX6_weightedTotal_1 rfl (Nat.le_of_ble_eq_true rfl) (loc' := [(2, .long 0), (0, gR E o), (1, .int p1)]) rfl ?_
  refine g_iconst C dX6_weightedTotal_2 (v := 0) rfl ?_
  refine g_istore C dX6_weightedTotal_3 (Nat.le_of_ble_eq_true rfl) (loc' := [(4, .int 0), (2, .long 0), (0, gR E o), (1, .int p1)]) rfl ?_
  obtain ⟨m5, hw⟩ := hw
  have hL5 : ∀ (n5 : Nat) (x2_1 : Int64) (x4_2 : Int32), wp_X6_weightedTotal_L5 o p1 M Q n5 x2_1 x4_2 → GX K E 12 M [(0, gR E o), (1, .int p1), (2, .long x2_1), (4, .int x4_2)] [] 5 0 0 (gEnd K E (qLp M Q) gNo rmX6_weightedTotal.cells rmX6_weightedTotal.slots) := by
    intro n5
    induction n5 with
    | zero => intro _ _ hw; exact False.elim hw
    | succ n5 ih5 =>
      intro x2_1 x4_2 hw
      refine g_iload C (j := 0) dX6_weightedTotal_5 3 rfl ?_
      refine g_aload_n C dX6_weightedTotal_7 0 rfl rfl ?_
      refine gf_RX6_160 C hk0 dX6_weightedTotal_8 ?_
      refine g_icmp_ge C dX6_weightedTotal_11 (tgt := 121) (by decide) (fun c11 => ?_) (fun c11 => ?_)
      · have hw := hw.1 c11
        refine g_lload_n C dX6_weightedTotal_121 2 rfl rfl ?_
        exact g_lret C dX6_weightedTotal_122 (Nat.le_of_ble_eq_true rfl) (Nat.le_of_ble_eq_true rfl) ⟨_, rfl, rfl, hw⟩
      · have hw := hw.2 c11
        refine g_aload_n C dX6_weightedTotal_14 0 rfl rfl ?_
        refine g_iload_n C dX6_weightedTotal_15 1 rfl rfl ?_
        refine g_aload_n C dX6_weightedTotal_16 0 rfl rfl ?_
        refine gf_RX6_16 C hk0 dX6_weightedTotal_17 ?_
        refine g_iload C (j := 0) dX6_weightedTotal_20 3 rfl ?_
        obtain ⟨hk_3, hw⟩ := hw
        obtain ⟨hi_4, hw⟩ := hw
        refine g_iaload C hk_3 hi_4 dX6_weightedTotal_22 ?_
        refine g_cV C dX6_weightedTotal_23 (met_X6_numberOf C.st hw) (gc_X6_numberOf _ (Nat.le_of_ble_eq_true rfl) (Nat.le_of_ble_eq_true rfl)) tw1345 tw1347 twp56 (ci := 6) rfl (by decide) hk0 rfl (Nat.le_of_ble_eq_true rfl) (c2 := 0) (s2 := 0) rfl rfl (Nat.le_of_ble_eq_true rfl) (Nat.le_of_ble_eq_true rfl) rfl (kLp (fun r_5 hw => ?_)) tNo
        refine g_lstore C dX6_weightedTotal_26 (Nat.le_of_ble_eq_true rfl) (loc' := [(5, .long r_5), (0, gR E o), (1, .int p1), (2, .long x2_1), (4, .int x4_2)]) rfl ?_
        refine g_aload_n C dX6_weightedTotal_28 1 rfl rfl ?_
        refine g_cV C dX6_weightedTotal_29 (met_X6_isComplete C.st hw) (gc_X6_isComplete _ (Nat.le_of_ble_eq_true rfl) (Nat.le_of_ble_eq_true rfl)) tw1247 tw1249 twp46 (ci := 6) rfl (by decide) hk0 rfl (Nat.le_of_ble_eq_true rfl) (c2 := 0) (s2 := 0) rfl rfl (Nat.le_of_ble_eq_true rfl) (Nat.le_of_ble_eq_true rfl) rfl (kIp (fun r_7 hw => ?_)) tNo
        refine g_if_ne C dX6_weightedTotal_32 (tgt := 110) (by decide) (fun c32 => ?_) (fun c32 => ?_)
        · have hw := hw.1 c32
          refine g_lload_n C dX6_weightedTotal_110 3 rfl rfl ?_
          refine g_lload C (j := 0) dX6_weightedTotal_111 0 rfl ?_
          refine g_ladd C dX6_weightedTotal_113 ?_
          refine g_nmL (fun x2_9 ex2_9 => ?_)
          have hw := hw x2_9 ex2_9
          refine g_lstore_n C dX6_weightedTotal_114 rfl (Nat.le_of_ble_eq_true rfl) (loc' := [(2, .long x2_9), (5, .long r_5), (0, gR E o), (1, .int p1), (4, .int x4_2)]) rfl ?_
          obtain ⟨x4_10, ex4_10⟩ : ∃ y : Int32, y = x4_2 + 1 := ⟨_, rfl⟩
          have hw := hw x4_10 ex4_10
          refine g_iinc C (j := 0) dX6_weightedTotal_115 4 rfl (v := x4_10) (by rw [ex4_10]; rfl) (Nat.le_of_ble_eq_true rfl) (loc' := [(4, .int x4_10), (2, .long x2_9), (5, .long r_5), (0, gR E o), (1, .int p1)]) rfl ?_
          refine g_goto C dX6_weightedTotal_118 (tgt := 5) (by decide) ?_
          refine g_sub [3, 4, 1, 0] rfl ?_
          exact ih5 _ _ hw
        · have hw := hw.2 c32
          refine g_aload_n C dX6_weightedTotal_35 1 rfl rfl ?_
          refine gf_RX6_13 C hk0 dX6_weightedTotal_36 ?_
          refine g_aload_n C dX6_weightedTotal_39 1 rfl rfl ?_
          refine gf_RX6_160 C hk0 dX6_weightedTotal_40 ?_
          obtain ⟨hk_11, hw⟩ := hw
          obtain ⟨hi_12, hw⟩ := hw
          refine g_iaload C hk_11 hi_12 dX6_weightedTotal_43 ?_
          refine g_nmI (fun x7_13 ex7_13 => ?_)
          have hw := hw x7_13 ex7_13
          refine g_istore C dX6_weightedTotal_44 (Nat.le_of_ble_eq_true rfl) (loc' := [(7, .int x7_13), (5, .long r_5), (0, gR E o), (1, .int p1), (2, .long x2_1), (4, .int x4_2)]) rfl ?_
          refine g_ldc2 C dX6_weightedTotal_46 tw1358 ?_
          refine g_aload_n C dX6_weightedTotal_49 2 rfl rfl ?_
          refine g_iload_n C dX6_weightedTotal_50 3 rfl rfl ?_
          refine g_iload C (j := 0) dX6_weightedTotal_51 0 rfl ?_
          refine g_iconst C dX6_weightedTotal_53 (v := 3) rfl ?_
          refine g_cV C dX6_weightedTotal_54 (met_X6_item C.st hw) (gc_X6_item _ (Nat.le_of_ble_eq_true rfl) (Nat.le_of_ble_eq_true rfl)) tw1197 tw1199 twp38 (ci := 6) rfl (by decide) hk0 rfl (Nat.le_of_ble_eq_true rfl) (c2 := 0) (s2 := 0) rfl rfl (Nat.le_of_ble_eq_true rfl) (Nat.le_of_ble_eq_true rfl) rfl (kIp (fun r_14 hw => ?_)) tNo
          refine g_i2l C dX6_weightedTotal_57 ?_
          refine g_lmul C dX6_weightedTotal_58 ?_
          refine g_nmL (fun x8_16 ex8_16 => ?_)
          have hw := hw x8_16 ex8_16
          refine g_lstore C dX6_weightedTotal_59 (Nat.le_of_ble_eq_true rfl) (loc' := [(8, .long x8_16), (7, .int x7_13), (5, .long r_5), (0, gR E o), (1, .int p1), (2, .long x2_1), (4, .int x4_2)]) rfl ?_
          refine g_aload_n C dX6_weightedTotal_61 3 rfl rfl ?_
          refine g_iload_n C dX6_weightedTotal_62 4 rfl rfl ?_
          refine g_aload_n C dX6_weightedTotal_63 3 rfl rfl ?_
          refine gf_RX6_16 C hk0 dX6_weightedTotal_64 ?_
          refine g_iload C (j := 0) dX6_weightedTotal_67 6 rfl ?_
          obtain ⟨hi_17, hw⟩ := hw
          refine g_iaload C hk_3 hi_17 dX6_weightedTotal_69 ?_
          refine g_iconst C dX6_weightedTotal_70 (v := 3) rfl ?_
          refine g_cV C dX6_weightedTotal_71 (met_X6_item C.st hw) (gc_X6_item _ (Nat.le_of_ble_eq_true rfl) (Nat.le_of_ble_eq_true rfl)) tw1197 tw1199 twp38 (ci := 6) rfl (by decide) hk0 rfl (Nat.le_of_ble_eq_true rfl) (c2 := 0) (s2 := 0) rfl rfl (Nat.le_of_ble_eq_true rfl) (Nat.le_of_ble_eq_true rfl) rfl (kIp (fun r_18 hw => ?_)) tNo
          refine g_i2l C dX6_weightedTotal_74 ?_
          refine g_aload_n C dX6_weightedTotal_75 3 rfl rfl ?_
          refine g_iload_n C dX6_weightedTotal_76 4 rfl rfl ?_
          refine g_iload C (j := 0) dX6_weightedTotal_77 1 rfl ?_
          refine g_cV C dX6_weightedTotal_79 (met_X6_mixAt C.st hw) (gc_X6_mixAt _ (Nat.le_of_ble_eq_true rfl) (Nat.le_of_ble_eq_true rfl)) tw1232 tw1234 twp44 (ci := 6) rfl (by decide) hk0 rfl (Nat.le_of_ble_eq_true rfl) (c2 := 0) (s2 := 0) rfl rfl (Nat.le_of_ble_eq_true rfl) (Nat.le_of_ble_eq_true rfl) rfl (kLp (fun r_20 hw => ?_)) tNo
          refine g_lmul C dX6_weightedTotal_82 ?_
          refine g_nmL (fun x10_22 ex10_22 => ?_)
          have hw := hw x10_22 ex10_22
          refine g_lstore C dX6_weightedTotal_83 (Nat.le_of_ble_eq_true rfl) (loc' := [(10, .long x10_22), (8, .long x8_16), (7, .int x7_13), (5, .long r_5), (0, gR E o), (1, .int p1), (2, .long x2_1), (4, .int x4_2)]) rfl ?_
          refine g_lload C (j := 0) dX6_weightedTotal_85 0 rfl ?_
          refine g_lload C (j := 0) dX6_weightedTotal_87 1 rfl ?_
          refine g_lc_lt C dX6_weightedTotal_89 dX6_weightedTotal_90 (tgt := 98) (by decide) (fun c90 => ?_) (fun c90 => ?_)
          · have hw := hw.1 c90
            refine g_lload C (j := 0) dX6_weightedTotal_98 3 rfl ?_
            refine g_lload C (j := 0) dX6_weightedTotal_100 1 rfl ?_
            refine g_lmul C dX6_weightedTotal_102 ?_
            refine g_lload C (j := 0) dX6_weightedTotal_103 0 rfl ?_
            refine g_cS C dX6_weightedTotal_105 (met_X6_rounded C.st hw) (gc_X6_rounded _ (Nat.le_of_ble_eq_true rfl) (Nat.le_of_ble_eq_true rfl)) (Or.inl tw1349) tw1350 rfl (Nat.le_of_ble_eq_true rfl) (c2 := 0) (s2 := 0) rfl rfl (Nat.le_of_ble_eq_true rfl) (Nat.le_of_ble_eq_true rfl) rfl (kLp (fun r_23 hw => ?_)) tNo
            refine g_lstore C dX6_weightedTotal_108 (Nat.le_of_ble_eq_true rfl) (loc' := [(5, .long r_23), (10, .long x10_22), (8, .long x8_16), (7, .int x7_13), (0, gR E o), (1, .int p1), (2, .long x2_1), (4, .int x4_2)]) rfl ?_
            refine g_lload_n C dX6_weightedTotal_110 6 rfl rfl ?_
            refine g_lload C (j := 0) dX6_weightedTotal_111 0 rfl ?_
            refine g_ladd C dX6_weightedTotal_113 ?_
            refine g_nmL (fun x2_25 ex2_25 => ?_)
            have hw := hw x2_25 ex2_25
            refine g_lstore_n C dX6_weightedTotal_114 rfl (Nat.le_of_ble_eq_true rfl) (loc' := [(2, .long x2_25), (5, .long r_23), (10, .long x10_22), (8, .long x8_16), (7, .int x7_13), (0, gR E o), (1, .int p1), (4, .int x4_2)]) rfl ?_
            obtain ⟨x4_26, ex4_26⟩ : ∃ y : Int32, y = x4_2 + 1 := ⟨_, rfl⟩
            have hw := hw x4_26 ex4_26
            refine g_iinc C (j := 0) dX6_weightedTotal_115 7 rfl (v := x4_26) (by rw [ex4_26]; rfl) (Nat.le_of_ble_eq_true rfl) (loc' := [(4, .int x4_26), (2, .long x2_25), (5, .long r_23), (10, .long x10_22), (8, .long x8_16), (7, .int x7_13), (0, gR E o), (1, .int p1)]) rfl ?_
            refine g_goto C dX6_weightedTotal_118 (tgt := 5) (by decide) ?_
            refine g_sub [6, 7, 1, 0] rfl ?_
            exact ih5 _ _ hw
          · have hw := hw.2 c90
            refine g_lload C (j := 0) dX6_weightedTotal_93 3 rfl ?_
            refine g_goto C dX6_weightedTotal_95 (tgt := 108) (by decide) ?_
            refine g_lstore C dX6_weightedTotal_108 (Nat.le_of_ble_eq_true rfl) (loc' := [(5, .long r_5), (10, .long x10_22), (8, .long x8_16), (7, .int x7_13), (0, gR E o), (1, .int p1), (2, .long x2_1), (4, .int x4_2)]) rfl ?_
            refine g_lload_n C dX6_weightedTotal_110 6 rfl rfl ?_
            refine g_lload C (j := 0) dX6_weightedTotal_111 0 rfl ?_
            refine g_ladd C dX6_weightedTotal_113 ?_
            refine g_nmL (fun x2_27 ex2_27 => ?_)
            have hw := hw x2_27 ex2_27
            refine g_lstore_n C dX6_weightedTotal_114 rfl (Nat.le_of_ble_eq_true rfl) (loc' := [(2, .long x2_27), (5, .long r_5), (10, .long x10_22), (8, .long x8_16), (7, .int x7_13), (0, gR E o), (1, .int p1), (4, .int x4_2)]) rfl ?_
            obtain ⟨x4_28, ex4_28⟩ : ∃ y : Int32, y = x4_2 + 1 := ⟨_, rfl⟩
            have hw := hw x4_28 ex4_28
            refine g_iinc C (j := 0) dX6_weightedTotal_115 7 rfl (v := x4_28) (by rw [ex4_28]; rfl) (Nat.le_of_ble_eq_true rfl) (loc' := [(4, .int x4_28), (2, .long x2_27), (5, .long r_5), (10, .long x10_22), (8, .long x8_16), (7, .int x7_13), (0, gR E o), (1, .int p1)]) rfl ?_
            refine g_goto C dX6_weightedTotal_118 (tgt := 5) (by decide) ?_
            refine g_sub [6, 7, 1, 0] rfl ?_
            exact ih5 _ _ hw
  refine g_sub [2, 3, 1, 0] rfl ?_
  exact hL5 m5 _ _ hw
theorem gc_X6_weightedTotal : ∀ rm : Room, rmX6_weightedTotal.frames + 1 ≤ rm.frames → 8 + (12 + 11) + rmX6_weightedTotal.locals ≤ rm.locals → gCall yX6_weightedTotal 12 1 rmX6_weightedTotal rm := fun rm a b => ⟨Or.inl ⟨_, _, tw1357⟩, tw8, ⟨by decide, by decide⟩, by decide, a, b⟩
abbrev rmX6_stratifiedTotal : Room := { frames := 3, cells := 0, slots := 0, locals := 72 }
def wp_X6_stratifiedTotal_L20 (o : Nat) (p1 : Int32) (M : MEM) (K5 : Int64 → Int32 → Prop) (x2_1 : Int64) (x4_2 : Int32) : Nat → Int32 → Int32 → Int32 → Prop
  | 0, _, _, _ => False
  | n20 + 1, x5_3, x6_4, x7_5 => wp_X6_many o p1 M (fun r_6 => (r_6 ≤ x7_5 → ((¬ x6_4 = 0 → (wp_X6_sampleTotal o p1 x4_2 M (fun r_8 => wp_X6_rounded (r_8 * x5_3.toInt64) x6_4.toInt64 M (fun r_10 => ∀ x2_12 : Int64, x2_12 = x2_1 + r_10 → (∀ x4_13 : Int32, x4_13 = x4_2 + 1 → (K5 x2_12 x4_13)))))) ∧ (x6_4 = 0 → (∀ x2_14 : Int64, x2_14 = x2_1 + 0 → (∀ x4_15 : Int32, x4_15 = x4_2 + 1 → (K5 x2_14 x4_15)))))) ∧ (¬ r_6 ≤ x7_5 → (wp_X6_item o p1 x7_5 2 M (fun r_16 => (r_16 = x4_2 → (∀ x5_18 : Int32, x5_18 = x5_3 + 1 → (KD (RF o 4) = (0, 60) ∧ vp_in x7_5 60 ∧ (((mI M (RF o 4) x7_5.toNatClampNeg) < 0 → (∀ x6_21 : Int32, x6_21 = x6_4 + 0 → (∀ x7_22 : Int32, x7_22 = x7_5 + 1 → ((wp_X6_stratifiedTotal_L20 o p1 M K5 x2_1 x4_2 n20) x5_18 x6_21 x7_22)))) ∧ (¬ (mI M (RF o 4) x7_5.toNatClampNeg) < 0 → (∀ x6_23 : Int32, x6_23 = x6_4 + 1 → (∀ x7_24 : Int32, x7_24 = x7_5 + 1 → ((wp_X6_stratifiedTotal_L20 o p1 M K5 x2_1 x4_2 n20) x5_18 x6_23 x7_24)))))))) ∧ (¬ r_16 = x4_2 → (∀ x7_25 : Int32, x7_25 = x7_5 + 1 → ((wp_X6_stratifiedTotal_L20 o p1 M K5 x2_1 x4_2 n20) x5_3 x6_4 x7_25)))))))
def wp_X6_stratifiedTotal_L5 (o : Nat) (p1 : Int32) (M : MEM) (Q : Int64 → Prop) : Nat → Int64 → Int32 → Prop
  | 0, _, _ => False
  | n5 + 1, x2_1, x4_2 => (4 ≤ x4_2 → (Q x2_1)) ∧ (¬ 4 ≤ x4_2 → (∃ m20 : Nat, wp_X6_stratifiedTotal_L20 o p1 M (wp_X6_stratifiedTotal_L5 o p1 M Q n5) x2_1 x4_2 m20 0 0 0))
def wp_X6_stratifiedTotal (o : Nat) (p1 : Int32) (M : MEM) (Q : Int64 → Prop) : Prop := KD o = (16, 0) ∧ (∃ m5 : Nat, wp_X6_stratifiedTotal_L5 o p1 M Q m5 0 0)
set_option maxRecDepth 100000 in
set_option maxHeartbeats 4000000 in
theorem met_X6_stratifiedTotal {l : Launch} (hl : l.stackTraces = false) {E : MK} {o : Nat} {p1 : Int32} {M : MEM} {Q : Int64 → Prop} (hw : wp_X6_stratifiedTotal o p1 M Q) : gMet l E yX6_stratifiedTotal rmX6_stratifiedTotal [gR E o, .int p1] M (qLp M Q) gNo := by
  obtain ⟨hk0, hw⟩ := hw
  refine g_met hl (cc := cX6_stratifiedTotal) (maxL := 8) (ret := (some .long)) (hh := []) (loc := [(0, gR E o), (1, .int p1)]) (by decide +kernel) (Or.inl ⟨tw1362, rfl⟩) (Nat.le_of_ble_eq_true rfl) rfl (fun K hK C => ?_)
  have C : GC K E cX6_stratifiedTotal RX6 8 (some .long) [] rmX6_stratifiedTotal := C
  refine g_lconst C dX6_stratifiedTotal_0 (v := 0) rfl ?_
  refine g_lstore_n C dX6_stratifiedTotal_1 rfl (Nat.le_of_ble_eq_true rfl) (loc' := [(2, .long 0), (0, gR E o), (1, .int p1)]) rfl ?_
  refine g_iconst C dX6_stratifiedTotal_2 (v := 0) rfl ?_
  refine g_istore C dX6_stratifiedTotal_3 (Nat.le_of_ble_eq_true rfl) (loc' := [(4, .int 0), (2, .long 0), (0, gR E o), (1, .int p1)]) rfl ?_
  obtain ⟨m5, hw⟩ := hw
  have hL5 : ∀ (n5 : Nat) (x2_1 : Int64) (x4_2 : Int32), wp_X6_stratifiedTotal_L5 o p1 M Q n5 x2_1 x4_2 → GX K E 8 M [(0, gR E o), (1, .int p1), (2, .long x2_1), (4, .int x4_2)] [] 5 0 0 (gEnd K E (qLp M Q) gNo rmX6_stratifiedTotal.cells rmX6_stratifiedTotal.slots) := by
    intro n5
    induction n5 with
    | zero => intro _ _ hw; exact False.elim hw
    | succ n5 ih5 =>
      intro x2_1 x4_2 hw
      refine g_iload C (j := 0) dX6_stratifiedTotal_5 3 rfl ?_
      refine g_iconst C dX6_stratifiedTotal_7 (v := 4) rfl ?_
      refine g_icmp_ge C dX6_stratifiedTotal_8 (tgt := 110) (by decide) (fun c8 => ?_) (fun c8 => ?_)
      · have hw := hw.1 c8
        refine g_lload_n C dX6_stratifiedTotal_110 2 rfl rfl ?_
        exact g_lret C dX6_stratifiedTotal_111 (Nat.le_of_ble_eq_true rfl) (Nat.le_of_ble_eq_true rfl) ⟨_, rfl, rfl, hw⟩
      · have hw := hw.2 c8
        refine g_iconst C dX6_stratifiedTotal_11 (v := 0) rfl ?_
        refine g_istore C dX6_stratifiedTotal_12 (Nat.le_of_ble_eq_true rfl) (loc' := [(5, .int 0), (0, gR E o), (1, .int p1), (2, .long x2_1), (4, .int x4_2)]) rfl ?_
        refine g_iconst C dX6_stratifiedTotal_14 (v := 0) rfl ?_
        refine g_istore C dX6_stratifiedTotal_15 (Nat.le_of_ble_eq_true rfl) (loc' := [(6, .int 0), (5, .int 0), (0, gR E o), (1, .int p1), (2, .long x2_1), (4, .int x4_2)]) rfl ?_
        refine g_iconst C dX6_stratifiedTotal_17 (v := 0) rfl ?_
        refine g_istore C dX6_stratifiedTotal_18 (Nat.le_of_ble_eq_true rfl) (loc' := [(7, .int 0), (6, .int 0), (5, .int 0), (0, gR E o), (1, .int p1), (2, .long x2_1), (4, .int x4_2)]) rfl ?_
        obtain ⟨m20, hw⟩ := hw
        have hL20 : ∀ (n20 : Nat) (x5_3 : Int32) (x6_4 : Int32) (x7_5 : Int32), wp_X6_stratifiedTotal_L20 o p1 M (wp_X6_stratifiedTotal_L5 o p1 M Q n5) x2_1 x4_2 n20 x5_3 x6_4 x7_5 → GX K E 8 M [(0, gR E o), (1, .int p1), (2, .long x2_1), (4, .int x4_2), (5, .int x5_3), (6, .int x6_4), (7, .int x7_5)] [] 20 0 0 (gEnd K E (qLp M Q) gNo rmX6_stratifiedTotal.cells rmX6_stratifiedTotal.slots) := by
          intro n20
          induction n20 with
          | zero => intro _ _ _ hw; exact False.elim hw
          | succ n20 ih20 =>
            intro x5_3 x6_4 x7_5 hw
            refine g_iload C (j := 0) dX6_stratifiedTotal_20 6 rfl ?_
            refine g_aload_n C dX6_stratifiedTotal_22 0 rfl rfl ?_
            refine g_iload_n C dX6_stratifiedTotal_23 1 rfl rfl ?_
            refine g_cV C dX6_stratifiedTotal_24 (met_X6_many C.st hw) (gc_X6_many _ (Nat.le_of_ble_eq_true rfl) (Nat.le_of_ble_eq_true rfl)) tw1156 tw1158 twp32 (ci := 6) rfl (by decide) hk0 rfl (Nat.le_of_ble_eq_true rfl) (c2 := 0) (s2 := 0) rfl rfl (Nat.le_of_ble_eq_true rfl) (Nat.le_of_ble_eq_true rfl) rfl (kIp (fun r_6 hw => ?_)) tNo
            refine g_icmp_ge C dX6_stratifiedTotal_27 (tgt := 75) (by decide) (fun c27 => ?_) (fun c27 => ?_)
            · have hw := hw.1 c27
              refine g_lload_n C dX6_stratifiedTotal_75 2 rfl rfl ?_
              refine g_iload C (j := 0) dX6_stratifiedTotal_76 5 rfl ?_
              refine g_if_ne C dX6_stratifiedTotal_78 (tgt := 85) (by decide) (fun c78 => ?_) (fun c78 => ?_)
              · have hw := hw.1 c78
                refine g_aload_n C dX6_stratifiedTotal_85 0 rfl rfl ?_
                refine g_iload_n C dX6_stratifiedTotal_86 1 rfl rfl ?_
                refine g_iload C (j := 0) dX6_stratifiedTotal_87 3 rfl ?_
                refine g_cV C dX6_stratifiedTotal_89 (met_X6_sampleTotal C.st hw) (gc_X6_sampleTotal _ (Nat.le_of_ble_eq_true rfl) (Nat.le_of_ble_eq_true rfl)) tw1341 tw1343 twp55 (ci := 6) rfl (by decide) hk0 rfl (Nat.le_of_ble_eq_true rfl) (c2 := 0) (s2 := 0) rfl rfl (Nat.le_of_ble_eq_true rfl) (Nat.le_of_ble_eq_true rfl) rfl (kLp (fun r_8 hw => ?_)) tNo
                refine g_iload C (j := 0) dX6_stratifiedTotal_92 4 rfl ?_
                refine g_i2l C dX6_stratifiedTotal_94 ?_
                refine g_lmul C dX6_stratifiedTotal_95 ?_
                refine g_iload C (j := 0) dX6_stratifiedTotal_96 5 rfl ?_
                refine g_i2l C dX6_stratifiedTotal_98 ?_
                refine g_cS C dX6_stratifiedTotal_99 (met_X6_rounded C.st hw) (gc_X6_rounded _ (Nat.le_of_ble_eq_true rfl) (Nat.le_of_ble_eq_true rfl)) (Or.inl tw1349) tw1350 rfl (Nat.le_of_ble_eq_true rfl) (c2 := 0) (s2 := 0) rfl rfl (Nat.le_of_ble_eq_true rfl) (Nat.le_of_ble_eq_true rfl) rfl (kLp (fun r_10 hw => ?_)) tNo
                refine g_ladd C dX6_stratifiedTotal_102 ?_
                refine g_nmL (fun x2_12 ex2_12 => ?_)
                have hw := hw x2_12 ex2_12
                refine g_lstore_n C dX6_stratifiedTotal_103 rfl (Nat.le_of_ble_eq_true rfl) (loc' := [(2, .long x2_12), (0, gR E o), (1, .int p1), (4, .int x4_2), (5, .int x5_3), (6, .int x6_4), (7, .int x7_5)]) rfl ?_
                obtain ⟨x4_13, ex4_13⟩ : ∃ y : Int32, y = x4_2 + 1 := ⟨_, rfl⟩
                have hw := hw x4_13 ex4_13
                refine g_iinc C (j := 0) dX6_stratifiedTotal_104 3 rfl (v := x4_13) (by rw [ex4_13]; rfl) (Nat.le_of_ble_eq_true rfl) (loc' := [(4, .int x4_13), (2, .long x2_12), (0, gR E o), (1, .int p1), (5, .int x5_3), (6, .int x6_4), (7, .int x7_5)]) rfl ?_
                refine g_goto C dX6_stratifiedTotal_107 (tgt := 5) (by decide) ?_
                refine g_sub [2, 3, 1, 0] rfl ?_
                exact ih5 _ _ hw
              · have hw := hw.2 c78
                refine g_lconst C dX6_stratifiedTotal_81 (v := 0) rfl ?_
                refine g_goto C dX6_stratifiedTotal_82 (tgt := 102) (by decide) ?_
                refine g_ladd C dX6_stratifiedTotal_102 ?_
                refine g_nmL (fun x2_14 ex2_14 => ?_)
                have hw := hw x2_14 ex2_14
                refine g_lstore_n C dX6_stratifiedTotal_103 rfl (Nat.le_of_ble_eq_true rfl) (loc' := [(2, .long x2_14), (0, gR E o), (1, .int p1), (4, .int x4_2), (5, .int x5_3), (6, .int x6_4), (7, .int x7_5)]) rfl ?_
                obtain ⟨x4_15, ex4_15⟩ : ∃ y : Int32, y = x4_2 + 1 := ⟨_, rfl⟩
                have hw := hw x4_15 ex4_15
                refine g_iinc C (j := 0) dX6_stratifiedTotal_104 3 rfl (v := x4_15) (by rw [ex4_15]; rfl) (Nat.le_of_ble_eq_true rfl) (loc' := [(4, .int x4_15), (2, .long x2_14), (0, gR E o), (1, .int p1), (5, .int x5_3), (6, .int x6_4), (7, .int x7_5)]) rfl ?_
                refine g_goto C dX6_stratifiedTotal_107 (tgt := 5) (by decide) ?_
                refine g_sub [2, 3, 1, 0] rfl ?_
                exact ih5 _ _ hw
            · have hw := hw.2 c27
              refine g_aload_n C dX6_stratifiedTotal_30 0 rfl rfl ?_
              refine g_iload_n C dX6_stratifiedTotal_31 1 rfl rfl ?_
              refine g_iload C (j := 0) dX6_stratifiedTotal_32 6 rfl ?_
              refine g_iconst C dX6_stratifiedTotal_34 (v := 2) rfl ?_
              refine g_cV C dX6_stratifiedTotal_35 (met_X6_item C.st hw) (gc_X6_item _ (Nat.le_of_ble_eq_true rfl) (Nat.le_of_ble_eq_true rfl)) tw1197 tw1199 twp38 (ci := 6) rfl (by decide) hk0 rfl (Nat.le_of_ble_eq_true rfl) (c2 := 0) (s2 := 0) rfl rfl (Nat.le_of_ble_eq_true rfl) (Nat.le_of_ble_eq_true rfl) rfl (kIp (fun r_16 hw => ?_)) tNo
              refine g_iload C (j := 0) dX6_stratifiedTotal_38 3 rfl ?_
              refine g_icmp_eq C dX6_stratifiedTotal_40 (tgt := 46) (by decide) (fun c40 => ?_) (fun c40 => ?_)
              · have hw := hw.1 c40
                obtain ⟨x5_18, ex5_18⟩ : ∃ y : Int32, y = x5_3 + 1 := ⟨_, rfl⟩
                have hw := hw x5_18 ex5_18
                refine g_iinc C (j := 0) dX6_stratifiedTotal_46 4 rfl (v := x5_18) (by rw [ex5_18]; rfl) (Nat.le_of_ble_eq_true rfl) (loc' := [(5, .int x5_18), (0, gR E o), (1, .int p1), (2, .long x2_1), (4, .int x4_2), (6, .int x6_4), (7, .int x7_5)]) rfl ?_
                refine g_iload C (j := 0) dX6_stratifiedTotal_49 5 rfl ?_
                refine g_aload_n C dX6_stratifiedTotal_51 1 rfl rfl ?_
                refine gf_RX6_19 C hk0 dX6_stratifiedTotal_52 ?_
                refine g_iload C (j := 0) dX6_stratifiedTotal_55 6 rfl ?_
                obtain ⟨hk_19, hw⟩ := hw
                obtain ⟨hi_20, hw⟩ := hw
                refine g_iaload C hk_19 hi_20 dX6_stratifiedTotal_57 ?_
                refine g_if_lt C dX6_stratifiedTotal_58 (tgt := 65) (by decide) (fun c58 => ?_) (fun c58 => ?_)
                · have hw := hw.1 c58
                  refine g_iconst C dX6_stratifiedTotal_65 (v := 0) rfl ?_
                  refine g_iadd C dX6_stratifiedTotal_66 ?_
                  refine g_nmI (fun x6_21 ex6_21 => ?_)
                  have hw := hw x6_21 ex6_21
                  refine g_istore C dX6_stratifiedTotal_67 (Nat.le_of_ble_eq_true rfl) (loc' := [(6, .int x6_21), (5, .int x5_18), (0, gR E o), (1, .int p1), (2, .long x2_1), (4, .int x4_2), (7, .int x7_5)]) rfl ?_
                  obtain ⟨x7_22, ex7_22⟩ : ∃ y : Int32, y = x7_5 + 1 := ⟨_, rfl⟩
                  have hw := hw x7_22 ex7_22
                  refine g_iinc C (j := 0) dX6_stratifiedTotal_69 6 rfl (v := x7_22) (by rw [ex7_22]; rfl) (Nat.le_of_ble_eq_true rfl) (loc' := [(7, .int x7_22), (6, .int x6_21), (5, .int x5_18), (0, gR E o), (1, .int p1), (2, .long x2_1), (4, .int x4_2)]) rfl ?_
                  refine g_goto C dX6_stratifiedTotal_72 (tgt := 20) (by decide) ?_
                  refine g_sub [3, 4, 5, 6, 2, 1, 0] rfl ?_
                  exact ih20 _ _ _ hw
                · have hw := hw.2 c58
                  refine g_iconst C dX6_stratifiedTotal_61 (v := 1) rfl ?_
                  refine g_goto C dX6_stratifiedTotal_62 (tgt := 66) (by decide) ?_
                  refine g_iadd C dX6_stratifiedTotal_66 ?_
                  refine g_nmI (fun x6_23 ex6_23 => ?_)
                  have hw := hw x6_23 ex6_23
                  refine g_istore C dX6_stratifiedTotal_67 (Nat.le_of_ble_eq_true rfl) (loc' := [(6, .int x6_23), (5, .int x5_18), (0, gR E o), (1, .int p1), (2, .long x2_1), (4, .int x4_2), (7, .int x7_5)]) rfl ?_
                  obtain ⟨x7_24, ex7_24⟩ : ∃ y : Int32, y = x7_5 + 1 := ⟨_, rfl⟩
                  have hw := hw x7_24 ex7_24
                  refine g_iinc C (j := 0) dX6_stratifiedTotal_69 6 rfl (v := x7_24) (by rw [ex7_24]; rfl) (Nat.le_of_ble_eq_true rfl) (loc' := [(7, .int x7_24), (6, .int x6_23), (5, .int x5_18), (0, gR E o), (1, .int p1), (2, .long x2_1), (4, .int x4_2)]) rfl ?_
                  refine g_goto C dX6_stratifiedTotal_72 (tgt := 20) (by decide) ?_
                  refine g_sub [3, 4, 5, 6, 2, 1, 0] rfl ?_
                  exact ih20 _ _ _ hw
              · have hw := hw.2 c40
                refine g_goto C dX6_stratifiedTotal_43 (tgt := 69) (by decide) ?_
                obtain ⟨x7_25, ex7_25⟩ : ∃ y : Int32, y = x7_5 + 1 := ⟨_, rfl⟩
                have hw := hw x7_25 ex7_25
                refine g_iinc C (j := 0) dX6_stratifiedTotal_69 6 rfl (v := x7_25) (by rw [ex7_25]; rfl) (Nat.le_of_ble_eq_true rfl) (loc' := [(7, .int x7_25), (0, gR E o), (1, .int p1), (2, .long x2_1), (4, .int x4_2), (5, .int x5_3), (6, .int x6_4)]) rfl ?_
                refine g_goto C dX6_stratifiedTotal_72 (tgt := 20) (by decide) ?_
                refine g_sub [1, 2, 3, 4, 5, 6, 0] rfl ?_
                exact ih20 _ _ _ hw
        refine g_sub [3, 4, 5, 6, 2, 1, 0] rfl ?_
        exact hL20 m20 _ _ _ hw
  refine g_sub [2, 3, 1, 0] rfl ?_
  exact hL5 m5 _ _ hw
theorem gc_X6_stratifiedTotal : ∀ rm : Room, rmX6_stratifiedTotal.frames + 1 ≤ rm.frames → 8 + (8 + 11) + rmX6_stratifiedTotal.locals ≤ rm.locals → gCall yX6_stratifiedTotal 8 1 rmX6_stratifiedTotal rm := fun rm a b => ⟨Or.inl ⟨_, _, tw1362⟩, tw8, ⟨by decide, by decide⟩, by decide, a, b⟩
abbrev rmX6_total : Room := { frames := 4, cells := 0, slots := 0, locals := 99 }
def wp_X6_total (o : Nat) (p1 : Int32) (M : MEM) (Q : Int64 → Prop) : Prop := KD o = (16, 0) ∧ ((¬ (mI M o 6) = 0 → (wp_X6_of o p1 1 M (fun r_1 => ((r_1.toInt < 0 ∨ 2 < r_1.toInt) → (wp_X6_sampleTotal o p1 (-1) M (fun r_3 => wp_X6_countOf o p1 M (fun r_5 => wp_X6_rounded (r_3 * r_5) ((mI M o 6 : Int32).toInt64) M (fun r_7 => Q r_7))))) ∧ (r_1 = nI 0 → (wp_X6_sampleTotal o p1 (-1) M (fun r_9 => wp_X6_many o p1 M (fun r_11 => wp_X6_rounded (r_9 * r_11.toInt64) ((mI M o 6 : Int32).toInt64) M (fun r_13 => Q r_13))))) ∧ (r_1 = nI 1 → (wp_X6_weightedTotal o p1 M (fun r_15 => Q r_15))) ∧ (r_1 = nI 2 → (wp_X6_stratifiedTotal o p1 M (fun r_17 => Q r_17)))))) ∧ ((mI M o 6) = 0 → (Q 0)))
set_option maxRecDepth 100000 in
set_option maxHeartbeats 4000000 in
theorem met_X6_total {l : Launch} (hl : l.stackTraces = false) {E : MK} {o : Nat} {p1 : Int32} {M : MEM} {Q : Int64 → Prop} (hw : wp_X6_total o p1 M Q) : gMet l E yX6_total rmX6_total [gR E o, .int p1] M (qLp M Q) gNo := by
  obtain ⟨hk0, hw⟩ := hw
  refine g_met hl (cc := cX6_total) (maxL := 2) (ret := (some .long)) (hh := []) (loc := [(0, gR E o), (1, .int p1)]) (by decide +kernel) (Or.inl ⟨tw1340, rfl⟩) (Nat.le_of_ble_eq_true rfl) rfl (fun K hK C => ?_)
  have C : GC K E cX6_total RX6 2 (some .long) [] rmX6_total := C
  refine g_aload_n C dX6_total_0 0 rfl rfl ?_
  refine gf_RX6_160 C hk0 dX6_total_1 ?_
  refine g_if_ne C dX6_total_4 (tgt := 9) (by decide) (fun c4 => ?_) (fun c4 => ?_)
  · have hw := hw.1 c4
    refine g_aload_n C dX6_total_9 0 rfl rfl ?_
    refine g_iload_n C dX6_total_10 1 rfl rfl ?_
    refine g_iconst C dX6_total_11 (v := 1) rfl ?_
    refine g_cV C dX6_total_12 (met_X6_of C.st hw) (gc_X6_of _ (Nat.le_of_ble_eq_true rfl) (Nat.le_of_ble_eq_true rfl)) tw1160 tw1162 twp33 (ci := 6) rfl (by decide) hk0 rfl (Nat.le_of_ble_eq_true rfl) (c2 := 0) (s2 := 0) rfl rfl (Nat.le_of_ble_eq_true rfl) (Nat.le_of_ble_eq_true rfl) rfl (kIp (fun r_1 hw => ?_)) tNo
    rcases sw_cases r_1 3 (by decide) with c15 | ⟨i15, hi15, c15⟩
    · have hw := hw.1 c15
      refine g_tableOut C dX6_total_15 c15 (tgt := 74) (by decide) ?_
      refine g_aload_n C dX6_total_74 0 rfl rfl ?_
      refine g_iload_n C dX6_total_75 1 rfl rfl ?_
      refine g_iconst C dX6_total_76 (v := (-1)) rfl ?_
      refine g_cV C dX6_total_77 (met_X6_sampleTotal C.st hw) (gc_X6_sampleTotal _ (Nat.le_of_ble_eq_true rfl) (Nat.le_of_ble_eq_true rfl)) tw1341 tw1343 twp55 (ci := 6) rfl (by decide) hk0 rfl (Nat.le_of_ble_eq_true rfl) (c2 := 0) (s2 := 0) rfl rfl (Nat.le_of_ble_eq_true rfl) (Nat.le_of_ble_eq_true rfl) rfl (kLp (fun r_3 hw => ?_)) tNo
      refine g_aload_n C dX6_total_80 0 rfl rfl ?_
      refine g_iload_n C dX6_total_81 1 rfl rfl ?_
      refine g_cV C dX6_total_82 (met_X6_countOf C.st hw) (gc_X6_countOf _ (Nat.le_of_ble_eq_true rfl) (Nat.le_of_ble_eq_true rfl)) tw1363 tw1365 twp59 (ci := 6) rfl (by decide) hk0 rfl (Nat.le_of_ble_eq_true rfl) (c2 := 0) (s2 := 0) rfl rfl (Nat.le_of_ble_eq_true rfl) (Nat.le_of_ble_eq_true rfl) rfl (kLp (fun r_5 hw => ?_)) tNo
      refine g_lmul C dX6_total_85 ?_
      refine g_aload_n C dX6_total_86 0 rfl rfl ?_
      refine gf_RX6_160 C hk0 dX6_total_87 ?_
      refine g_i2l C dX6_total_90 ?_
      refine g_cS C dX6_total_91 (met_X6_rounded C.st hw) (gc_X6_rounded _ (Nat.le_of_ble_eq_true rfl) (Nat.le_of_ble_eq_true rfl)) (Or.inl tw1349) tw1350 rfl (Nat.le_of_ble_eq_true rfl) (c2 := 0) (s2 := 0) rfl rfl (Nat.le_of_ble_eq_true rfl) (Nat.le_of_ble_eq_true rfl) rfl (kLp (fun r_7 hw => ?_)) tNo
      exact g_lret C dX6_total_94 (Nat.le_of_ble_eq_true rfl) (Nat.le_of_ble_eq_true rfl) ⟨_, rfl, rfl, hw⟩
    · rcases (show i15 = 0 ∨ i15 = 1 ∨ i15 = 2 by omega) with rfl | rfl | rfl
      · have hw := hw.2.1 c15
        refine g_tableIn C dX6_total_15 (by rw [c15]; decide) (by rw [c15]; decide) (off := 25) (by rw [c15]; rfl) (tgt := 40) (by decide) ?_
        refine g_aload_n C dX6_total_40 0 rfl rfl ?_
        refine g_iload_n C dX6_total_41 1 rfl rfl ?_
        refine g_iconst C dX6_total_42 (v := (-1)) rfl ?_
        refine g_cV C dX6_total_43 (met_X6_sampleTotal C.st hw) (gc_X6_sampleTotal _ (Nat.le_of_ble_eq_true rfl) (Nat.le_of_ble_eq_true rfl)) tw1341 tw1343 twp55 (ci := 6) rfl (by decide) hk0 rfl (Nat.le_of_ble_eq_true rfl) (c2 := 0) (s2 := 0) rfl rfl (Nat.le_of_ble_eq_true rfl) (Nat.le_of_ble_eq_true rfl) rfl (kLp (fun r_9 hw => ?_)) tNo
        refine g_aload_n C dX6_total_46 0 rfl rfl ?_
        refine g_iload_n C dX6_total_47 1 rfl rfl ?_
        refine g_cV C dX6_total_48 (met_X6_many C.st hw) (gc_X6_many _ (Nat.le_of_ble_eq_true rfl) (Nat.le_of_ble_eq_true rfl)) tw1156 tw1158 twp32 (ci := 6) rfl (by decide) hk0 rfl (Nat.le_of_ble_eq_true rfl) (c2 := 0) (s2 := 0) rfl rfl (Nat.le_of_ble_eq_true rfl) (Nat.le_of_ble_eq_true rfl) rfl (kIp (fun r_11 hw => ?_)) tNo
        refine g_i2l C dX6_total_51 ?_
        refine g_lmul C dX6_total_52 ?_
        refine g_aload_n C dX6_total_53 0 rfl rfl ?_
        refine gf_RX6_160 C hk0 dX6_total_54 ?_
        refine g_i2l C dX6_total_57 ?_
        refine g_cS C dX6_total_58 (met_X6_rounded C.st hw) (gc_X6_rounded _ (Nat.le_of_ble_eq_true rfl) (Nat.le_of_ble_eq_true rfl)) (Or.inl tw1349) tw1350 rfl (Nat.le_of_ble_eq_true rfl) (c2 := 0) (s2 := 0) rfl rfl (Nat.le_of_ble_eq_true rfl) (Nat.le_of_ble_eq_true rfl) rfl (kLp (fun r_13 hw => ?_)) tNo
        exact g_lret C dX6_total_61 (Nat.le_of_ble_eq_true rfl) (Nat.le_of_ble_eq_true rfl) ⟨_, rfl, rfl, hw⟩
      · have hw := hw.2.2.1 c15
        refine g_tableIn C dX6_total_15 (by rw [c15]; decide) (by rw [c15]; decide) (off := 47) (by rw [c15]; rfl) (tgt := 62) (by decide) ?_
        refine g_aload_n C dX6_total_62 0 rfl rfl ?_
        refine g_iload_n C dX6_total_63 1 rfl rfl ?_
        refine g_cV C dX6_total_64 (met_X6_weightedTotal C.st hw) (gc_X6_weightedTotal _ (Nat.le_of_ble_eq_true rfl) (Nat.le_of_ble_eq_true rfl)) tw1354 tw1356 twp57 (ci := 6) rfl (by decide) hk0 rfl (Nat.le_of_ble_eq_true rfl) (c2 := 0) (s2 := 0) rfl rfl (Nat.le_of_ble_eq_true rfl) (Nat.le_of_ble_eq_true rfl) rfl (kLp (fun r_15 hw => ?_)) tNo
        exact g_lret C dX6_total_67 (Nat.le_of_ble_eq_true rfl) (Nat.le_of_ble_eq_true rfl) ⟨_, rfl, rfl, hw⟩
      · have hw := hw.2.2.2 c15
        refine g_tableIn C dX6_total_15 (by rw [c15]; decide) (by rw [c15]; decide) (off := 53) (by rw [c15]; rfl) (tgt := 68) (by decide) ?_
        refine g_aload_n C dX6_total_68 0 rfl rfl ?_
        refine g_iload_n C dX6_total_69 1 rfl rfl ?_
        refine g_cV C dX6_total_70 (met_X6_stratifiedTotal C.st hw) (gc_X6_stratifiedTotal _ (Nat.le_of_ble_eq_true rfl) (Nat.le_of_ble_eq_true rfl)) tw1359 tw1361 twp58 (ci := 6) rfl (by decide) hk0 rfl (Nat.le_of_ble_eq_true rfl) (c2 := 0) (s2 := 0) rfl rfl (Nat.le_of_ble_eq_true rfl) (Nat.le_of_ble_eq_true rfl) rfl (kLp (fun r_17 hw => ?_)) tNo
        exact g_lret C dX6_total_73 (Nat.le_of_ble_eq_true rfl) (Nat.le_of_ble_eq_true rfl) ⟨_, rfl, rfl, hw⟩
  · have hw := hw.2 c4
    refine g_lconst C dX6_total_7 (v := 0) rfl ?_
    exact g_lret C dX6_total_8 (Nat.le_of_ble_eq_true rfl) (Nat.le_of_ble_eq_true rfl) ⟨_, rfl, rfl, hw⟩
theorem gc_X6_total : ∀ rm : Room, rmX6_total.frames + 1 ≤ rm.frames → 8 + (2 + 11) + rmX6_total.locals ≤ rm.locals → gCall yX6_total 2 1 rmX6_total rm := fun rm a b => ⟨Or.inl ⟨_, _, tw1340⟩, tw8, ⟨by decide, by decide⟩, by decide, a, b⟩
abbrev rmX6_totals : Room := { frames := 0, cells := 0, slots := 0, locals := 0 }
def wp_X6_totals (o : Nat) (p1 : Int32) (p2 : Int32) (p3 : Int32) (M : MEM) (Q : MEM → Prop) : Prop := KD o = (16, 0) ∧ ((∀ M_1 : MEM, M_1 = uI M o 11 p1 → ((∀ M_2 : MEM, M_2 = uI M_1 o 12 p2 → ((gB p3 ∧ (∀ M_3 : MEM, M_3 = uI M_2 o 13 p3 → (Q M_3))))))))
set_option maxRecDepth 100000 in
set_option maxHeartbeats 4000000 in
theorem met_X6_totals {l : Launch} (hl : l.stackTraces = false) {E : MK} {o : Nat} {p1 : Int32} {p2 : Int32} {p3 : Int32} {M : MEM} {Q : MEM → Prop} (hw : wp_X6_totals o p1 p2 p3 M Q) : gMet l E yX6_totals rmX6_totals [gR E o, .int p1, .int p2, .int p3] M (qV Q) gNo := by
  obtain ⟨hk0, hw⟩ := hw
  refine g_met hl (cc := cX6_totals) (maxL := 4) (ret := none) (hh := []) (loc := [(0, gR E o), (1, .int p1), (2, .int p2), (3, .int p3)]) (by decide +kernel) (Or.inl ⟨tw1336, rfl⟩) (Nat.le_of_ble_eq_true rfl) rfl (fun K hK C => ?_)
  have C : GC K E cX6_totals RX6 4 none [] rmX6_totals := C
  refine g_aload_n C dX6_totals_0 0 rfl rfl ?_
  refine g_iload_n C dX6_totals_1 1 rfl rfl ?_
  refine pf_RX6_205 C hk0 dX6_totals_2 ?_
  refine g_nmM (fun M_1 eM_1 => ?_)
  have hw := hw M_1 eM_1
  refine g_aload_n C dX6_totals_5 0 rfl rfl ?_
  refine g_iload_n C dX6_totals_6 2 rfl rfl ?_
  refine pf_RX6_208 C hk0 dX6_totals_7 ?_
  refine g_nmM (fun M_2 eM_2 => ?_)
  have hw := hw M_2 eM_2
  refine g_aload_n C dX6_totals_10 0 rfl rfl ?_
  refine g_iload_n C dX6_totals_11 3 rfl rfl ?_
  obtain ⟨hb_4, hw⟩ := hw
  refine pf_RX6_211 C hk0 hb_4 dX6_totals_12 ?_
  refine g_nmM (fun M_3 eM_3 => ?_)
  have hw := hw M_3 eM_3
  exact g_vret C dX6_totals_15 (Nat.le_of_ble_eq_true rfl) (Nat.le_of_ble_eq_true rfl) ⟨rfl, hw⟩
theorem gc_X6_totals : ∀ rm : Room, rmX6_totals.frames + 1 ≤ rm.frames → 8 + (4 + 11) + rmX6_totals.locals ≤ rm.locals → gCall yX6_totals 4 3 rmX6_totals rm := fun rm a b => ⟨Or.inl ⟨_, _, tw1336⟩, tw8, ⟨by decide, by decide⟩, by decide, a, b⟩
abbrev rmX6_estimateKeys : Room := { frames := 5, cells := 0, slots := 0, locals := 120 }
def wp_X6_estimateKeys (o : Nat) (p1 : Int32) (p2 : Int32) (p3 : Int32) (p4 : Int32) (M : MEM) (Q : Int64 → MEM → Prop) : Prop := KD o = (16, 0) ∧ (wp_X6_isSlot p1 M (fun r_1 => (¬ r_1 = 0 → (wp_X6_isThere o p1 M (fun r_3 => (¬ r_3 = 0 → ((∀ M_5 : MEM, M_5 = uI M o 0 0 → (wp_X6_finds o p1 M_5 (fun M_7 => wp_X6_totals o p2 p3 p4 M_7 (fun M_9 => wp_X6_total o p1 M_9 (fun r_10 => Q r_10 M_9))))))) ∧ (r_3 = 0 → (wp_X6_fails o 2 M (fun r_12 M_13 => Q r_12.toInt64 M_13)))))) ∧ (r_1 = 0 → (wp_X6_fails o 1 M (fun r_14 M_15 => Q r_14.toInt64 M_15)))))
set_option maxRecDepth 100000 in
set_option maxHeartbeats 4000000 in
theorem met_X6_estimateKeys {l : Launch} (hl : l.stackTraces = false) {E : MK} {o : Nat} {p1 : Int32} {p2 : Int32} {p3 : Int32} {p4 : Int32} {M : MEM} {Q : Int64 → MEM → Prop} (hw : wp_X6_estimateKeys o p1 p2 p3 p4 M Q) : gMet l E yX6_estimateKeys rmX6_estimateKeys [gR E o, .int p1, .int p2, .int p3, .int p4] M (qL Q) gNo := by
  obtain ⟨hk0, hw⟩ := hw
  refine g_met hl (cc := cX6_estimateKeys) (maxL := 5) (ret := (some .long)) (hh := []) (loc := [(0, gR E o), (1, .int p1), (2, .int p2), (3, .int p3), (4, .int p4)]) (by decide +kernel) (Or.inl ⟨tw1332, rfl⟩) (Nat.le_of_ble_eq_true rfl) rfl (fun K hK C => ?_)
  have C : GC K E cX6_estimateKeys RX6 5 (some .long) [] rmX6_estimateKeys := C
  refine g_iload_n C dX6_estimateKeys_0 1 rfl rfl ?_
  refine g_cS C dX6_estimateKeys_1 (met_X6_isSlot C.st hw) (gc_X6_isSlot _ (Nat.le_of_ble_eq_true rfl) (Nat.le_of_ble_eq_true rfl)) (Or.inl tw1128) tw1129 rfl (Nat.le_of_ble_eq_true rfl) (c2 := 0) (s2 := 0) rfl rfl (Nat.le_of_ble_eq_true rfl) (Nat.le_of_ble_eq_true rfl) rfl (kIp (fun r_1 hw => ?_)) tNo
  refine g_if_ne C dX6_estimateKeys_4 (tgt := 14) (by decide) (fun c4 => ?_) (fun c4 => ?_)
  · have hw := hw.1 c4
    refine g_aload_n C dX6_estimateKeys_14 0 rfl rfl ?_
    refine g_iload_n C dX6_estimateKeys_15 1 rfl rfl ?_
    refine g_cV C dX6_estimateKeys_16 (met_X6_isThere C.st hw) (gc_X6_isThere _ (Nat.le_of_ble_eq_true rfl) (Nat.le_of_ble_eq_true rfl)) tw1152 tw1154 twp31 (ci := 6) rfl (by decide) hk0 rfl (Nat.le_of_ble_eq_true rfl) (c2 := 0) (s2 := 0) rfl rfl (Nat.le_of_ble_eq_true rfl) (Nat.le_of_ble_eq_true rfl) rfl (kIp (fun r_3 hw => ?_)) tNo
    refine g_if_ne C dX6_estimateKeys_19 (tgt := 29) (by decide) (fun c19 => ?_) (fun c19 => ?_)
    · have hw := hw.1 c19
      refine g_aload_n C dX6_estimateKeys_29 0 rfl rfl ?_
      refine g_iconst C dX6_estimateKeys_30 (v := 0) rfl ?_
      refine pf_RX6_57 C hk0 dX6_estimateKeys_31 ?_
      refine g_nmM (fun M_5 eM_5 => ?_)
      have hw := hw M_5 eM_5
      refine g_aload_n C dX6_estimateKeys_34 0 rfl rfl ?_
      refine g_iload_n C dX6_estimateKeys_35 1 rfl rfl ?_
      refine g_cV C dX6_estimateKeys_36 (met_X6_finds C.st hw) (gc_X6_finds _ (Nat.le_of_ble_eq_true rfl) (Nat.le_of_ble_eq_true rfl)) tw1216 tw1218 twp40 (ci := 6) rfl (by decide) hk0 rfl (Nat.le_of_ble_eq_true rfl) (c2 := 0) (s2 := 0) rfl rfl (Nat.le_of_ble_eq_true rfl) (Nat.le_of_ble_eq_true rfl) rfl (kV (fun M_7 hw => ?_)) tNo
      refine g_aload_n C dX6_estimateKeys_39 0 rfl rfl ?_
      refine g_iload_n C dX6_estimateKeys_40 2 rfl rfl ?_
      refine g_iload_n C dX6_estimateKeys_41 3 rfl rfl ?_
      refine g_iload C (j := 0) dX6_estimateKeys_42 4 rfl ?_
      refine g_cV C dX6_estimateKeys_44 (met_X6_totals C.st hw) (gc_X6_totals _ (Nat.le_of_ble_eq_true rfl) (Nat.le_of_ble_eq_true rfl)) tw1333 tw1335 twp53 (ci := 6) rfl (by decide) hk0 rfl (Nat.le_of_ble_eq_true rfl) (c2 := 0) (s2 := 0) rfl rfl (Nat.le_of_ble_eq_true rfl) (Nat.le_of_ble_eq_true rfl) rfl (kV (fun M_9 hw => ?_)) tNo
      refine g_aload_n C dX6_estimateKeys_47 0 rfl rfl ?_
      refine g_iload_n C dX6_estimateKeys_48 1 rfl rfl ?_
      refine g_cV C dX6_estimateKeys_49 (met_X6_total C.st hw) (gc_X6_total _ (Nat.le_of_ble_eq_true rfl) (Nat.le_of_ble_eq_true rfl)) tw1337 tw1339 twp54 (ci := 6) rfl (by decide) hk0 rfl (Nat.le_of_ble_eq_true rfl) (c2 := 0) (s2 := 0) rfl rfl (Nat.le_of_ble_eq_true rfl) (Nat.le_of_ble_eq_true rfl) rfl (kLp (fun r_10 hw => ?_)) tNo
      exact g_lret C dX6_estimateKeys_52 (Nat.le_of_ble_eq_true rfl) (Nat.le_of_ble_eq_true rfl) ⟨_, rfl, hw⟩
    · have hw := hw.2 c19
      refine g_aload_n C dX6_estimateKeys_22 0 rfl rfl ?_
      refine g_iconst C dX6_estimateKeys_23 (v := 2) rfl ?_
      refine g_cV C dX6_estimateKeys_24 (met_X6_fails C.st hw) (gc_X6_fails _ (Nat.le_of_ble_eq_true rfl) (Nat.le_of_ble_eq_true rfl)) tw1131 tw1133 twp28 (ci := 6) rfl (by decide) hk0 rfl (Nat.le_of_ble_eq_true rfl) (c2 := 0) (s2 := 0) rfl rfl (Nat.le_of_ble_eq_true rfl) (Nat.le_of_ble_eq_true rfl) rfl (kI (fun r_12 M_13 hw => ?_)) tNo
      refine g_i2l C dX6_estimateKeys_27 ?_
      exact g_lret C dX6_estimateKeys_28 (Nat.le_of_ble_eq_true rfl) (Nat.le_of_ble_eq_true rfl) ⟨_, rfl, hw⟩
  · have hw := hw.2 c4
    refine g_aload_n C dX6_estimateKeys_7 0 rfl rfl ?_
    refine g_iconst C dX6_estimateKeys_8 (v := 1) rfl ?_
    refine g_cV C dX6_estimateKeys_9 (met_X6_fails C.st hw) (gc_X6_fails _ (Nat.le_of_ble_eq_true rfl) (Nat.le_of_ble_eq_true rfl)) tw1131 tw1133 twp28 (ci := 6) rfl (by decide) hk0 rfl (Nat.le_of_ble_eq_true rfl) (c2 := 0) (s2 := 0) rfl rfl (Nat.le_of_ble_eq_true rfl) (Nat.le_of_ble_eq_true rfl) rfl (kI (fun r_14 M_15 hw => ?_)) tNo
    refine g_i2l C dX6_estimateKeys_12 ?_
    exact g_lret C dX6_estimateKeys_13 (Nat.le_of_ble_eq_true rfl) (Nat.le_of_ble_eq_true rfl) ⟨_, rfl, hw⟩
theorem gc_X6_estimateKeys : ∀ rm : Room, rmX6_estimateKeys.frames + 1 ≤ rm.frames → 8 + (5 + 11) + rmX6_estimateKeys.locals ≤ rm.locals → gCall yX6_estimateKeys 5 4 rmX6_estimateKeys rm := fun rm a b => ⟨Or.inl ⟨_, _, tw1332⟩, tw8, ⟨by decide, by decide⟩, by decide, a, b⟩
abbrev rmX6_estimate : Room := { frames := 5, cells := 0, slots := 0, locals := 120 }
def wp_X6_estimate_J72 (o : Nat) (p1 : Int32) (p2 : Int32) (Q : Int64 → MEM → Prop) (M_9 : MEM) (s_10 : Int32) : Prop := wp_X6_totals o 0 99 s_10 M_9 (fun M_12 => (¬ p2 = 0 → (wp_X6_total o p1 M_12 (fun r_13 => Q r_13 M_12))) ∧ (p2 = 0 → (wp_X6_countOf o p1 M_12 (fun r_15 => Q r_15 M_12))))
def wp_X6_estimate (o : Nat) (p1 : Int32) (p2 : Int32) (M : MEM) (Q : Int64 → MEM → Prop) : Prop := KD o = (16, 0) ∧ (wp_X6_isSlot p1 M (fun r_1 => (¬ r_1 = 0 → (wp_X6_isBetween p2.toInt64 0 2 M (fun r_3 => (¬ r_3 = 0 → (wp_X6_isThere o p1 M (fun r_5 => (¬ r_5 = 0 → ((∀ M_7 : MEM, M_7 = uI M o 0 0 → (wp_X6_finds o p1 M_7 (fun M_9 => (¬ p2 = 2 → (wp_X6_estimate_J72 o p1 p2 Q M_9 0)) ∧ (p2 = 2 → (wp_X6_estimate_J72 o p1 p2 Q M_9 1))))))) ∧ (r_5 = 0 → (wp_X6_fails o 3 M (fun r_17 M_18 => Q r_17.toInt64 M_18)))))) ∧ (r_3 = 0 → (wp_X6_fails o 2 M (fun r_19 M_20 => Q r_19.toInt64 M_20)))))) ∧ (r_1 = 0 → (wp_X6_fails o 1 M (fun r_21 M_22 => Q r_21.toInt64 M_22)))))
set_option maxRecDepth 100000 in
set_option maxHeartbeats 4000000 in
theorem met_X6_estimate {l : Launch} (hl : l.stackTraces = false) {E : MK} {o : Nat} {p1 : Int32} {p2 : Int32} {M : MEM} {Q : Int64 → MEM → Prop} (hw : wp_X6_estimate o p1 p2 M Q) : gMet l E yX6_estimate rmX6_estimate [gR E o, .int p1, .int p2] M (qL Q) gNo := by
  obtain ⟨hk0, hw⟩ := hw
  refine g_met hl (cc := cX6_estimate) (maxL := 3) (ret := (some .long)) (hh := []) (loc := [(0, gR E o), (1, .int p1), (2, .int p2)]) (by decide +kernel) (Or.inl ⟨tw1370, rfl⟩) (Nat.le_of_ble_eq_true rfl) rfl (fun K hK C => ?_)
  have C : GC K E cX6_estimate RX6 3 (some .long) [] rmX6_estimate := C
  refine g_iload_n C dX6_estimate_0 1 rfl rfl ?_
  refine g_cS C dX6_estimate_1 (met_X6_isSlot C.st hw) (gc_X6_isSlot _ (Nat.le_of_ble_eq_true rfl) (Nat.le_of_ble_eq_true rfl)) (Or.inl tw1128) tw1129 rfl (Nat.le_of_ble_eq_true rfl) (c2 := 0) (s2 := 0) rfl rfl (Nat.le_of_ble_eq_true rfl) (Nat.le_of_ble_eq_true rfl) rfl (kIp (fun r_1 hw => ?_)) tNo
  refine g_if_ne C dX6_estimate_4 (tgt := 14) (by decide) (fun c4 => ?_) (fun c4 => ?_)
  · have hw := hw.1 c4
    refine g_iload_n C dX6_estimate_14 2 rfl rfl ?_
    refine g_i2l C dX6_estimate_15 ?_
    refine g_lconst C dX6_estimate_16 (v := 0) rfl ?_
    refine g_ldc2 C dX6_estimate_17 tw1352 ?_
    refine g_cS C dX6_estimate_20 (met_X6_isBetween C.st hw) (gc_X6_isBetween _ (Nat.le_of_ble_eq_true rfl) (Nat.le_of_ble_eq_true rfl)) (Or.inl tw1139) tw1140 rfl (Nat.le_of_ble_eq_true rfl) (c2 := 0) (s2 := 0) rfl rfl (Nat.le_of_ble_eq_true rfl) (Nat.le_of_ble_eq_true rfl) rfl (kIp (fun r_3 hw => ?_)) tNo
    refine g_if_ne C dX6_estimate_23 (tgt := 33) (by decide) (fun c23 => ?_) (fun c23 => ?_)
    · have hw := hw.1 c23
      refine g_aload_n C dX6_estimate_33 0 rfl rfl ?_
      refine g_iload_n C dX6_estimate_34 1 rfl rfl ?_
      refine g_cV C dX6_estimate_35 (met_X6_isThere C.st hw) (gc_X6_isThere _ (Nat.le_of_ble_eq_true rfl) (Nat.le_of_ble_eq_true rfl)) tw1152 tw1154 twp31 (ci := 6) rfl (by decide) hk0 rfl (Nat.le_of_ble_eq_true rfl) (c2 := 0) (s2 := 0) rfl rfl (Nat.le_of_ble_eq_true rfl) (Nat.le_of_ble_eq_true rfl) rfl (kIp (fun r_5 hw => ?_)) tNo
      refine g_if_ne C dX6_estimate_38 (tgt := 48) (by decide) (fun c38 => ?_) (fun c38 => ?_)
      · have hw := hw.1 c38
        refine g_aload_n C dX6_estimate_48 0 rfl rfl ?_
        refine g_iconst C dX6_estimate_49 (v := 0) rfl ?_
        refine pf_RX6_57 C hk0 dX6_estimate_50 ?_
        refine g_nmM (fun M_7 eM_7 => ?_)
        have hw := hw M_7 eM_7
        refine g_aload_n C dX6_estimate_53 0 rfl rfl ?_
        refine g_iload_n C dX6_estimate_54 1 rfl rfl ?_
        refine g_cV C dX6_estimate_55 (met_X6_finds C.st hw) (gc_X6_finds _ (Nat.le_of_ble_eq_true rfl) (Nat.le_of_ble_eq_true rfl)) tw1216 tw1218 twp40 (ci := 6) rfl (by decide) hk0 rfl (Nat.le_of_ble_eq_true rfl) (c2 := 0) (s2 := 0) rfl rfl (Nat.le_of_ble_eq_true rfl) (Nat.le_of_ble_eq_true rfl) rfl (kV (fun M_9 hw => ?_)) tNo
        refine g_aload_n C dX6_estimate_58 0 rfl rfl ?_
        refine g_iconst C dX6_estimate_59 (v := 0) rfl ?_
        refine g_bipush C dX6_estimate_60 (v := 99) rfl ?_
        refine g_iload_n C dX6_estimate_62 2 rfl rfl ?_
        refine g_iconst C dX6_estimate_63 (v := 2) rfl ?_
        have hJ72 : ∀ (s_10 : Int32), wp_X6_estimate_J72 o p1 p2 Q M_9 s_10 → GX K E 3 M_9 [(0, gR E o), (1, .int p1), (2, .int p2)] [.int s_10, .int 99, .int 0, gR E o] 72 0 0 (gEnd K E (qL Q) gNo rmX6_estimate.cells rmX6_estimate.slots) := by
          intro s_10 hw
          refine g_cV C dX6_estimate_72 (met_X6_totals C.st hw) (gc_X6_totals _ (Nat.le_of_ble_eq_true rfl) (Nat.le_of_ble_eq_true rfl)) tw1333 tw1335 twp53 (ci := 6) rfl (by decide) hk0 rfl (Nat.le_of_ble_eq_true rfl) (c2 := 0) (s2 := 0) rfl rfl (Nat.le_of_ble_eq_true rfl) (Nat.le_of_ble_eq_true rfl) rfl (kV (fun M_12 hw => ?_)) tNo
          refine g_iload_n C dX6_estimate_75 2 rfl rfl ?_
          refine g_if_ne C dX6_estimate_76 (tgt := 87) (by decide) (fun c76 => ?_) (fun c76 => ?_)
          · have hw := hw.1 c76
            refine g_aload_n C dX6_estimate_87 0 rfl rfl ?_
            refine g_iload_n C dX6_estimate_88 1 rfl rfl ?_
            refine g_cV C dX6_estimate_89 (met_X6_total C.st hw) (gc_X6_total _ (Nat.le_of_ble_eq_true rfl) (Nat.le_of_ble_eq_true rfl)) tw1337 tw1339 twp54 (ci := 6) rfl (by decide) hk0 rfl (Nat.le_of_ble_eq_true rfl) (c2 := 0) (s2 := 0) rfl rfl (Nat.le_of_ble_eq_true rfl) (Nat.le_of_ble_eq_true rfl) rfl (kLp (fun r_13 hw => ?_)) tNo
            exact g_lret C dX6_estimate_92 (Nat.le_of_ble_eq_true rfl) (Nat.le_of_ble_eq_true rfl) ⟨_, rfl, hw⟩
          · have hw := hw.2 c76
            refine g_aload_n C dX6_estimate_79 0 rfl rfl ?_
            refine g_iload_n C dX6_estimate_80 1 rfl rfl ?_
            refine g_cV C dX6_estimate_81 (met_X6_countOf C.st hw) (gc_X6_countOf _ (Nat.le_of_ble_eq_true rfl) (Nat.le_of_ble_eq_true rfl)) tw1363 tw1365 twp59 (ci := 6) rfl (by decide) hk0 rfl (Nat.le_of_ble_eq_true rfl) (c2 := 0) (s2 := 0) rfl rfl (Nat.le_of_ble_eq_true rfl) (Nat.le_of_ble_eq_true rfl) rfl (kLp (fun r_15 hw => ?_)) tNo
            refine g_goto C dX6_estimate_84 (tgt := 92) (by decide) ?_
            exact g_lret C dX6_estimate_92 (Nat.le_of_ble_eq_true rfl) (Nat.le_of_ble_eq_true rfl) ⟨_, rfl, hw⟩
        refine g_icmp_ne C dX6_estimate_64 (tgt := 71) (by decide) (fun c64 => ?_) (fun c64 => ?_)
        · have hw := hw.1 c64
          refine g_iconst C dX6_estimate_71 (v := 0) rfl ?_
          exact hJ72 _ hw
        · have hw := hw.2 c64
          refine g_iconst C dX6_estimate_67 (v := 1) rfl ?_
          refine g_goto C dX6_estimate_68 (tgt := 72) (by decide) ?_
          exact hJ72 _ hw
      · have hw := hw.2 c38
        refine g_aload_n C dX6_estimate_41 0 rfl rfl ?_
        refine g_iconst C dX6_estimate_42 (v := 3) rfl ?_
        refine g_cV C dX6_estimate_43 (met_X6_fails C.st hw) (gc_X6_fails _ (Nat.le_of_ble_eq_true rfl) (Nat.le_of_ble_eq_true rfl)) tw1131 tw1133 twp28 (ci := 6) rfl (by decide) hk0 rfl (Nat.le_of_ble_eq_true rfl) (c2 := 0) (s2 := 0) rfl rfl (Nat.le_of_ble_eq_true rfl) (Nat.le_of_ble_eq_true rfl) rfl (kI (fun r_17 M_18 hw => ?_)) tNo
        refine g_i2l C dX6_estimate_46 ?_
        exact g_lret C dX6_estimate_47 (Nat.le_of_ble_eq_true rfl) (Nat.le_of_ble_eq_true rfl) ⟨_, rfl, hw⟩
    · have hw := hw.2 c23
      refine g_aload_n C dX6_estimate_26 0 rfl rfl ?_
      refine g_iconst C dX6_estimate_27 (v := 2) rfl ?_
      refine g_cV C dX6_estimate_28 (met_X6_fails C.st hw) (gc_X6_fails _ (Nat.le_of_ble_eq_true rfl) (Nat.le_of_ble_eq_true rfl)) tw1131 tw1133 twp28 (ci := 6) rfl (by decide) hk0 rfl (Nat.le_of_ble_eq_true rfl) (c2 := 0) (s2 := 0) rfl rfl (Nat.le_of_ble_eq_true rfl) (Nat.le_of_ble_eq_true rfl) rfl (kI (fun r_19 M_20 hw => ?_)) tNo
      refine g_i2l C dX6_estimate_31 ?_
      exact g_lret C dX6_estimate_32 (Nat.le_of_ble_eq_true rfl) (Nat.le_of_ble_eq_true rfl) ⟨_, rfl, hw⟩
  · have hw := hw.2 c4
    refine g_aload_n C dX6_estimate_7 0 rfl rfl ?_
    refine g_iconst C dX6_estimate_8 (v := 1) rfl ?_
    refine g_cV C dX6_estimate_9 (met_X6_fails C.st hw) (gc_X6_fails _ (Nat.le_of_ble_eq_true rfl) (Nat.le_of_ble_eq_true rfl)) tw1131 tw1133 twp28 (ci := 6) rfl (by decide) hk0 rfl (Nat.le_of_ble_eq_true rfl) (c2 := 0) (s2 := 0) rfl rfl (Nat.le_of_ble_eq_true rfl) (Nat.le_of_ble_eq_true rfl) rfl (kI (fun r_21 M_22 hw => ?_)) tNo
    refine g_i2l C dX6_estimate_12 ?_
    exact g_lret C dX6_estimate_13 (Nat.le_of_ble_eq_true rfl) (Nat.le_of_ble_eq_true rfl) ⟨_, rfl, hw⟩
theorem gc_X6_estimate : ∀ rm : Room, rmX6_estimate.frames + 1 ≤ rm.frames → 8 + (3 + 11) + rmX6_estimate.locals ≤ rm.locals → gCall yX6_estimate 3 2 rmX6_estimate rm := fun rm a b => ⟨Or.inl ⟨_, _, tw1370⟩, tw8, ⟨by decide, by decide⟩, by decide, a, b⟩
abbrev rmX6_truth : Room := { frames := 2, cells := 0, slots := 0, locals := 46 }
def wp_X6_truth_L58 (o : Nat) (p1 : Int32) (p2 : Int32) (Q : Int64 → MEM → Prop) (M_7 : MEM) : Nat → Int64 → Int32 → Prop
  | 0, _, _ => False
  | n58 + 1, x3_8, x5_9 => wp_X6_many o p1 M_7 (fun r_10 => (r_10 ≤ x5_9 → (Q x3_8 M_7)) ∧ (¬ r_10 ≤ x5_9 → (wp_X6_isCandidate o p1 x5_9 M_7 (fun r_12 => (¬ r_12 = 0 → ((¬ p2 = 0 → ((¬ p2 = 1 → (wp_X6_item o p1 x5_9 3 M_7 (fun r_14 => ∀ x3_16 : Int64, x3_16 = x3_8 + r_14.toInt64 → (∀ x5_17 : Int32, x5_17 = x5_9 + 1 → ((wp_X6_truth_L58 o p1 p2 Q M_7 n58) x3_16 x5_17))))) ∧ (p2 = 1 → (wp_X6_item o p1 x5_9 4 M_7 (fun r_18 => ∀ x3_20 : Int64, x3_20 = x3_8 + r_18.toInt64 → (∀ x5_21 : Int32, x5_21 = x5_9 + 1 → ((wp_X6_truth_L58 o p1 p2 Q M_7 n58) x3_20 x5_21))))))) ∧ (p2 = 0 → (∀ x3_22 : Int64, x3_22 = x3_8 + 1 → (∀ x5_23 : Int32, x5_23 = x5_9 + 1 → ((wp_X6_truth_L58 o p1 p2 Q M_7 n58) x3_22 x5_23)))))) ∧ (r_12 = 0 → (∀ x3_24 : Int64, x3_24 = x3_8 + 0 → (∀ x5_25 : Int32, x5_25 = x5_9 + 1 → ((wp_X6_truth_L58 o p1 p2 Q M_7 n58) x3_24 x5_25))))))))
def wp_X6_truth (o : Nat) (p1 : Int32) (p2 : Int32) (M : MEM) (Q : Int64 → MEM → Prop) : Prop := KD o = (16, 0) ∧ (wp_X6_isSlot p1 M (fun r_1 => (¬ r_1 = 0 → (wp_X6_isBetween p2.toInt64 0 2 M (fun r_3 => (¬ r_3 = 0 → (wp_X6_isThere o p1 M (fun r_5 => (¬ r_5 = 0 → ((∀ M_7 : MEM, M_7 = uI M o 0 0 → (∃ m58 : Nat, wp_X6_truth_L58 o p1 p2 Q M_7 m58 0 0)))) ∧ (r_5 = 0 → (wp_X6_fails o 3 M (fun r_26 M_27 => Q r_26.toInt64 M_27)))))) ∧ (r_3 = 0 → (wp_X6_fails o 2 M (fun r_28 M_29 => Q r_28.toInt64 M_29)))))) ∧ (r_1 = 0 → (wp_X6_fails o 1 M (fun r_30 M_31 => Q r_30.toInt64 M_31)))))
set_option maxRecDepth 100000 in
set_option maxHeartbeats 4000000 in
theorem met_X6_truth {l : Launch} (hl : l.stackTraces = false) {E : MK} {o : Nat} {p1 : Int32} {p2 : Int32} {M : MEM} {Q : Int64 → MEM → Prop} (hw : wp_X6_truth o p1 p2 M Q) : gMet l E yX6_truth rmX6_truth [gR E o, .int p1, .int p2] M (qL Q) gNo := by
  obtain ⟨hk0, hw⟩ := hw
  refine g_met hl (cc := cX6_truth) (maxL := 6) (ret := (some .long)) (hh := []) (loc := [(0, gR E o), (1, .int p1), (2, .int p2)]) (by decide +kernel) (Or.inl ⟨tw1374, rfl⟩) (Nat.le_of_ble_eq_true rfl) rfl (fun K hK C => ?_)
  have C : GC K E cX6_truth RX6 6 (some .long) [] rmX6_truth := C
  refine g_iload_n C dX6_truth_0 1 rfl rfl ?_
  refine g_cS C dX6_truth_1 (met_X6_isSlot C.st hw) (gc_X6_isSlot _ (Nat.le_of_ble_eq_true rfl) (Nat.le_of_ble_eq_true rfl)) (Or.inl tw1128) tw1129 rfl (Nat.le_of_ble_eq_true rfl) (c2 := 0) (s2 := 0) rfl rfl (Nat.le_of_ble_eq_true rfl) (Nat.le_of_ble_eq_true rfl) rfl (kIp (fun r_1 hw => ?_)) tNo
  refine g_if_ne C dX6_truth_4 (tgt := 14) (by decide) (fun c4 => ?_) (fun c4 => ?_)
  · have hw := hw.1 c4
    refine g_iload_n C dX6_truth_14 2 rfl rfl ?_
    refine g_i2l C dX6_truth_15 ?_
    refine g_lconst C dX6_truth_16 (v := 0) rfl ?_
    refine g_ldc2 C dX6_truth_17 tw1352 ?_
    refine g_cS C dX6_truth_20 (met_X6_isBetween C.st hw) (gc_X6_isBetween _ (Nat.le_of_ble_eq_true rfl) (Nat.le_of_ble_eq_true rfl)) (Or.inl tw1139) tw1140 rfl (Nat.le_of_ble_eq_true rfl) (c2 := 0) (s2 := 0) rfl rfl (Nat.le_of_ble_eq_true rfl) (Nat.le_of_ble_eq_true rfl) rfl (kIp (fun r_3 hw => ?_)) tNo
    refine g_if_ne C dX6_truth_23 (tgt := 33) (by decide) (fun c23 => ?_) (fun c23 => ?_)
    · have hw := hw.1 c23
      refine g_aload_n C dX6_truth_33 0 rfl rfl ?_
      refine g_iload_n C dX6_truth_34 1 rfl rfl ?_
      refine g_cV C dX6_truth_35 (met_X6_isThere C.st hw) (gc_X6_isThere _ (Nat.le_of_ble_eq_true rfl) (Nat.le_of_ble_eq_true rfl)) tw1152 tw1154 twp31 (ci := 6) rfl (by decide) hk0 rfl (Nat.le_of_ble_eq_true rfl) (c2 := 0) (s2 := 0) rfl rfl (Nat.le_of_ble_eq_true rfl) (Nat.le_of_ble_eq_true rfl) rfl (kIp (fun r_5 hw => ?_)) tNo
      refine g_if_ne C dX6_truth_38 (tgt := 48) (by decide) (fun c38 => ?_) (fun c38 => ?_)
      · have hw := hw.1 c38
        refine g_aload_n C dX6_truth_48 0 rfl rfl ?_
        refine g_iconst C dX6_truth_49 (v := 0) rfl ?_
        refine pf_RX6_57 C hk0 dX6_truth_50 ?_
        refine g_nmM (fun M_7 eM_7 => ?_)
        have hw := hw M_7 eM_7
        refine g_lconst C dX6_truth_53 (v := 0) rfl ?_
        refine g_lstore_n C dX6_truth_54 rfl (Nat.le_of_ble_eq_true rfl) (loc' := [(3, .long 0), (0, gR E o), (1, .int p1), (2, .int p2)]) rfl ?_
        refine g_iconst C dX6_truth_55 (v := 0) rfl ?_
        refine g_istore C dX6_truth_56 (Nat.le_of_ble_eq_true rfl) (loc' := [(5, .int 0), (3, .long 0), (0, gR E o), (1, .int p1), (2, .int p2)]) rfl ?_
        obtain ⟨m58, hw⟩ := hw
        have hL58 : ∀ (n58 : Nat) (x3_8 : Int64) (x5_9 : Int32), wp_X6_truth_L58 o p1 p2 Q M_7 n58 x3_8 x5_9 → GX K E 6 M_7 [(0, gR E o), (1, .int p1), (2, .int p2), (3, .long x3_8), (5, .int x5_9)] [] 58 0 0 (gEnd K E (qL Q) gNo rmX6_truth.cells rmX6_truth.slots) := by
          intro n58
          induction n58 with
          | zero => intro _ _ hw; exact False.elim hw
          | succ n58 ih58 =>
            intro x3_8 x5_9 hw
            refine g_iload C (j := 0) dX6_truth_58 4 rfl ?_
            refine g_aload_n C dX6_truth_60 0 rfl rfl ?_
            refine g_iload_n C dX6_truth_61 1 rfl rfl ?_
            refine g_cV C dX6_truth_62 (met_X6_many C.st hw) (gc_X6_many _ (Nat.le_of_ble_eq_true rfl) (Nat.le_of_ble_eq_true rfl)) tw1156 tw1158 twp32 (ci := 6) rfl (by decide) hk0 rfl (Nat.le_of_ble_eq_true rfl) (c2 := 0) (s2 := 0) rfl rfl (Nat.le_of_ble_eq_true rfl) (Nat.le_of_ble_eq_true rfl) rfl (kIp (fun r_10 hw => ?_)) tNo
            refine g_icmp_ge C dX6_truth_65 (tgt := 117) (by decide) (fun c65 => ?_) (fun c65 => ?_)
            · have hw := hw.1 c65
              refine g_lload_n C dX6_truth_117 3 rfl rfl ?_
              exact g_lret C dX6_truth_118 (Nat.le_of_ble_eq_true rfl) (Nat.le_of_ble_eq_true rfl) ⟨_, rfl, hw⟩
            · have hw := hw.2 c65
              refine g_lload_n C dX6_truth_68 3 rfl rfl ?_
              refine g_aload_n C dX6_truth_69 0 rfl rfl ?_
              refine g_iload_n C dX6_truth_70 1 rfl rfl ?_
              refine g_iload C (j := 0) dX6_truth_71 4 rfl ?_
              refine g_cV C dX6_truth_73 (met_X6_isCandidate C.st hw) (gc_X6_isCandidate _ (Nat.le_of_ble_eq_true rfl) (Nat.le_of_ble_eq_true rfl)) tw1224 tw1226 twp42 (ci := 6) rfl (by decide) hk0 rfl (Nat.le_of_ble_eq_true rfl) (c2 := 0) (s2 := 0) rfl rfl (Nat.le_of_ble_eq_true rfl) (Nat.le_of_ble_eq_true rfl) rfl (kIp (fun r_12 hw => ?_)) tNo
              refine g_if_ne C dX6_truth_76 (tgt := 83) (by decide) (fun c76 => ?_) (fun c76 => ?_)
              · have hw := hw.1 c76
                refine g_iload_n C dX6_truth_83 2 rfl rfl ?_
                refine g_if_ne C dX6_truth_84 (tgt := 91) (by decide) (fun c84 => ?_) (fun c84 => ?_)
                · have hw := hw.1 c84
                  refine g_aload_n C dX6_truth_91 0 rfl rfl ?_
                  refine g_iload_n C dX6_truth_92 1 rfl rfl ?_
                  refine g_iload C (j := 0) dX6_truth_93 4 rfl ?_
                  refine g_iload_n C dX6_truth_95 2 rfl rfl ?_
                  refine g_iconst C dX6_truth_96 (v := 1) rfl ?_
                  refine g_icmp_ne C dX6_truth_97 (tgt := 104) (by decide) (fun c97 => ?_) (fun c97 => ?_)
                  · have hw := hw.1 c97
                    refine g_iconst C dX6_truth_104 (v := 3) rfl ?_
                    refine g_cV C dX6_truth_105 (met_X6_item C.st hw) (gc_X6_item _ (Nat.le_of_ble_eq_true rfl) (Nat.le_of_ble_eq_true rfl)) tw1197 tw1199 twp38 (ci := 6) rfl (by decide) hk0 rfl (Nat.le_of_ble_eq_true rfl) (c2 := 0) (s2 := 0) rfl rfl (Nat.le_of_ble_eq_true rfl) (Nat.le_of_ble_eq_true rfl) rfl (kIp (fun r_14 hw => ?_)) tNo
                    refine g_i2l C dX6_truth_108 ?_
                    refine g_ladd C dX6_truth_109 ?_
                    refine g_nmL (fun x3_16 ex3_16 => ?_)
                    have hw := hw x3_16 ex3_16
                    refine g_lstore_n C dX6_truth_110 rfl (Nat.le_of_ble_eq_true rfl) (loc' := [(3, .long x3_16), (0, gR E o), (1, .int p1), (2, .int p2), (5, .int x5_9)]) rfl ?_
                    obtain ⟨x5_17, ex5_17⟩ : ∃ y : Int32, y = x5_9 + 1 := ⟨_, rfl⟩
                    have hw := hw x5_17 ex5_17
                    refine g_iinc C (j := 0) dX6_truth_111 4 rfl (v := x5_17) (by rw [ex5_17]; rfl) (Nat.le_of_ble_eq_true rfl) (loc' := [(5, .int x5_17), (3, .long x3_16), (0, gR E o), (1, .int p1), (2, .int p2)]) rfl ?_
                    refine g_goto C dX6_truth_114 (tgt := 58) (by decide) ?_
                    refine g_sub [2, 3, 4, 1, 0] rfl ?_
                    exact ih58 _ _ hw
                  · have hw := hw.2 c97
                    refine g_iconst C dX6_truth_100 (v := 4) rfl ?_
                    refine g_goto C dX6_truth_101 (tgt := 105) (by decide) ?_
                    refine g_cV C dX6_truth_105 (met_X6_item C.st hw) (gc_X6_item _ (Nat.le_of_ble_eq_true rfl) (Nat.le_of_ble_eq_true rfl)) tw1197 tw1199 twp38 (ci := 6) rfl (by decide) hk0 rfl (Nat.le_of_ble_eq_true rfl) (c2 := 0) (s2 := 0) rfl rfl (Nat.le_of_ble_eq_true rfl) (Nat.le_of_ble_eq_true rfl) rfl (kIp (fun r_18 hw => ?_)) tNo
                    refine g_i2l C dX6_truth_108 ?_
                    refine g_ladd C dX6_truth_109 ?_
                    refine g_nmL (fun x3_20 ex3_20 => ?_)
                    have hw := hw x3_20 ex3_20
                    refine g_lstore_n C dX6_truth_110 rfl (Nat.le_of_ble_eq_true rfl) (loc' := [(3, .long x3_20), (0, gR E o), (1, .int p1), (2, .int p2), (5, .int x5_9)]) rfl ?_
                    obtain ⟨x5_21, ex5_21⟩ : ∃ y : Int32, y = x5_9 + 1 := ⟨_, rfl⟩
                    have hw := hw x5_21 ex5_21
                    refine g_iinc C (j := 0) dX6_truth_111 4 rfl (v := x5_21) (by rw [ex5_21]; rfl) (Nat.le_of_ble_eq_true rfl) (loc' := [(5, .int x5_21), (3, .long x3_20), (0, gR E o), (1, .int p1), (2, .int p2)]) rfl ?_
                    refine g_goto C dX6_truth_114 (tgt := 58) (by decide) ?_
                    refine g_sub [2, 3, 4, 1, 0] rfl ?_
                    exact ih58 _ _ hw
                · have hw := hw.2 c84
                  refine g_lconst C dX6_truth_87 (v := 1) rfl ?_
                  refine g_goto C dX6_truth_88 (tgt := 109) (by decide) ?_
                  refine g_ladd C dX6_truth_109 ?_
                  refine g_nmL (fun x3_22 ex3_22 => ?_)
                  have hw := hw x3_22 ex3_22
                  refine g_lstore_n C dX6_truth_110 rfl (Nat.le_of_ble_eq_true rfl) (loc' := [(3, .long x3_22), (0, gR E o), (1, .int p1), (2, .int p2), (5, .int x5_9)]) rfl ?_
                  obtain ⟨x5_23, ex5_23⟩ : ∃ y : Int32, y = x5_9 + 1 := ⟨_, rfl⟩
                  have hw := hw x5_23 ex5_23
                  refine g_iinc C (j := 0) dX6_truth_111 4 rfl (v := x5_23) (by rw [ex5_23]; rfl) (Nat.le_of_ble_eq_true rfl) (loc' := [(5, .int x5_23), (3, .long x3_22), (0, gR E o), (1, .int p1), (2, .int p2)]) rfl ?_
                  refine g_goto C dX6_truth_114 (tgt := 58) (by decide) ?_
                  refine g_sub [2, 3, 4, 1, 0] rfl ?_
                  exact ih58 _ _ hw
              · have hw := hw.2 c76
                refine g_lconst C dX6_truth_79 (v := 0) rfl ?_
                refine g_goto C dX6_truth_80 (tgt := 109) (by decide) ?_
                refine g_ladd C dX6_truth_109 ?_
                refine g_nmL (fun x3_24 ex3_24 => ?_)
                have hw := hw x3_24 ex3_24
                refine g_lstore_n C dX6_truth_110 rfl (Nat.le_of_ble_eq_true rfl) (loc' := [(3, .long x3_24), (0, gR E o), (1, .int p1), (2, .int p2), (5, .int x5_9)]) rfl ?_
                obtain ⟨x5_25, ex5_25⟩ : ∃ y : Int32, y = x5_9 + 1 := ⟨_, rfl⟩
                have hw := hw x5_25 ex5_25
                refine g_iinc C (j := 0) dX6_truth_111 4 rfl (v := x5_25) (by rw [ex5_25]; rfl) (Nat.le_of_ble_eq_true rfl) (loc' := [(5, .int x5_25), (3, .long x3_24), (0, gR E o), (1, .int p1), (2, .int p2)]) rfl ?_
                refine g_goto C dX6_truth_114 (tgt := 58) (by decide) ?_
                refine g_sub [2, 3, 4, 1, 0] rfl ?_
                exact ih58 _ _ hw
        refine g_sub [2, 3, 4, 1, 0] rfl ?_
        exact hL58 m58 _ _ hw
      · have hw := hw.2 c38
        refine g_aload_n C dX6_truth_41 0 rfl rfl ?_
        refine g_iconst C dX6_truth_42 (v := 3) rfl ?_
        refine g_cV C dX6_truth_43 (met_X6_fails C.st hw) (gc_X6_fails _ (Nat.le_of_ble_eq_true rfl) (Nat.le_of_ble_eq_true rfl)) tw1131 tw1133 twp28 (ci := 6) rfl (by decide) hk0 rfl (Nat.le_of_ble_eq_true rfl) (c2 := 0) (s2 := 0) rfl rfl (Nat.le_of_ble_eq_true rfl) (Nat.le_of_ble_eq_true rfl) rfl (kI (fun r_26 M_27 hw => ?_)) tNo
        refine g_i2l C dX6_truth_46 ?_
        exact g_lret C dX6_truth_47 (Nat.le_of_ble_eq_true rfl) (Nat.le_of_ble_eq_true rfl) ⟨_, rfl, hw⟩
    · have hw := hw.2 c23
      refine g_aload_n C dX6_truth_26 0 rfl rfl ?_
      refine g_iconst C dX6_truth_27 (v := 2) rfl ?_
      refine g_cV C dX6_truth_28 (met_X6_fails C.st hw) (gc_X6_fails _ (Nat.le_of_ble_eq_true rfl) (Nat.le_of_ble_eq_true rfl)) tw1131 tw1133 twp28 (ci := 6) rfl (by decide) hk0 rfl (Nat.le_of_ble_eq_true rfl) (c2 := 0) (s2 := 0) rfl rfl (Nat.le_of_ble_eq_true rfl) (Nat.le_of_ble_eq_true rfl) rfl (kI (fun r_28 M_29 hw => ?_)) tNo
      refine g_i2l C dX6_truth_31 ?_
      exact g_lret C dX6_truth_32 (Nat.le_of_ble_eq_true rfl) (Nat.le_of_ble_eq_true rfl) ⟨_, rfl, hw⟩
  · have hw := hw.2 c4
    refine g_aload_n C dX6_truth_7 0 rfl rfl ?_
    refine g_iconst C dX6_truth_8 (v := 1) rfl ?_
    refine g_cV C dX6_truth_9 (met_X6_fails C.st hw) (gc_X6_fails _ (Nat.le_of_ble_eq_true rfl) (Nat.le_of_ble_eq_true rfl)) tw1131 tw1133 twp28 (ci := 6) rfl (by decide) hk0 rfl (Nat.le_of_ble_eq_true rfl) (c2 := 0) (s2 := 0) rfl rfl (Nat.le_of_ble_eq_true rfl) (Nat.le_of_ble_eq_true rfl) rfl (kI (fun r_30 M_31 hw => ?_)) tNo
    refine g_i2l C dX6_truth_12 ?_
    exact g_lret C dX6_truth_13 (Nat.le_of_ble_eq_true rfl) (Nat.le_of_ble_eq_true rfl) ⟨_, rfl, hw⟩
theorem gc_X6_truth : ∀ rm : Room, rmX6_truth.frames + 1 ≤ rm.frames → 8 + (6 + 11) + rmX6_truth.locals ≤ rm.locals → gCall yX6_truth 6 2 rmX6_truth rm := fun rm a b => ⟨Or.inl ⟨_, _, tw1374⟩, tw8, ⟨by decide, by decide⟩, by decide, a, b⟩
