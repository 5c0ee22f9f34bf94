def wp_L_law_L28 (L : Nat) (xs : Nat → Int32) : Nat → Int32 → MEM → Prop
  | 0, _, _ => False
  | n28 + 1, x5_1, M_2 => (((nI L) - 6) < x5_1 → (True)) ∧ (¬ ((nI L) - 6) < x5_1 → (vp_in x5_1 L ∧ (∀ w_4 : Int32, w_4 = (xs x5_1.toNatClampNeg) &&& 31 → (((w_4.toInt < 0 ∨ 31 < w_4.toInt) → (∀ x5_5 : Int32, x5_5 = x5_1 + 6 → ((wp_L_law_L28 L xs n28) x5_5 M_2))) ∧ (w_4 = nI 0 → (vp_in (x5_1 + 1) L ∧ (vp_in (x5_1 + 2) L ∧ (vp_in (x5_1 + 3) L ∧ (vp_in (x5_1 + 4) L ∧ (vp_in (x5_1 + 5) L ∧ (wp_L_define 1 (xs (x5_1 + 1).toNatClampNeg) (xs (x5_1 + 2).toNatClampNeg) (xs (x5_1 + 3).toNatClampNeg) (xs (x5_1 + 4).toNatClampNeg) (xs (x5_1 + 5).toNatClampNeg) 60 M_2 (fun r_11 M_12 => vp_in (x5_1 + 1) L ∧ (vp_in (x5_1 + 2) L ∧ (vp_in (x5_1 + 3) L ∧ (vp_in (x5_1 + 4) L ∧ (vp_in (x5_1 + 5) L ∧ (KD 40 = (16, 0) ∧ wp_X6_define 40 (xs (x5_1 + 1).toNatClampNeg) (xs (x5_1 + 2).toNatClampNeg) (xs (x5_1 + 3).toNatClampNeg) (xs (x5_1 + 4).toNatClampNeg) (xs (x5_1 + 5).toNatClampNeg) M_12 (fun r_18 M_19 => wp_X6_thrown 40 M_19 (fun r_21 => (r_21 = r_11 → ((¬ r_11 = 0 → (∀ x5_23 : Int32, x5_23 = x5_1 + 6 → ((wp_L_law_L28 L xs n28) x5_23 M_19))) ∧ (r_11 = 0 → (KD 60 = (2, 1) ∧ (((mL M_19 60 0) = r_18.toInt64 → (∀ x5_25 : Int32, x5_25 = x5_1 + 6 → ((wp_L_law_L28 L xs n28) x5_25 M_19))) ∧ (¬ (mL M_19 60 0) = r_18.toInt64 → (False))))))) ∧ (¬ r_21 = r_11 → (False))))))))))))))))) ∧ (w_4 = nI 1 → (vp_in (x5_1 + 1) L ∧ (wp_L_drop 1 (xs (x5_1 + 1).toNatClampNeg) 60 M_2 (fun r_27 M_28 => vp_in (x5_1 + 1) L ∧ (KD 40 = (16, 0) ∧ wp_X6_drop 40 (xs (x5_1 + 1).toNatClampNeg) M_28 (fun r_30 M_31 => wp_X6_thrown 40 M_31 (fun r_33 => (r_33 = r_27 → ((¬ r_27 = 0 → (∀ x5_35 : Int32, x5_35 = x5_1 + 6 → ((wp_L_law_L28 L xs n28) x5_35 M_31))) ∧ (r_27 = 0 → (KD 60 = (2, 1) ∧ (((mL M_31 60 0) = r_30.toInt64 → (∀ x5_37 : Int32, x5_37 = x5_1 + 6 → ((wp_L_law_L28 L xs n28) x5_37 M_31))) ∧ (¬ (mL M_31 60 0) = r_30.toInt64 → (False))))))) ∧ (¬ r_33 = r_27 → (False))))))))) ∧ (w_4 = nI 2 → (vp_in (x5_1 + 1) L ∧ (vp_in (x5_1 + 2) L ∧ (vp_in (x5_1 + 3) L ∧ (vp_in (x5_1 + 4) L ∧ (vp_in (x5_1 + 5) L ∧ (wp_L_offer 1 (xs (x5_1 + 1).toNatClampNeg) (xs (x5_1 + 2).toNatClampNeg) (xs (x5_1 + 3).toNatClampNeg) (xs (x5_1 + 4).toNatClampNeg) (xs (x5_1 + 5).toNatClampNeg) 60 M_2 (fun r_43 M_44 => vp_in (x5_1 + 1) L ∧ (vp_in (x5_1 + 2) L ∧ (vp_in (x5_1 + 3) L ∧ (vp_in (x5_1 + 4) L ∧ (vp_in (x5_1 + 5) L ∧ (KD 40 = (16, 0) ∧ wp_X6_offer 40 (xs (x5_1 + 1).toNatClampNeg) (xs (x5_1 + 2).toNatClampNeg) (xs (x5_1 + 3).toNatClampNeg) (xs (x5_1 + 4).toNatClampNeg) (xs (x5_1 + 5).toNatClampNeg) M_44 (fun r_50 M_51 => wp_X6_thrown 40 M_51 (fun r_53 => (r_53 = r_43 → ((¬ r_43 = 0 → (∀ x5_55 : Int32, x5_55 = x5_1 + 6 → ((wp_L_law_L28 L xs n28) x5_55 M_51))) ∧ (r_43 = 0 → (KD 60 = (2, 1) ∧ (((mL M_51 60 0) = r_50.toInt64 → (∀ x5_57 : Int32, x5_57 = x5_1 + 6 → ((wp_L_law_L28 L xs n28) x5_57 M_51))) ∧ (¬ (mL M_51 60 0) = r_50.toInt64 → (False))))))) ∧ (¬ r_53 = r_43 → (False))))))))))))))))) ∧ (w_4 = nI 3 → (vp_in (x5_1 + 1) L ∧ (vp_in (x5_1 + 2) L ∧ (vp_in (x5_1 + 3) L ∧ (wp_L_offerDrawn 1 (xs (x5_1 + 1).toNatClampNeg) (xs (x5_1 + 2).toNatClampNeg) (xs (x5_1 + 3).toNatClampNeg) 60 M_2 (fun r_61 M_62 => vp_in (x5_1 + 1) L ∧ (vp_in (x5_1 + 2) L ∧ (vp_in (x5_1 + 3) L ∧ (KD 40 = (16, 0) ∧ wp_X6_offerDrawn 40 (xs (x5_1 + 1).toNatClampNeg) (xs (x5_1 + 2).toNatClampNeg) (xs (x5_1 + 3).toNatClampNeg) M_62 (fun r_66 M_67 => wp_X6_thrown 40 M_67 (fun r_69 => (r_69 = r_61 → ((¬ r_61 = 0 → (∀ x5_71 : Int32, x5_71 = x5_1 + 6 → ((wp_L_law_L28 L xs n28) x5_71 M_67))) ∧ (r_61 = 0 → (KD 60 = (2, 1) ∧ (((mL M_67 60 0) = r_66.toInt64 → (∀ x5_73 : Int32, x5_73 = x5_1 + 6 → ((wp_L_law_L28 L xs n28) x5_73 M_67))) ∧ (¬ (mL M_67 60 0) = r_66.toInt64 → (False))))))) ∧ (¬ r_69 = r_61 → (False))))))))))))) ∧ (w_4 = nI 4 → (vp_in (x5_1 + 1) L ∧ (vp_in (x5_1 + 2) L ∧ (wp_L_summary 1 (xs (x5_1 + 1).toNatClampNeg) (xs (x5_1 + 2).toNatClampNeg) 60 M_2 (fun r_76 M_77 => vp_in (x5_1 + 1) L ∧ (vp_in (x5_1 + 2) L ∧ (KD 40 = (16, 0) ∧ wp_X6_summary 40 (xs (x5_1 + 1).toNatClampNeg) (xs (x5_1 + 2).toNatClampNeg) M_77 (fun r_80 M_81 => wp_X6_thrown 40 M_81 (fun r_83 => (r_83 = r_76 → ((¬ r_76 = 0 → (∀ x5_85 : Int32, x5_85 = x5_1 + 6 → ((wp_L_law_L28 L xs n28) x5_85 M_81))) ∧ (r_76 = 0 → (KD 60 = (2, 1) ∧ (((mL M_81 60 0) = r_80.toInt64 → (∀ x5_87 : Int32, x5_87 = x5_1 + 6 → ((wp_L_law_L28 L xs n28) x5_87 M_81))) ∧ (¬ (mL M_81 60 0) = r_80.toInt64 → (False))))))) ∧ (¬ r_83 = r_76 → (False))))))))))) ∧ (w_4 = nI 5 → (vp_in (x5_1 + 1) L ∧ (vp_in (x5_1 + 2) L ∧ (vp_in (x5_1 + 3) L ∧ (wp_L_setQuota 1 (xs (x5_1 + 1).toNatClampNeg) (xs (x5_1 + 2).toNatClampNeg) (xs (x5_1 + 3).toNatClampNeg) 60 M_2 (fun r_91 M_92 => vp_in (x5_1 + 1) L ∧ (vp_in (x5_1 + 2) L ∧ (vp_in (x5_1 + 3) L ∧ (KD 40 = (16, 0) ∧ wp_X6_setQuota 40 (xs (x5_1 + 1).toNatClampNeg) (xs (x5_1 + 2).toNatClampNeg) (xs (x5_1 + 3).toNatClampNeg) M_92 (fun r_96 M_97 => wp_X6_thrown 40 M_97 (fun r_99 => (r_99 = r_91 → ((¬ r_91 = 0 → (∀ x5_101 : Int32, x5_101 = x5_1 + 6 → ((wp_L_law_L28 L xs n28) x5_101 M_97))) ∧ (r_91 = 0 → (KD 60 = (2, 1) ∧ (((mL M_97 60 0) = r_96.toInt64 → (∀ x5_103 : Int32, x5_103 = x5_1 + 6 → ((wp_L_law_L28 L xs n28) x5_103 M_97))) ∧ (¬ (mL M_97 60 0) = r_96.toInt64 → (False))))))) ∧ (¬ r_99 = r_91 → (False))))))))))))) ∧ (w_4 = nI 6 → (vp_in (x5_1 + 1) L ∧ (vp_in (x5_1 + 2) L ∧ (vp_in (x5_1 + 3) L ∧ (((xs (x5_1 + 3).toNatClampNeg) = 0 → (wp_L_allocate 1 (xs (x5_1 + 1).toNatClampNeg) (xs (x5_1 + 2).toNatClampNeg) 0 60 M_2 (fun r_107 M_108 => vp_in (x5_1 + 1) L ∧ (vp_in (x5_1 + 2) L ∧ (vp_in (x5_1 + 3) L ∧ (((xs (x5_1 + 3).toNatClampNeg) = 0 → (KD 40 = (16, 0) ∧ wp_X6_allocate 40 (xs (x5_1 + 1).toNatClampNeg) (xs (x5_1 + 2).toNatClampNeg) 0 M_108 (fun r_112 M_113 => wp_X6_thrown 40 M_113 (fun r_115 => (r_115 = r_107 → ((¬ r_107 = 0 → (∀ x5_117 : Int32, x5_117 = x5_1 + 6 → ((wp_L_law_L28 L xs n28) x5_117 M_113))) ∧ (r_107 = 0 → (KD 60 = (2, 1) ∧ (((mL M_113 60 0) = r_112.toInt64 → (∀ x5_119 : Int32, x5_119 = x5_1 + 6 → ((wp_L_law_L28 L xs n28) x5_119 M_113))) ∧ (¬ (mL M_113 60 0) = r_112.toInt64 → (False))))))) ∧ (¬ r_115 = r_107 → (False)))))) ∧ (¬ (xs (x5_1 + 3).toNatClampNeg) = 0 → (KD 40 = (16, 0) ∧ wp_X6_allocate 40 (xs (x5_1 + 1).toNatClampNeg) (xs (x5_1 + 2).toNatClampNeg) 1 M_108 (fun r_120 M_121 => wp_X6_thrown 40 M_121 (fun r_123 => (r_123 = r_107 → ((¬ r_107 = 0 → (∀ x5_125 : Int32, x5_125 = x5_1 + 6 → ((wp_L_law_L28 L xs n28) x5_125 M_121))) ∧ (r_107 = 0 → (KD 60 = (2, 1) ∧ (((mL M_121 60 0) = r_120.toInt64 → (∀ x5_127 : Int32, x5_127 = x5_1 + 6 → ((wp_L_law_L28 L xs n28) x5_127 M_121))) ∧ (¬ (mL M_121 60 0) = r_120.toInt64 → (False))))))) ∧ (¬ r_123 = r_107 → (False)))))))))))) ∧ (¬ (xs (x5_1 + 3).toNatClampNeg) = 0 → (wp_L_allocate 1 (xs (x5_1 + 1).toNatClampNeg) (xs (x5_1 + 2).toNatClampNeg) 1 60 M_2 (fun r_128 M_129 => vp_in (x5_1 + 1) L ∧ (vp_in (x5_1 + 2) L ∧ (vp_in (x5_1 + 3) L ∧ (((xs (x5_1 + 3).toNatClampNeg) = 0 → (KD 40 = (16, 0) ∧ wp_X6_allocate 40 (xs (x5_1 + 1).toNatClampNeg) (xs (x5_1 + 2).toNatClampNeg) 0 M_129 (fun r_133 M_134 => wp_X6_thrown 40 M_134 (fun r_136 => (r_136 = r_128 → ((¬ r_128 = 0 → (∀ x5_138 : Int32, x5_138 = x5_1 + 6 → ((wp_L_law_L28 L xs n28) x5_138 M_134))) ∧ (r_128 = 0 → (KD 60 = (2, 1) ∧ (((mL M_134 60 0) = r_133.toInt64 → (∀ x5_140 : Int32, x5_140 = x5_1 + 6 → ((wp_L_law_L28 L xs n28) x5_140 M_134))) ∧ (¬ (mL M_134 60 0) = r_133.toInt64 → (False))))))) ∧ (¬ r_136 = r_128 → (False)))))) ∧ (¬ (xs (x5_1 + 3).toNatClampNeg) = 0 → (KD 40 = (16, 0) ∧ wp_X6_allocate 40 (xs (x5_1 + 1).toNatClampNeg) (xs (x5_1 + 2).toNatClampNeg) 1 M_129 (fun r_141 M_142 => wp_X6_thrown 40 M_142 (fun r_144 => (r_144 = r_128 → ((¬ r_128 = 0 → (∀ x5_146 : Int32, x5_146 = x5_1 + 6 → ((wp_L_law_L28 L xs n28) x5_146 M_142))) ∧ (r_128 = 0 → (KD 60 = (2, 1) ∧ (((mL M_142 60 0) = r_141.toInt64 → (∀ x5_148 : Int32, x5_148 = x5_1 + 6 → ((wp_L_law_L28 L xs n28) x5_148 M_142))) ∧ (¬ (mL M_142 60 0) = r_141.toInt64 → (False))))))) ∧ (¬ r_144 = r_128 → (False))))))))))))))))) ∧ (w_4 = nI 7 → (vp_in (x5_1 + 1) L ∧ (vp_in (x5_1 + 2) L ∧ (wp_L_quota 1 (xs (x5_1 + 1).toNatClampNeg) (xs (x5_1 + 2).toNatClampNeg) 60 M_2 (fun r_151 M_152 => vp_in (x5_1 + 1) L ∧ (vp_in (x5_1 + 2) L ∧ (KD 40 = (16, 0) ∧ wp_X6_quota 40 (xs (x5_1 + 1).toNatClampNeg) (xs (x5_1 + 2).toNatClampNeg) M_152 (fun r_155 M_156 => wp_X6_thrown 40 M_156 (fun r_158 => (r_158 = r_151 → ((¬ r_151 = 0 → (∀ x5_160 : Int32, x5_160 = x5_1 + 6 → ((wp_L_law_L28 L xs n28) x5_160 M_156))) ∧ (r_151 = 0 → (KD 60 = (2, 1) ∧ (((mL M_156 60 0) = r_155.toInt64 → (∀ x5_162 : Int32, x5_162 = x5_1 + 6 → ((wp_L_law_L28 L xs n28) x5_162 M_156))) ∧ (¬ (mL M_156 60 0) = r_155.toInt64 → (False))))))) ∧ (¬ r_158 = r_151 → (False))))))))))) ∧ (w_4 = nI 8 → (vp_in (x5_1 + 1) L ∧ (vp_in (x5_1 + 2) L ∧ (wp_L_merge 1 (xs (x5_1 + 1).toNatClampNeg) (xs (x5_1 + 2).toNatClampNeg) 60 M_2 (fun r_165 M_166 => vp_in (x5_1 + 1) L ∧ (vp_in (x5_1 + 2) L ∧ (KD 40 = (16, 0) ∧ wp_X6_merge 40 (xs (x5_1 + 1).toNatClampNeg) (xs (x5_1 + 2).toNatClampNeg) M_166 (fun r_169 M_170 => wp_X6_thrown 40 M_170 (fun r_172 => (r_172 = r_165 → ((¬ r_165 = 0 → (∀ x5_174 : Int32, x5_174 = x5_1 + 6 → ((wp_L_law_L28 L xs n28) x5_174 M_170))) ∧ (r_165 = 0 → (KD 60 = (2, 1) ∧ (((mL M_170 60 0) = r_169.toInt64 → (∀ x5_176 : Int32, x5_176 = x5_1 + 6 → ((wp_L_law_L28 L xs n28) x5_176 M_170))) ∧ (¬ (mL M_170 60 0) = r_169.toInt64 → (False))))))) ∧ (¬ r_172 = r_165 → (False))))))))))) ∧ (w_4 = nI 9 → (vp_in (x5_1 + 1) L ∧ (vp_in (x5_1 + 2) L ∧ (wp_L_copy 1 (xs (x5_1 + 1).toNatClampNeg) (xs (x5_1 + 2).toNatClampNeg) 60 M_2 (fun r_179 M_180 => vp_in (x5_1 + 1) L ∧ (vp_in (x5_1 + 2) L ∧ (KD 40 = (16, 0) ∧ wp_X6_copy 40 (xs (x5_1 + 1).toNatClampNeg) (xs (x5_1 + 2).toNatClampNeg) M_180 (fun r_183 M_184 => wp_X6_thrown 40 M_184 (fun r_186 => (r_186 = r_179 → ((¬ r_179 = 0 → (∀ x5_188 : Int32, x5_188 = x5_1 + 6 → ((wp_L_law_L28 L xs n28) x5_188 M_184))) ∧ (r_179 = 0 → (KD 60 = (2, 1) ∧ (((mL M_184 60 0) = r_183.toInt64 → (∀ x5_190 : Int32, x5_190 = x5_1 + 6 → ((wp_L_law_L28 L xs n28) x5_190 M_184))) ∧ (¬ (mL M_184 60 0) = r_183.toInt64 → (False))))))) ∧ (¬ r_186 = r_179 → (False))))))))))) ∧ (w_4 = nI 10 → (vp_in (x5_1 + 1) L ∧ (vp_in (x5_1 + 2) L ∧ (vp_in (x5_1 + 3) L ∧ (wp_L_kept 1 (xs (x5_1 + 1).toNatClampNeg) (xs (x5_1 + 2).toNatClampNeg) (xs (x5_1 + 3).toNatClampNeg) 60 M_2 (fun r_194 M_195 => vp_in (x5_1 + 1) L ∧ (vp_in (x5_1 + 2) L ∧ (vp_in (x5_1 + 3) L ∧ (KD 40 = (16, 0) ∧ wp_X6_kept 40 (xs (x5_1 + 1).toNatClampNeg) (xs (x5_1 + 2).toNatClampNeg) (xs (x5_1 + 3).toNatClampNeg) M_195 (fun r_199 M_200 => wp_X6_thrown 40 M_200 (fun r_202 => (r_202 = r_194 → ((¬ r_194 = 0 → (∀ x5_204 : Int32, x5_204 = x5_1 + 6 → ((wp_L_law_L28 L xs n28) x5_204 M_200))) ∧ (r_194 = 0 → (KD 60 = (2, 1) ∧ (((mL M_200 60 0) = r_199.toInt64 → (∀ x5_206 : Int32, x5_206 = x5_1 + 6 → ((wp_L_law_L28 L xs n28) x5_206 M_200))) ∧ (¬ (mL M_200 60 0) = r_199.toInt64 → (False))))))) ∧ (¬ r_202 = r_194 → (False))))))))))))) ∧ (w_4 = nI 11 → (vp_in (x5_1 + 1) L ∧ (vp_in (x5_1 + 2) L ∧ (vp_in (x5_1 + 3) L ∧ (wp_L_sampled 1 (xs (x5_1 + 1).toNatClampNeg) (xs (x5_1 + 2).toNatClampNeg) (xs (x5_1 + 3).toNatClampNeg) 60 M_2 (fun r_210 M_211 => vp_in (x5_1 + 1) L ∧ (vp_in (x5_1 + 2) L ∧ (vp_in (x5_1 + 3) L ∧ (KD 40 = (16, 0) ∧ wp_X6_sampled 40 (xs (x5_1 + 1).toNatClampNeg) (xs (x5_1 + 2).toNatClampNeg) (xs (x5_1 + 3).toNatClampNeg) M_211 (fun r_215 M_216 => wp_X6_thrown 40 M_216 (fun r_218 => (r_218 = r_210 → ((¬ r_210 = 0 → (∀ x5_220 : Int32, x5_220 = x5_1 + 6 → ((wp_L_law_L28 L xs n28) x5_220 M_216))) ∧ (r_210 = 0 → (KD 60 = (2, 1) ∧ (((mL M_216 60 0) = r_215.toInt64 → (∀ x5_222 : Int32, x5_222 = x5_1 + 6 → ((wp_L_law_L28 L xs n28) x5_222 M_216))) ∧ (¬ (mL M_216 60 0) = r_215.toInt64 → (False))))))) ∧ (¬ r_218 = r_210 → (False))))))))))))) ∧ (w_4 = nI 12 → (vp_in (x5_1 + 1) L ∧ (vp_in (x5_1 + 2) L ∧ (wp_L_mix 1 (xs (x5_1 + 1).toNatClampNeg) (xs (x5_1 + 2).toNatClampNeg) 60 M_2 (fun r_225 M_226 => vp_in (x5_1 + 1) L ∧ (vp_in (x5_1 + 2) L ∧ (KD 40 = (16, 0) ∧ wp_X6_mix 40 (xs (x5_1 + 1).toNatClampNeg) (xs (x5_1 + 2).toNatClampNeg) M_226 (fun r_229 M_230 => wp_X6_thrown 40 M_230 (fun r_232 => (r_232 = r_225 → ((¬ r_225 = 0 → (∀ x5_234 : Int32, x5_234 = x5_1 + 6 → ((wp_L_law_L28 L xs n28) x5_234 M_230))) ∧ (r_225 = 0 → (KD 60 = (2, 1) ∧ (((mL M_230 60 0) = r_229 → (∀ x5_236 : Int32, x5_236 = x5_1 + 6 → ((wp_L_law_L28 L xs n28) x5_236 M_230))) ∧ (¬ (mL M_230 60 0) = r_229 → (False))))))) ∧ (¬ r_232 = r_225 → (False))))))))))) ∧ (w_4 = nI 13 → (vp_in (x5_1 + 1) L ∧ (wp_L_commonKey 1 (xs (x5_1 + 1).toNatClampNeg) 60 M_2 (fun r_238 M_239 => vp_in (x5_1 + 1) L ∧ (KD 40 = (16, 0) ∧ wp_X6_commonKey 40 (xs (x5_1 + 1).toNatClampNeg) M_239 (fun r_241 M_242 => wp_X6_thrown 40 M_242 (fun r_244 => (r_244 = r_238 → ((¬ r_238 = 0 → (∀ x5_246 : Int32, x5_246 = x5_1 + 6 → ((wp_L_law_L28 L xs n28) x5_246 M_242))) ∧ (r_238 = 0 → (KD 60 = (2, 1) ∧ (((mL M_242 60 0) = r_241.toInt64 → (∀ x5_248 : Int32, x5_248 = x5_1 + 6 → ((wp_L_law_L28 L xs n28) x5_248 M_242))) ∧ (¬ (mL M_242 60 0) = r_241.toInt64 → (False))))))) ∧ (¬ r_244 = r_238 → (False))))))))) ∧ (w_4 = nI 14 → (vp_in (x5_1 + 1) L ∧ (vp_in (x5_1 + 2) L ∧ (wp_L_reason 1 (xs (x5_1 + 1).toNatClampNeg) (xs (x5_1 + 2).toNatClampNeg) 60 M_2 (fun r_251 M_252 => vp_in (x5_1 + 1) L ∧ (vp_in (x5_1 + 2) L ∧ (KD 40 = (16, 0) ∧ wp_X6_reason 40 (xs (x5_1 + 1).toNatClampNeg) (xs (x5_1 + 2).toNatClampNeg) M_252 (fun r_255 M_256 => wp_X6_thrown 40 M_256 (fun r_258 => (r_258 = r_251 → ((¬ r_251 = 0 → (∀ x5_260 : Int32, x5_260 = x5_1 + 6 → ((wp_L_law_L28 L xs n28) x5_260 M_256))) ∧ (r_251 = 0 → (KD 60 = (2, 1) ∧ (((mL M_256 60 0) = r_255.toInt64 → (∀ x5_262 : Int32, x5_262 = x5_1 + 6 → ((wp_L_law_L28 L xs n28) x5_262 M_256))) ∧ (¬ (mL M_256 60 0) = r_255.toInt64 → (False))))))) ∧ (¬ r_258 = r_251 → (False))))))))))) ∧ (w_4 = nI 15 → (vp_in (x5_1 + 1) L ∧ (vp_in (x5_1 + 2) L ∧ (wp_L_needed 1 (xs (x5_1 + 1).toNatClampNeg) (xs (x5_1 + 2).toNatClampNeg) 60 M_2 (fun r_265 M_266 => vp_in (x5_1 + 1) L ∧ (vp_in (x5_1 + 2) L ∧ (KD 40 = (16, 0) ∧ wp_X6_needed 40 (xs (x5_1 + 1).toNatClampNeg) (xs (x5_1 + 2).toNatClampNeg) M_266 (fun r_269 M_270 => wp_X6_thrown 40 M_270 (fun r_272 => (r_272 = r_265 → ((¬ r_265 = 0 → (∀ x5_274 : Int32, x5_274 = x5_1 + 6 → ((wp_L_law_L28 L xs n28) x5_274 M_270))) ∧ (r_265 = 0 → (KD 60 = (2, 1) ∧ (((mL M_270 60 0) = r_269.toInt64 → (∀ x5_276 : Int32, x5_276 = x5_1 + 6 → ((wp_L_law_L28 L xs n28) x5_276 M_270))) ∧ (¬ (mL M_270 60 0) = r_269.toInt64 → (False))))))) ∧ (¬ r_272 = r_265 → (False))))))))))) ∧ (w_4 = nI 16 → (vp_in (x5_1 + 1) L ∧ (vp_in (x5_1 + 2) L ∧ (wp_L_margin 1 (xs (x5_1 + 1).toNatClampNeg) (xs (x5_1 + 2).toNatClampNeg) 60 M_2 (fun r_279 M_280 => vp_in (x5_1 + 1) L ∧ (vp_in (x5_1 + 2) L ∧ (KD 40 = (16, 0) ∧ wp_X6_margin 40 (xs (x5_1 + 1).toNatClampNeg) (xs (x5_1 + 2).toNatClampNeg) M_280 (fun r_283 M_284 => wp_X6_thrown 40 M_284 (fun r_286 => (r_286 = r_279 → ((¬ r_279 = 0 → (∀ x5_288 : Int32, x5_288 = x5_1 + 6 → ((wp_L_law_L28 L xs n28) x5_288 M_284))) ∧ (r_279 = 0 → (KD 60 = (2, 1) ∧ (((mL M_284 60 0) = r_283.toInt64 → (∀ x5_290 : Int32, x5_290 = x5_1 + 6 → ((wp_L_law_L28 L xs n28) x5_290 M_284))) ∧ (¬ (mL M_284 60 0) = r_283.toInt64 → (False))))))) ∧ (¬ r_286 = r_279 → (False))))))))))) ∧ (w_4 = nI 17 → (vp_in (x5_1 + 1) L ∧ (vp_in (x5_1 + 2) L ∧ (vp_in (x5_1 + 3) L ∧ (wp_L_stratum 1 (xs (x5_1 + 1).toNatClampNeg) (xs (x5_1 + 2).toNatClampNeg) (xs (x5_1 + 3).toNatClampNeg) 60 M_2 (fun r_294 M_295 => vp_in (x5_1 + 1) L ∧ (vp_in (x5_1 + 2) L ∧ (vp_in (x5_1 + 3) L ∧ (KD 40 = (16, 0) ∧ wp_X6_stratum 40 (xs (x5_1 + 1).toNatClampNeg) (xs (x5_1 + 2).toNatClampNeg) (xs (x5_1 + 3).toNatClampNeg) M_295 (fun r_299 M_300 => wp_X6_thrown 40 M_300 (fun r_302 => (r_302 = r_294 → ((¬ r_294 = 0 → (∀ x5_304 : Int32, x5_304 = x5_1 + 6 → ((wp_L_law_L28 L xs n28) x5_304 M_300))) ∧ (r_294 = 0 → (KD 60 = (2, 1) ∧ (((mL M_300 60 0) = r_299.toInt64 → (∀ x5_306 : Int32, x5_306 = x5_1 + 6 → ((wp_L_law_L28 L xs n28) x5_306 M_300))) ∧ (¬ (mL M_300 60 0) = r_299.toInt64 → (False))))))) ∧ (¬ r_302 = r_294 → (False))))))))))))) ∧ (w_4 = nI 18 → (vp_in (x5_1 + 1) L ∧ (vp_in (x5_1 + 2) L ∧ (vp_in (x5_1 + 3) L ∧ (vp_in (x5_1 + 4) L ∧ (((xs (x5_1 + 4).toNatClampNeg) = 0 → (wp_L_estimateKeys 1 (xs (x5_1 + 1).toNatClampNeg) (xs (x5_1 + 2).toNatClampNeg) (xs (x5_1 + 3).toNatClampNeg) 0 60 M_2 (fun r_311 M_312 => vp_in (x5_1 + 1) L ∧ (vp_in (x5_1 + 2) L ∧ (vp_in (x5_1 + 3) L ∧ (vp_in (x5_1 + 4) L ∧ (((xs (x5_1 + 4).toNatClampNeg) = 0 → (KD 40 = (16, 0) ∧ wp_X6_estimateKeys 40 (xs (x5_1 + 1).toNatClampNeg) (xs (x5_1 + 2).toNatClampNeg) (xs (x5_1 + 3).toNatClampNeg) 0 M_312 (fun r_317 M_318 => wp_X6_thrown 40 M_318 (fun r_320 => (r_320 = r_311 → ((¬ r_311 = 0 → (∀ x5_322 : Int32, x5_322 = x5_1 + 6 → ((wp_L_law_L28 L xs n28) x5_322 M_318))) ∧ (r_311 = 0 → (KD 60 = (2, 1) ∧ (((mL M_318 60 0) = r_317 → (∀ x5_324 : Int32, x5_324 = x5_1 + 6 → ((wp_L_law_L28 L xs n28) x5_324 M_318))) ∧ (¬ (mL M_318 60 0) = r_317 → (False))))))) ∧ (¬ r_320 = r_311 → (False)))))) ∧ (¬ (xs (x5_1 + 4).toNatClampNeg) = 0 → (KD 40 = (16, 0) ∧ wp_X6_estimateKeys 40 (xs (x5_1 + 1).toNatClampNeg) (xs (x5_1 + 2).toNatClampNeg) (xs (x5_1 + 3).toNatClampNeg) 1 M_312 (fun r_325 M_326 => wp_X6_thrown 40 M_326 (fun r_328 => (r_328 = r_311 → ((¬ r_311 = 0 → (∀ x5_330 : Int32, x5_330 = x5_1 + 6 → ((wp_L_law_L28 L xs n28) x5_330 M_326))) ∧ (r_311 = 0 → (KD 60 = (2, 1) ∧ (((mL M_326 60 0) = r_325 → (∀ x5_332 : Int32, x5_332 = x5_1 + 6 → ((wp_L_law_L28 L xs n28) x5_332 M_326))) ∧ (¬ (mL M_326 60 0) = r_325 → (False))))))) ∧ (¬ r_328 = r_311 → (False))))))))))))) ∧ (¬ (xs (x5_1 + 4).toNatClampNeg) = 0 → (wp_L_estimateKeys 1 (xs (x5_1 + 1).toNatClampNeg) (xs (x5_1 + 2).toNatClampNeg) (xs (x5_1 + 3).toNatClampNeg) 1 60 M_2 (fun r_333 M_334 => vp_in (x5_1 + 1) L ∧ (vp_in (x5_1 + 2) L ∧ (vp_in (x5_1 + 3) L ∧ (vp_in (x5_1 + 4) L ∧ (((xs (x5_1 + 4).toNatClampNeg) = 0 → (KD 40 = (16, 0) ∧ wp_X6_estimateKeys 40 (xs (x5_1 + 1).toNatClampNeg) (xs (x5_1 + 2).toNatClampNeg) (xs (x5_1 + 3).toNatClampNeg) 0 M_334 (fun r_339 M_340 => wp_X6_thrown 40 M_340 (fun r_342 => (r_342 = r_333 → ((¬ r_333 = 0 → (∀ x5_344 : Int32, x5_344 = x5_1 + 6 → ((wp_L_law_L28 L xs n28) x5_344 M_340))) ∧ (r_333 = 0 → (KD 60 = (2, 1) ∧ (((mL M_340 60 0) = r_339 → (∀ x5_346 : Int32, x5_346 = x5_1 + 6 → ((wp_L_law_L28 L xs n28) x5_346 M_340))) ∧ (¬ (mL M_340 60 0) = r_339 → (False))))))) ∧ (¬ r_342 = r_333 → (False)))))) ∧ (¬ (xs (x5_1 + 4).toNatClampNeg) = 0 → (KD 40 = (16, 0) ∧ wp_X6_estimateKeys 40 (xs (x5_1 + 1).toNatClampNeg) (xs (x5_1 + 2).toNatClampNeg) (xs (x5_1 + 3).toNatClampNeg) 1 M_334 (fun r_347 M_348 => wp_X6_thrown 40 M_348 (fun r_350 => (r_350 = r_333 → ((¬ r_333 = 0 → (∀ x5_352 : Int32, x5_352 = x5_1 + 6 → ((wp_L_law_L28 L xs n28) x5_352 M_348))) ∧ (r_333 = 0 → (KD 60 = (2, 1) ∧ (((mL M_348 60 0) = r_347 → (∀ x5_354 : Int32, x5_354 = x5_1 + 6 → ((wp_L_law_L28 L xs n28) x5_354 M_348))) ∧ (¬ (mL M_348 60 0) = r_347 → (False))))))) ∧ (¬ r_350 = r_333 → (False))))))))))))))))))) ∧ (w_4 = nI 19 → (vp_in (x5_1 + 1) L ∧ (vp_in (x5_1 + 2) L ∧ (wp_L_estimate 1 (xs (x5_1 + 1).toNatClampNeg) (xs (x5_1 + 2).toNatClampNeg) 60 M_2 (fun r_357 M_358 => vp_in (x5_1 + 1) L ∧ (vp_in (x5_1 + 2) L ∧ (KD 40 = (16, 0) ∧ wp_X6_estimate 40 (xs (x5_1 + 1).toNatClampNeg) (xs (x5_1 + 2).toNatClampNeg) M_358 (fun r_361 M_362 => wp_X6_thrown 40 M_362 (fun r_364 => (r_364 = r_357 → ((¬ r_357 = 0 → (∀ x5_366 : Int32, x5_366 = x5_1 + 6 → ((wp_L_law_L28 L xs n28) x5_366 M_362))) ∧ (r_357 = 0 → (KD 60 = (2, 1) ∧ (((mL M_362 60 0) = r_361 → (∀ x5_368 : Int32, x5_368 = x5_1 + 6 → ((wp_L_law_L28 L xs n28) x5_368 M_362))) ∧ (¬ (mL M_362 60 0) = r_361 → (False))))))) ∧ (¬ r_364 = r_357 → (False))))))))))) ∧ (w_4 = nI 20 → (vp_in (x5_1 + 1) L ∧ (vp_in (x5_1 + 2) L ∧ (wp_L_truth 1 (xs (x5_1 + 1).toNatClampNeg) (xs (x5_1 + 2).toNatClampNeg) 60 M_2 (fun r_371 M_372 => vp_in (x5_1 + 1) L ∧ (vp_in (x5_1 + 2) L ∧ (KD 40 = (16, 0) ∧ wp_X6_truth 40 (xs (x5_1 + 1).toNatClampNeg) (xs (x5_1 + 2).toNatClampNeg) M_372 (fun r_375 M_376 => wp_X6_thrown 40 M_376 (fun r_378 => (r_378 = r_371 → ((¬ r_371 = 0 → (∀ x5_380 : Int32, x5_380 = x5_1 + 6 → ((wp_L_law_L28 L xs n28) x5_380 M_376))) ∧ (r_371 = 0 → (KD 60 = (2, 1) ∧ (((mL M_376 60 0) = r_375 → (∀ x5_382 : Int32, x5_382 = x5_1 + 6 → ((wp_L_law_L28 L xs n28) x5_382 M_376))) ∧ (¬ (mL M_376 60 0) = r_375 → (False))))))) ∧ (¬ r_378 = r_371 → (False))))))))))) ∧ (w_4 = nI 21 → (vp_in (x5_1 + 1) L ∧ (vp_in (x5_1 + 2) L ∧ (wp_L_quantile 1 (xs (x5_1 + 1).toNatClampNeg) (xs (x5_1 + 2).toNatClampNeg) 60 M_2 (fun r_385 M_386 => vp_in (x5_1 + 1) L ∧ (vp_in (x5_1 + 2) L ∧ (KD 40 = (16, 0) ∧ wp_X6_quantile 40 (xs (x5_1 + 1).toNatClampNeg) (xs (x5_1 + 2).toNatClampNeg) M_386 (fun r_389 M_390 => wp_X6_thrown 40 M_390 (fun r_392 => (r_392 = r_385 → ((¬ r_385 = 0 → (∀ x5_394 : Int32, x5_394 = x5_1 + 6 → ((wp_L_law_L28 L xs n28) x5_394 M_390))) ∧ (r_385 = 0 → (KD 60 = (2, 1) ∧ (((mL M_390 60 0) = r_389.toInt64 → (∀ x5_396 : Int32, x5_396 = x5_1 + 6 → ((wp_L_law_L28 L xs n28) x5_396 M_390))) ∧ (¬ (mL M_390 60 0) = r_389.toInt64 → (False))))))) ∧ (¬ r_392 = r_385 → (False))))))))))) ∧ (w_4 = nI 22 → (vp_in (x5_1 + 1) L ∧ (vp_in (x5_1 + 2) L ∧ (vp_in (x5_1 + 3) L ∧ (wp_L_resampled 1 (xs (x5_1 + 1).toNatClampNeg) (xs (x5_1 + 2).toNatClampNeg) (xs (x5_1 + 3).toNatClampNeg) 61 M_2 (fun r_400 M_401 => vp_in (x5_1 + 1) L ∧ (vp_in (x5_1 + 2) L ∧ (vp_in (x5_1 + 3) L ∧ (KD 40 = (16, 0) ∧ wp_X6_resampled 40 (xs (x5_1 + 1).toNatClampNeg) (xs (x5_1 + 2).toNatClampNeg) (xs (x5_1 + 3).toNatClampNeg) M_401 (fun r_405 M_406 => wp_X6_thrown 40 M_406 (fun r_408 => (r_408 = r_400 → ((¬ r_400 = 0 → (∀ x5_410 : Int32, x5_410 = x5_1 + 6 → ((wp_L_law_L28 L xs n28) x5_410 M_406))) ∧ (r_400 = 0 → (KD 61 = (3, 1) ∧ (((Op.cmpValue (FP.dcmp (mD M_406 61 0) r_405) .l) = 0 → (∀ x5_412 : Int32, x5_412 = x5_1 + 6 → ((wp_L_law_L28 L xs n28) x5_412 M_406))) ∧ (¬ (Op.cmpValue (FP.dcmp (mD M_406 61 0) r_405) .l) = 0 → (((Op.cmpValue (FP.dcmp (mD M_406 61 0) (mD M_406 61 0)) .l) = 0 → (False)) ∧ (¬ (Op.cmpValue (FP.dcmp (mD M_406 61 0) (mD M_406 61 0)) .l) = 0 → ((¬ (Op.cmpValue (FP.dcmp r_405 r_405) .l) = 0 → (∀ x5_413 : Int32, x5_413 = x5_1 + 6 → ((wp_L_law_L28 L xs n28) x5_413 M_406))) ∧ ((Op.cmpValue (FP.dcmp r_405 r_405) .l) = 0 → (False))))))))))) ∧ (¬ r_408 = r_400 → (False))))))))))))) ∧ (w_4 = nI 23 → (vp_in (x5_1 + 1) L ∧ (vp_in (x5_1 + 2) L ∧ (wp_L_distance 1 (xs (x5_1 + 1).toNatClampNeg) (xs (x5_1 + 2).toNatClampNeg) 61 M_2 (fun r_416 M_417 => vp_in (x5_1 + 1) L ∧ (vp_in (x5_1 + 2) L ∧ (KD 40 = (16, 0) ∧ wp_X6_distance 40 (xs (x5_1 + 1).toNatClampNeg) (xs (x5_1 + 2).toNatClampNeg) M_417 (fun r_420 M_421 => wp_X6_thrown 40 M_421 (fun r_423 => (r_423 = r_416 → ((¬ r_416 = 0 → (∀ x5_425 : Int32, x5_425 = x5_1 + 6 → ((wp_L_law_L28 L xs n28) x5_425 M_421))) ∧ (r_416 = 0 → (KD 61 = (3, 1) ∧ (∀ f_427 : UInt64, alike64 f_427 (FP.f2d r_420) = true → (((Op.cmpValue (FP.dcmp (mD M_421 61 0) f_427) .l) = 0 → (∀ x5_428 : Int32, x5_428 = x5_1 + 6 → ((wp_L_law_L28 L xs n28) x5_428 M_421))) ∧ (¬ (Op.cmpValue (FP.dcmp (mD M_421 61 0) f_427) .l) = 0 → (((Op.cmpValue (FP.dcmp (mD M_421 61 0) (mD M_421 61 0)) .l) = 0 → (False)) ∧ (¬ (Op.cmpValue (FP.dcmp (mD M_421 61 0) (mD M_421 61 0)) .l) = 0 → ((¬ (Op.cmpValue (FP.fcmp r_420 r_420) .l) = 0 → (∀ x5_429 : Int32, x5_429 = x5_1 + 6 → ((wp_L_law_L28 L xs n28) x5_429 M_421))) ∧ ((Op.cmpValue (FP.fcmp r_420 r_420) .l) = 0 → (False)))))))))))) ∧ (¬ r_423 = r_416 → (False))))))))))) ∧ (w_4 = nI 24 → (vp_in (x5_1 + 1) L ∧ (vp_in (x5_1 + 2) L ∧ (wp_L_common 1 (xs (x5_1 + 1).toNatClampNeg) (xs (x5_1 + 2).toNatClampNeg) 60 M_2 (fun r_432 M_433 => vp_in (x5_1 + 1) L ∧ (vp_in (x5_1 + 2) L ∧ (KD 40 = (16, 0) ∧ wp_X6_common 40 (xs (x5_1 + 1).toNatClampNeg) (xs (x5_1 + 2).toNatClampNeg) M_433 (fun r_436 M_437 => wp_X6_thrown 40 M_437 (fun r_439 => (r_439 = r_432 → ((¬ r_432 = 0 → (∀ x5_441 : Int32, x5_441 = x5_1 + 6 → ((wp_L_law_L28 L xs n28) x5_441 M_437))) ∧ (r_432 = 0 → (KD 60 = (2, 1) ∧ (((mL M_437 60 0) = r_436.toInt64 → (∀ x5_443 : Int32, x5_443 = x5_1 + 6 → ((wp_L_law_L28 L xs n28) x5_443 M_437))) ∧ (¬ (mL M_437 60 0) = r_436.toInt64 → (False))))))) ∧ (¬ r_439 = r_432 → (False))))))))))) ∧ (w_4 = nI 25 → (vp_in (x5_1 + 1) L ∧ (wp_L_feed 1 (gch (xs (x5_1 + 1).toNatClampNeg)) 60 M_2 (fun r_445 M_446 => vp_in (x5_1 + 1) L ∧ (KD 40 = (16, 0) ∧ wp_X6_feed 40 (gch (xs (x5_1 + 1).toNatClampNeg)) M_446 (fun r_448 M_449 => wp_X6_thrown 40 M_449 (fun r_451 => (r_451 = r_445 → ((¬ r_445 = 0 → (∀ x5_453 : Int32, x5_453 = x5_1 + 6 → ((wp_L_law_L28 L xs n28) x5_453 M_449))) ∧ (r_445 = 0 → (KD 60 = (2, 1) ∧ (((mL M_449 60 0) = r_448.toInt64 → (∀ x5_455 : Int32, x5_455 = x5_1 + 6 → ((wp_L_law_L28 L xs n28) x5_455 M_449))) ∧ (¬ (mL M_449 60 0) = r_448.toInt64 → (False))))))) ∧ (¬ r_451 = r_445 → (False))))))))) ∧ (w_4 = nI 26 → (vp_in (x5_1 + 1) L ∧ (wp_L_read 1 (xs (x5_1 + 1).toNatClampNeg) 60 M_2 (fun r_457 M_458 => vp_in (x5_1 + 1) L ∧ (KD 40 = (16, 0) ∧ wp_X6_read 40 (xs (x5_1 + 1).toNatClampNeg) M_458 (fun r_460 M_461 => wp_X6_thrown 40 M_461 (fun r_463 => (r_463 = r_457 → ((¬ r_457 = 0 → (∀ x5_465 : Int32, x5_465 = x5_1 + 6 → ((wp_L_law_L28 L xs n28) x5_465 M_461))) ∧ (r_457 = 0 → (KD 60 = (2, 1) ∧ (((mL M_461 60 0) = r_460.toInt64 → (∀ x5_467 : Int32, x5_467 = x5_1 + 6 → ((wp_L_law_L28 L xs n28) x5_467 M_461))) ∧ (¬ (mL M_461 60 0) = r_460.toInt64 → (False))))))) ∧ (¬ r_463 = r_457 → (False))))))))) ∧ (w_4 = nI 27 → (vp_in (x5_1 + 1) L ∧ (wp_L_write 1 (xs (x5_1 + 1).toNatClampNeg) 60 M_2 (fun r_469 M_470 => vp_in (x5_1 + 1) L ∧ (KD 40 = (16, 0) ∧ wp_X6_write 40 (xs (x5_1 + 1).toNatClampNeg) M_470 (fun r_472 M_473 => wp_X6_thrown 40 M_473 (fun r_475 => (r_475 = r_469 → ((¬ r_469 = 0 → (∀ x5_477 : Int32, x5_477 = x5_1 + 6 → ((wp_L_law_L28 L xs n28) x5_477 M_473))) ∧ (r_469 = 0 → (KD 60 = (2, 1) ∧ (((mL M_473 60 0) = r_472.toInt64 → (∀ x5_479 : Int32, x5_479 = x5_1 + 6 → ((wp_L_law_L28 L xs n28) x5_479 M_473))) ∧ (¬ (mL M_473 60 0) = r_472.toInt64 → (False))))))) ∧ (¬ r_475 = r_469 → (False))))))))) ∧ (w_4 = nI 28 → (vp_in (x5_1 + 1) L ∧ (wp_L_text 1 (xs (x5_1 + 1).toNatClampNeg) 60 M_2 (fun r_481 M_482 => vp_in (x5_1 + 1) L ∧ (KD 40 = (16, 0) ∧ wp_X6_text 40 (xs (x5_1 + 1).toNatClampNeg) M_482 (fun r_484 M_485 => wp_X6_thrown 40 M_485 (fun r_487 => (r_487 = r_481 → ((¬ r_481 = 0 → (∀ x5_489 : Int32, x5_489 = x5_1 + 6 → ((wp_L_law_L28 L xs n28) x5_489 M_485))) ∧ (r_481 = 0 → (KD 60 = (2, 1) ∧ (((mL M_485 60 0) = r_484.toInt64 → (∀ x5_491 : Int32, x5_491 = x5_1 + 6 → ((wp_L_law_L28 L xs n28) x5_491 M_485))) ∧ (¬ (mL M_485 60 0) = r_484.toInt64 → (False))))))) ∧ (¬ r_487 = r_481 → (False))))))))) ∧ (w_4 = nI 29 → (wp_L_undo 1 60 M_2 (fun r_492 M_493 => KD 40 = (16, 0) ∧ wp_X6_undo 40 M_493 (fun r_494 M_495 => wp_X6_thrown 40 M_495 (fun r_497 => (r_497 = r_492 → ((¬ r_492 = 0 → (∀ x5_499 : Int32, x5_499 = x5_1 + 6 → ((wp_L_law_L28 L xs n28) x5_499 M_495))) ∧ (r_492 = 0 → (KD 60 = (2, 1) ∧ (((mL M_495 60 0) = r_494.toInt64 → (∀ x5_501 : Int32, x5_501 = x5_1 + 6 → ((wp_L_law_L28 L xs n28) x5_501 M_495))) ∧ (¬ (mL M_495 60 0) = r_494.toInt64 → (False))))))) ∧ (¬ r_497 = r_492 → (False))))))) ∧ (w_4 = nI 30 → (KD 1 = (15, 0) ∧ wp_X5_save 1 M_2 (fun r_502 M_503 => KD 40 = (16, 0) ∧ wp_X6_save 40 M_503 (fun r_505 M_506 => (r_502 = r_505 → (∀ x5_508 : Int32, x5_508 = x5_1 + 6 → ((wp_L_law_L28 L xs n28) x5_508 M_506))) ∧ (¬ r_502 = r_505 → (False)))))) ∧ (w_4 = nI 31 → (wp_L_restore 1 60 M_2 (fun r_509 M_510 => KD 40 = (16, 0) ∧ wp_X6_restore 40 M_510 (fun r_511 M_512 => wp_X6_thrown 40 M_512 (fun r_514 => (r_514 = r_509 → ((¬ r_509 = 0 → (∀ x5_516 : Int32, x5_516 = x5_1 + 6 → ((wp_L_law_L28 L xs n28) x5_516 M_512))) ∧ (r_509 = 0 → (KD 60 = (2, 1) ∧ (((mL M_512 60 0) = r_511.toInt64 → (∀ x5_518 : Int32, x5_518 = x5_1 + 6 → ((wp_L_law_L28 L xs n28) x5_518 M_512))) ∧ (¬ (mL M_512 60 0) = r_511.toInt64 → (False))))))) ∧ (¬ r_514 = r_509 → (False)))))))))))
set_option maxRecDepth 100000 in
set_option maxHeartbeats 40000000 in
theorem law_walk {K : KT} {E : MK} {hh : List (Nat × Nat × Nat × Nat)} {s0 : State} {b L : Nat} {xs : Nat → Int32} (C : GC K E cL_law RL 9 ret hh room_1) (GS : gScr K E b L xs s0) (n : Nat) (x5 : Int32) (M : MEM) (c s : Nat) (hc : c + 8 * n ≤ room_1.cells) (hs : s + 48 * n ≤ room_1.slots) (hw : wp_L_law_L28 L xs n x5 M) : GX K E 9 M [(0, .ref b), (1, gR E 1), (2, gR E 40), (3, gR E 60), (4, gR E 61), (5, .int x5)] [] 28 c s (lw_Z (kb K) #[Value.ref b] s0) := by
  have hL28 : ∀ (n28 : Nat) (x5_1 : Int32) (M_2 : MEM) (c s : Nat), c + 8 * n28 ≤ room_1.cells → s + 48 * n28 ≤ room_1.slots → wp_L_law_L28 L xs n28 x5_1 M_2 → GX K E 9 M_2 [(0, .ref b), (1, gR E 1), (2, gR E 40), (3, gR E 60), (4, gR E 61), (5, .int x5_1)] [] 28 c s (lw_Z (kb K) #[Value.ref b] s0) := by
    intro n28
    induction n28 with
    | zero => intro _ _ _ _ _ _ hw; exact False.elim hw
    | succ n28 ih28 =>
      intro x5_1 M_2 c s hc0 hs0 hw
      refine g_iload C (j := 0) dL_law_28 5 rfl ?_
      refine g_aload_n C dL_law_30 0 rfl rfl ?_
      refine g_slen C GS dL_law_31 ?_
      refine g_bipush C dL_law_32 (v := 6) rfl ?_
      refine g_isub C dL_law_34 ?_
      refine g_icmp_gt C dL_law_35 (tgt := 2448) (by decide) (fun c35 => ?_) (fun c35 => ?_)
      · have hw := hw.1 c35
        refine g_iconst C dL_law_2448 (v := 1) rfl ?_
        exact g_lawret C GS dL_law_2449 (by omega) (by omega)
      · have hw := hw.2 c35
        refine g_aload_n C dL_law_38 0 rfl rfl ?_
        refine g_iload C (j := 0) dL_law_39 5 rfl ?_
        obtain ⟨hi_3, hw⟩ := hw
        refine g_sld C GS hi_3 dL_law_41 ?_
        refine g_bipush C dL_law_42 (v := 31) rfl ?_
        refine g_iand C dL_law_44 ?_
        refine g_nmI (fun w_4 ew_4 => ?_)
        have hw := hw w_4 ew_4
        rcases sw_cases w_4 32 (by decide) with c45 | ⟨i45, hi45, c45⟩
        · have hw := hw.1 c45
          refine g_tableOut C dL_law_45 c45 (tgt := 2442) (by decide) ?_
          obtain ⟨x5_5, ex5_5⟩ : ∃ y : Int32, y = x5_1 + 6 := ⟨_, rfl⟩
          have hw := hw x5_5 ex5_5
          refine g_iinc C (j := 0) dL_law_2442 5 rfl (v := x5_5) (by rw [ex5_5]; rfl) (Nat.le_of_ble_eq_true rfl) (loc' := [(5, .int x5_5), (0, .ref b), (1, gR E 1), (2, gR E 40), (3, gR E 60), (4, gR E 61)]) rfl ?_
          refine g_goto C dL_law_2445 (tgt := 28) (by decide) ?_
          refine g_sub [1, 2, 3, 4, 5, 0] rfl ?_
          exact ih28 _ _ _ _ (by omega) (by omega) hw
        · rcases (show i45 = 0 ∨ i45 = 1 ∨ i45 = 2 ∨ i45 = 3 ∨ i45 = 4 ∨ i45 = 5 ∨ i45 = 6 ∨ i45 = 7 ∨ i45 = 8 ∨ i45 = 9 ∨ i45 = 10 ∨ i45 = 11 ∨ i45 = 12 ∨ i45 = 13 ∨ i45 = 14 ∨ i45 = 15 ∨ i45 = 16 ∨ i45 = 17 ∨ i45 = 18 ∨ i45 = 19 ∨ i45 = 20 ∨ i45 = 21 ∨ i45 = 22 ∨ i45 = 23 ∨ i45 = 24 ∨ i45 = 25 ∨ i45 = 26 ∨ i45 = 27 ∨ i45 = 28 ∨ i45 = 29 ∨ i45 = 30 ∨ i45 = 31 by omega) with rfl | rfl | rfl | rfl | rfl | rfl | rfl | rfl | rfl | rfl | rfl | rfl | rfl | rfl | rfl | rfl | rfl | rfl | rfl | rfl | rfl | rfl | rfl | rfl | rfl | rfl | rfl | rfl | rfl | rfl | rfl | rfl
          · have hw := hw.2.1 c45
            refine g_tableIn C dL_law_45 (by rw [c45]; decide) (by rw [c45]; decide) (off := 143) (by rw [c45]; rfl) (tgt := 188) (by decide) ?_
            refine g_aload_n C dL_law_188 1 rfl rfl ?_
            refine g_aload_n C dL_law_189 0 rfl rfl ?_
            refine g_iload C (j := 0) dL_law_190 5 rfl ?_
            refine g_iconst C dL_law_192 (v := 1) rfl ?_
            refine g_iadd C dL_law_193 ?_
            obtain ⟨hi_6, hw⟩ := hw
            refine g_sld C GS hi_6 dL_law_194 ?_
            refine g_aload_n C dL_law_195 0 rfl rfl ?_
            refine g_iload C (j := 0) dL_law_196 5 rfl ?_
            refine g_iconst C dL_law_198 (v := 2) rfl ?_
            refine g_iadd C dL_law_199 ?_
            obtain ⟨hi_7, hw⟩ := hw
            refine g_sld C GS hi_7 dL_law_200 ?_
            refine g_aload_n C dL_law_201 0 rfl rfl ?_
            refine g_iload C (j := 0) dL_law_202 5 rfl ?_
            refine g_iconst C dL_law_204 (v := 3) rfl ?_
            refine g_iadd C dL_law_205 ?_
            obtain ⟨hi_8, hw⟩ := hw
            refine g_sld C GS hi_8 dL_law_206 ?_
            refine g_aload_n C dL_law_207 0 rfl rfl ?_
            refine g_iload C (j := 0) dL_law_208 5 rfl ?_
            refine g_iconst C dL_law_210 (v := 4) rfl ?_
            refine g_iadd C dL_law_211 ?_
            obtain ⟨hi_9, hw⟩ := hw
            refine g_sld C GS hi_9 dL_law_212 ?_
            refine g_aload_n C dL_law_213 0 rfl rfl ?_
            refine g_iload C (j := 0) dL_law_214 5 rfl ?_
            refine g_iconst C dL_law_216 (v := 5) rfl ?_
            refine g_iadd C dL_law_217 ?_
            obtain ⟨hi_10, hw⟩ := hw
            refine g_sld C GS hi_10 dL_law_218 ?_
            refine g_aload_n C dL_law_219 3 rfl rfl ?_
            refine g_cS C dL_law_220 (met_L_define C.st hw) (gc_L_define _ (Nat.le_of_ble_eq_true rfl) (Nat.le_of_ble_eq_true rfl)) (Or.inl tw227) tw228 rfl (Nat.le_of_ble_eq_true rfl) (c2 := c + 2) (s2 := s + 12) rfl rfl (by omega) (by omega) rfl (kI (fun r_11 M_12 hw => ?_)) tNo
            refine g_istore C dL_law_223 (Nat.le_of_ble_eq_true rfl) (loc' := [(6, .int r_11), (0, .ref b), (1, gR E 1), (2, gR E 40), (3, gR E 60), (4, gR E 61), (5, .int x5_1)]) rfl ?_
            refine g_aload_n C dL_law_225 3 rfl rfl ?_
            refine g_aload_n C dL_law_226 1 rfl rfl ?_
            refine g_iload C (j := 0) dL_law_227 6 rfl ?_
            refine g_iconst C dL_law_229 (v := 1) rfl ?_
            refine g_iadd C dL_law_230 ?_
            obtain ⟨hi_13, hw⟩ := hw
            refine g_sld C GS hi_13 dL_law_231 ?_
            refine g_aload_n C dL_law_232 1 rfl rfl ?_
            refine g_iload C (j := 0) dL_law_233 6 rfl ?_
            refine g_iconst C dL_law_235 (v := 2) rfl ?_
            refine g_iadd C dL_law_236 ?_
            obtain ⟨hi_14, hw⟩ := hw
            refine g_sld C GS hi_14 dL_law_237 ?_
            refine g_aload_n C dL_law_238 1 rfl rfl ?_
            refine g_iload C (j := 0) dL_law_239 6 rfl ?_
            refine g_iconst C dL_law_241 (v := 3) rfl ?_
            refine g_iadd C dL_law_242 ?_
            obtain ⟨hi_15, hw⟩ := hw
            refine g_sld C GS hi_15 dL_law_243 ?_
            refine g_aload_n C dL_law_244 1 rfl rfl ?_
            refine g_iload C (j := 0) dL_law_245 6 rfl ?_
            refine g_iconst C dL_law_247 (v := 4) rfl ?_
            refine g_iadd C dL_law_248 ?_
            obtain ⟨hi_16, hw⟩ := hw
            refine g_sld C GS hi_16 dL_law_249 ?_
            refine g_aload_n C dL_law_250 1 rfl rfl ?_
            refine g_iload C (j := 0) dL_law_251 6 rfl ?_
            refine g_iconst C dL_law_253 (v := 5) rfl ?_
            refine g_iadd C dL_law_254 ?_
            obtain ⟨hi_17, hw⟩ := hw
            refine g_sld C GS hi_17 dL_law_255 ?_
            obtain ⟨hk_20, hw⟩ := hw
            refine g_cV C dL_law_256 (met_X6_define C.st hw) (gc_X6_define _ (Nat.le_of_ble_eq_true rfl) (Nat.le_of_ble_eq_true rfl)) tw1124 tw1125 tw1126 (ci := 6) rfl (by decide) hk_20 rfl (Nat.le_of_ble_eq_true rfl) (c2 := c + 2) (s2 := s + 12) rfl rfl (by omega) (by omega) rfl (kI (fun r_18 M_19 hw => ?_)) tNo
            refine g_istore C dL_law_259 (Nat.le_of_ble_eq_true rfl) (loc' := [(7, .int r_18), (6, .int r_11), (0, .ref b), (1, gR E 1), (2, gR E 40), (3, gR E 60), (4, gR E 61), (5, .int x5_1)]) rfl ?_
            refine g_aload_n C dL_law_261 4 rfl rfl ?_
            refine g_cV C dL_law_262 (met_X6_thrown C.st hw) (gc_X6_thrown _ (Nat.le_of_ble_eq_true rfl) (Nat.le_of_ble_eq_true rfl)) tw1120 tw1121 tw1122 (ci := 6) rfl (by decide) hk_20 rfl (Nat.le_of_ble_eq_true rfl) (c2 := c + 2) (s2 := s + 12) rfl rfl (by omega) (by omega) rfl (kIp (fun r_21 hw => ?_)) tNo
            refine g_iload C (j := 0) dL_law_265 1 rfl ?_
            refine g_icmp_eq C dL_law_267 (tgt := 272) (by decide) (fun c267 => ?_) (fun c267 => ?_)
            · have hw := hw.1 c267
              refine g_iload C (j := 0) dL_law_272 1 rfl ?_
              refine g_if_ne C dL_law_274 (tgt := 289) (by decide) (fun c274 => ?_) (fun c274 => ?_)
              · have hw := hw.1 c274
                refine g_goto C dL_law_289 (tgt := 2442) (by decide) ?_
                obtain ⟨x5_23, ex5_23⟩ : ∃ y : Int32, y = x5_1 + 6 := ⟨_, rfl⟩
                have hw := hw x5_23 ex5_23
                refine g_iinc C (j := 0) dL_law_2442 7 rfl (v := x5_23) (by rw [ex5_23]; rfl) (Nat.le_of_ble_eq_true rfl) (loc' := [(5, .int x5_23), (7, .int r_18), (6, .int r_11), (0, .ref b), (1, gR E 1), (2, gR E 40), (3, gR E 60), (4, gR E 61)]) rfl ?_
                refine g_goto C dL_law_2445 (tgt := 28) (by decide) ?_
                refine g_sub [3, 4, 5, 6, 7, 0] rfl ?_
                exact ih28 _ _ _ _ (by omega) (by omega) hw
              · have hw := hw.2 c274
                refine g_aload_n C dL_law_277 5 rfl rfl ?_
                refine g_iconst C dL_law_278 (v := 0) rfl ?_
                obtain ⟨hk_24, hw⟩ := hw
                refine g_laload C hk_24 (i := 0) (vp_lit rfl) dL_law_279 ?_
                refine g_iload C (j := 0) dL_law_280 0 rfl ?_
                refine g_i2l C dL_law_282 ?_
                refine g_lc_eq C dL_law_283 dL_law_284 (tgt := 289) (by decide) (fun c284 => ?_) (fun c284 => ?_)
                · have hw := hw.1 c284
                  refine g_goto C dL_law_289 (tgt := 2442) (by decide) ?_
                  obtain ⟨x5_25, ex5_25⟩ : ∃ y : Int32, y = x5_1 + 6 := ⟨_, rfl⟩
                  have hw := hw x5_25 ex5_25
                  refine g_iinc C (j := 0) dL_law_2442 7 rfl (v := x5_25) (by rw [ex5_25]; rfl) (Nat.le_of_ble_eq_true rfl) (loc' := [(5, .int x5_25), (7, .int r_18), (6, .int r_11), (0, .ref b), (1, gR E 1), (2, gR E 40), (3, gR E 60), (4, gR E 61)]) rfl ?_
                  refine g_goto C dL_law_2445 (tgt := 28) (by decide) ?_
                  refine g_sub [3, 4, 5, 6, 7, 0] rfl ?_
                  exact ih28 _ _ _ _ (by omega) (by omega) hw
                · have hw := hw.2 c284
                  refine g_iconst C dL_law_287 (v := 0) rfl ?_
                  exact False.elim hw
            · have hw := hw.2 c267
              refine g_iconst C dL_law_270 (v := 0) rfl ?_
              exact False.elim hw
          · have hw := hw.2.2.1 c45
            refine g_tableIn C dL_law_45 (by rw [c45]; decide) (by rw [c45]; decide) (off := 247) (by rw [c45]; rfl) (tgt := 292) (by decide) ?_
            refine g_aload_n C dL_law_292 1 rfl rfl ?_
            refine g_aload_n C dL_law_293 0 rfl rfl ?_
            refine g_iload C (j := 0) dL_law_294 5 rfl ?_
            refine g_iconst C dL_law_296 (v := 1) rfl ?_
            refine g_iadd C dL_law_297 ?_
            obtain ⟨hi_26, hw⟩ := hw
            refine g_sld C GS hi_26 dL_law_298 ?_
            refine g_aload_n C dL_law_299 3 rfl rfl ?_
            refine g_cS C dL_law_300 (met_L_drop C.st hw) (gc_L_drop _ (Nat.le_of_ble_eq_true rfl) (Nat.le_of_ble_eq_true rfl)) (Or.inl tw380) tw381 rfl (Nat.le_of_ble_eq_true rfl) (c2 := c + 1) (s2 := s + 6) rfl rfl (by omega) (by omega) rfl (kI (fun r_27 M_28 hw => ?_)) tNo
            refine g_istore C dL_law_303 (Nat.le_of_ble_eq_true rfl) (loc' := [(6, .int r_27), (0, .ref b), (1, gR E 1), (2, gR E 40), (3, gR E 60), (4, gR E 61), (5, .int x5_1)]) rfl ?_
            refine g_aload_n C dL_law_305 3 rfl rfl ?_
            refine g_aload_n C dL_law_306 1 rfl rfl ?_
            refine g_iload C (j := 0) dL_law_307 6 rfl ?_
            refine g_iconst C dL_law_309 (v := 1) rfl ?_
            refine g_iadd C dL_law_310 ?_
            obtain ⟨hi_29, hw⟩ := hw
            refine g_sld C GS hi_29 dL_law_311 ?_
            obtain ⟨hk_32, hw⟩ := hw
            refine g_cV C dL_law_312 (met_X6_drop C.st hw) (gc_X6_drop _ (Nat.le_of_ble_eq_true rfl) (Nat.le_of_ble_eq_true rfl)) tw1172 tw1173 tw1174 (ci := 6) rfl (by decide) hk_32 rfl (Nat.le_of_ble_eq_true rfl) (c2 := c + 1) (s2 := s + 6) rfl rfl (by omega) (by omega) rfl (kI (fun r_30 M_31 hw => ?_)) tNo
            refine g_istore C dL_law_315 (Nat.le_of_ble_eq_true rfl) (loc' := [(7, .int r_30), (6, .int r_27), (0, .ref b), (1, gR E 1), (2, gR E 40), (3, gR E 60), (4, gR E 61), (5, .int x5_1)]) rfl ?_
            refine g_aload_n C dL_law_317 4 rfl rfl ?_
            refine g_cV C dL_law_318 (met_X6_thrown C.st hw) (gc_X6_thrown _ (Nat.le_of_ble_eq_true rfl) (Nat.le_of_ble_eq_true rfl)) tw1120 tw1121 tw1122 (ci := 6) rfl (by decide) hk_32 rfl (Nat.le_of_ble_eq_true rfl) (c2 := c + 1) (s2 := s + 6) rfl rfl (by omega) (by omega) rfl (kIp (fun r_33 hw => ?_)) tNo
            refine g_iload C (j := 0) dL_law_321 1 rfl ?_
            refine g_icmp_eq C dL_law_323 (tgt := 328) (by decide) (fun c323 => ?_) (fun c323 => ?_)
            · have hw := hw.1 c323
              refine g_iload C (j := 0) dL_law_328 1 rfl ?_
              refine g_if_ne C dL_law_330 (tgt := 345) (by decide) (fun c330 => ?_) (fun c330 => ?_)
              · have hw := hw.1 c330
                refine g_goto C dL_law_345 (tgt := 2442) (by decide) ?_
                obtain ⟨x5_35, ex5_35⟩ : ∃ y : Int32, y = x5_1 + 6 := ⟨_, rfl⟩
                have hw := hw x5_35 ex5_35
                refine g_iinc C (j := 0) dL_law_2442 7 rfl (v := x5_35) (by rw [ex5_35]; rfl) (Nat.le_of_ble_eq_true rfl) (loc' := [(5, .int x5_35), (7, .int r_30), (6, .int r_27), (0, .ref b), (1, gR E 1), (2, gR E 40), (3, gR E 60), (4, gR E 61)]) rfl ?_
                refine g_goto C dL_law_2445 (tgt := 28) (by decide) ?_
                refine g_sub [3, 4, 5, 6, 7, 0] rfl ?_
                exact ih28 _ _ _ _ (by omega) (by omega) hw
              · have hw := hw.2 c330
                refine g_aload_n C dL_law_333 5 rfl rfl ?_
                refine g_iconst C dL_law_334 (v := 0) rfl ?_
                obtain ⟨hk_36, hw⟩ := hw
                refine g_laload C hk_36 (i := 0) (vp_lit rfl) dL_law_335 ?_
                refine g_iload C (j := 0) dL_law_336 0 rfl ?_
                refine g_i2l C dL_law_338 ?_
                refine g_lc_eq C dL_law_339 dL_law_340 (tgt := 345) (by decide) (fun c340 => ?_) (fun c340 => ?_)
                · have hw := hw.1 c340
                  refine g_goto C dL_law_345 (tgt := 2442) (by decide) ?_
                  obtain ⟨x5_37, ex5_37⟩ : ∃ y : Int32, y = x5_1 + 6 := ⟨_, rfl⟩
                  have hw := hw x5_37 ex5_37
                  refine g_iinc C (j := 0) dL_law_2442 7 rfl (v := x5_37) (by rw [ex5_37]; rfl) (Nat.le_of_ble_eq_true rfl) (loc' := [(5, .int x5_37), (7, .int r_30), (6, .int r_27), (0, .ref b), (1, gR E 1), (2, gR E 40), (3, gR E 60), (4, gR E 61)]) rfl ?_
                  refine g_goto C dL_law_2445 (tgt := 28) (by decide) ?_
                  refine g_sub [3, 4, 5, 6, 7, 0] rfl ?_
                  exact ih28 _ _ _ _ (by omega) (by omega) hw
                · have hw := hw.2 c340
                  refine g_iconst C dL_law_343 (v := 0) rfl ?_
                  exact False.elim hw
            · have hw := hw.2 c323
              refine g_iconst C dL_law_326 (v := 0) rfl ?_
              exact False.elim hw
          · have hw := hw.2.2.2.1 c45
            refine g_tableIn C dL_law_45 (by rw [c45]; decide) (by rw [c45]; decide) (off := 303) (by rw [c45]; rfl) (tgt := 348) (by decide) ?_
            refine g_aload_n C dL_law_348 1 rfl rfl ?_
            refine g_aload_n C dL_law_349 0 rfl rfl ?_
            refine g_iload C (j := 0) dL_law_350 5 rfl ?_
            refine g_iconst C dL_law_352 (v := 1) rfl ?_
            refine g_iadd C dL_law_353 ?_
            obtain ⟨hi_38, hw⟩ := hw
            refine g_sld C GS hi_38 dL_law_354 ?_
            refine g_aload_n C dL_law_355 0 rfl rfl ?_
            refine g_iload C (j := 0) dL_law_356 5 rfl ?_
            refine g_iconst C dL_law_358 (v := 2) rfl ?_
            refine g_iadd C dL_law_359 ?_
            obtain ⟨hi_39, hw⟩ := hw
            refine g_sld C GS hi_39 dL_law_360 ?_
            refine g_aload_n C dL_law_361 0 rfl rfl ?_
            refine g_iload C (j := 0) dL_law_362 5 rfl ?_
            refine g_iconst C dL_law_364 (v := 3) rfl ?_
            refine g_iadd C dL_law_365 ?_
            obtain ⟨hi_40, hw⟩ := hw
            refine g_sld C GS hi_40 dL_law_366 ?_
            refine g_aload_n C dL_law_367 0 rfl rfl ?_
            refine g_iload C (j := 0) dL_law_368 5 rfl ?_
            refine g_iconst C dL_law_370 (v := 4) rfl ?_
            refine g_iadd C dL_law_371 ?_
            obtain ⟨hi_41, hw⟩ := hw
            refine g_sld C GS hi_41 dL_law_372 ?_
            refine g_aload_n C dL_law_373 0 rfl rfl ?_
            refine g_iload C (j := 0) dL_law_374 5 rfl ?_
            refine g_iconst C dL_law_376 (v := 5) rfl ?_
            refine g_iadd C dL_law_377 ?_
            obtain ⟨hi_42, hw⟩ := hw
            refine g_sld C GS hi_42 dL_law_378 ?_
            refine g_aload_n C dL_law_379 3 rfl rfl ?_
            refine g_cS C dL_law_380 (met_L_offer C.st hw) (gc_L_offer _ (Nat.le_of_ble_eq_true rfl) (Nat.le_of_ble_eq_true rfl)) (Or.inl tw391) tw392 rfl (Nat.le_of_ble_eq_true rfl) (c2 := c + 4) (s2 := s + 24) rfl rfl (by omega) (by omega) rfl (kI (fun r_43 M_44 hw => ?_)) tNo
            refine g_istore C dL_law_383 (Nat.le_of_ble_eq_true rfl) (loc' := [(6, .int r_43), (0, .ref b), (1, gR E 1), (2, gR E 40), (3, gR E 60), (4, gR E 61), (5, .int x5_1)]) rfl ?_
            refine g_aload_n C dL_law_385 3 rfl rfl ?_
            refine g_aload_n C dL_law_386 1 rfl rfl ?_
            refine g_iload C (j := 0) dL_law_387 6 rfl ?_
            refine g_iconst C dL_law_389 (v := 1) rfl ?_
            refine g_iadd C dL_law_390 ?_
            obtain ⟨hi_45, hw⟩ := hw
            refine g_sld C GS hi_45 dL_law_391 ?_
            refine g_aload_n C dL_law_392 1 rfl rfl ?_
            refine g_iload C (j := 0) dL_law_393 6 rfl ?_
            refine g_iconst C dL_law_395 (v := 2) rfl ?_
            refine g_iadd C dL_law_396 ?_
            obtain ⟨hi_46, hw⟩ := hw
            refine g_sld C GS hi_46 dL_law_397 ?_
            refine g_aload_n C dL_law_398 1 rfl rfl ?_
            refine g_iload C (j := 0) dL_law_399 6 rfl ?_
            refine g_iconst C dL_law_401 (v := 3) rfl ?_
            refine g_iadd C dL_law_402 ?_
            obtain ⟨hi_47, hw⟩ := hw
            refine g_sld C GS hi_47 dL_law_403 ?_
            refine g_aload_n C dL_law_404 1 rfl rfl ?_
            refine g_iload C (j := 0) dL_law_405 6 rfl ?_
            refine g_iconst C dL_law_407 (v := 4) rfl ?_
            refine g_iadd C dL_law_408 ?_
            obtain ⟨hi_48, hw⟩ := hw
            refine g_sld C GS hi_48 dL_law_409 ?_
            refine g_aload_n C dL_law_410 1 rfl rfl ?_
            refine g_iload C (j := 0) dL_law_411 6 rfl ?_
            refine g_iconst C dL_law_413 (v := 5) rfl ?_
            refine g_iadd C dL_law_414 ?_
            obtain ⟨hi_49, hw⟩ := hw
            refine g_sld C GS hi_49 dL_law_415 ?_
            obtain ⟨hk_52, hw⟩ := hw
            refine g_cV C dL_law_416 (met_X6_offer C.st hw) (gc_X6_offer _ (Nat.le_of_ble_eq_true rfl) (Nat.le_of_ble_eq_true rfl)) tw1176 tw1177 tw1178 (ci := 6) rfl (by decide) hk_52 rfl (Nat.le_of_ble_eq_true rfl) (c2 := c + 4) (s2 := s + 24) rfl rfl (by omega) (by omega) rfl (kI (fun r_50 M_51 hw => ?_)) tNo
            refine g_istore C dL_law_419 (Nat.le_of_ble_eq_true rfl) (loc' := [(7, .int r_50), (6, .int r_43), (0, .ref b), (1, gR E 1), (2, gR E 40), (3, gR E 60), (4, gR E 61), (5, .int x5_1)]) rfl ?_
            refine g_aload_n C dL_law_421 4 rfl rfl ?_
            refine g_cV C dL_law_422 (met_X6_thrown C.st hw) (gc_X6_thrown _ (Nat.le_of_ble_eq_true rfl) (Nat.le_of_ble_eq_true rfl)) tw1120 tw1121 tw1122 (ci := 6) rfl (by decide) hk_52 rfl (Nat.le_of_ble_eq_true rfl) (c2 := c + 4) (s2 := s + 24) rfl rfl (by omega) (by omega) rfl (kIp (fun r_53 hw => ?_)) tNo
            refine g_iload C (j := 0) dL_law_425 1 rfl ?_
            refine g_icmp_eq C dL_law_427 (tgt := 432) (by decide) (fun c427 => ?_) (fun c427 => ?_)
            · have hw := hw.1 c427
              refine g_iload C (j := 0) dL_law_432 1 rfl ?_
              refine g_if_ne C dL_law_434 (tgt := 449) (by decide) (fun c434 => ?_) (fun c434 => ?_)
              · have hw := hw.1 c434
                refine g_goto C dL_law_449 (tgt := 2442) (by decide) ?_
                obtain ⟨x5_55, ex5_55⟩ : ∃ y : Int32, y = x5_1 + 6 := ⟨_, rfl⟩
                have hw := hw x5_55 ex5_55
                refine g_iinc C (j := 0) dL_law_2442 7 rfl (v := x5_55) (by rw [ex5_55]; rfl) (Nat.le_of_ble_eq_true rfl) (loc' := [(5, .int x5_55), (7, .int r_50), (6, .int r_43), (0, .ref b), (1, gR E 1), (2, gR E 40), (3, gR E 60), (4, gR E 61)]) rfl ?_
                refine g_goto C dL_law_2445 (tgt := 28) (by decide) ?_
                refine g_sub [3, 4, 5, 6, 7, 0] rfl ?_
                exact ih28 _ _ _ _ (by omega) (by omega) hw
              · have hw := hw.2 c434
                refine g_aload_n C dL_law_437 5 rfl rfl ?_
                refine g_iconst C dL_law_438 (v := 0) rfl ?_
                obtain ⟨hk_56, hw⟩ := hw
                refine g_laload C hk_56 (i := 0) (vp_lit rfl) dL_law_439 ?_
                refine g_iload C (j := 0) dL_law_440 0 rfl ?_
                refine g_i2l C dL_law_442 ?_
                refine g_lc_eq C dL_law_443 dL_law_444 (tgt := 449) (by decide) (fun c444 => ?_) (fun c444 => ?_)
                · have hw := hw.1 c444
                  refine g_goto C dL_law_449 (tgt := 2442) (by decide) ?_
                  obtain ⟨x5_57, ex5_57⟩ : ∃ y : Int32, y = x5_1 + 6 := ⟨_, rfl⟩
                  have hw := hw x5_57 ex5_57
                  refine g_iinc C (j := 0) dL_law_2442 7 rfl (v := x5_57) (by rw [ex5_57]; rfl) (Nat.le_of_ble_eq_true rfl) (loc' := [(5, .int x5_57), (7, .int r_50), (6, .int r_43), (0, .ref b), (1, gR E 1), (2, gR E 40), (3, gR E 60), (4, gR E 61)]) rfl ?_
                  refine g_goto C dL_law_2445 (tgt := 28) (by decide) ?_
                  refine g_sub [3, 4, 5, 6, 7, 0] rfl ?_
                  exact ih28 _ _ _ _ (by omega) (by omega) hw
                · have hw := hw.2 c444
                  refine g_iconst C dL_law_447 (v := 0) rfl ?_
                  exact False.elim hw
            · have hw := hw.2 c427
              refine g_iconst C dL_law_430 (v := 0) rfl ?_
              exact False.elim hw
          · have hw := hw.2.2.2.2.1 c45
            refine g_tableIn C dL_law_45 (by rw [c45]; decide) (by rw [c45]; decide) (off := 407) (by rw [c45]; rfl) (tgt := 452) (by decide) ?_
            refine g_aload_n C dL_law_452 1 rfl rfl ?_
            refine g_aload_n C dL_law_453 0 rfl rfl ?_
            refine g_iload C (j := 0) dL_law_454 5 rfl ?_
            refine g_iconst C dL_law_456 (v := 1) rfl ?_
            refine g_iadd C dL_law_457 ?_
            obtain ⟨hi_58, hw⟩ := hw
            refine g_sld C GS hi_58 dL_law_458 ?_
            refine g_aload_n C dL_law_459 0 rfl rfl ?_
            refine g_iload C (j := 0) dL_law_460 5 rfl ?_
            refine g_iconst C dL_law_462 (v := 2) rfl ?_
            refine g_iadd C dL_law_463 ?_
            obtain ⟨hi_59, hw⟩ := hw
            refine g_sld C GS hi_59 dL_law_464 ?_
            refine g_aload_n C dL_law_465 0 rfl rfl ?_
            refine g_iload C (j := 0) dL_law_466 5 rfl ?_
            refine g_iconst C dL_law_468 (v := 3) rfl ?_
            refine g_iadd C dL_law_469 ?_
            obtain ⟨hi_60, hw⟩ := hw
            refine g_sld C GS hi_60 dL_law_470 ?_
            refine g_aload_n C dL_law_471 3 rfl rfl ?_
            refine g_cS C dL_law_472 (met_L_offerDrawn C.st hw) (gc_L_offerDrawn _ (Nat.le_of_ble_eq_true rfl) (Nat.le_of_ble_eq_true rfl)) (Or.inl tw440) tw441 rfl (Nat.le_of_ble_eq_true rfl) (c2 := c + 4) (s2 := s + 24) rfl rfl (by omega) (by omega) rfl (kI (fun r_61 M_62 hw => ?_)) tNo
            refine g_istore C dL_law_475 (Nat.le_of_ble_eq_true rfl) (loc' := [(6, .int r_61), (0, .ref b), (1, gR E 1), (2, gR E 40), (3, gR E 60), (4, gR E 61), (5, .int x5_1)]) rfl ?_
            refine g_aload_n C dL_law_477 3 rfl rfl ?_
            refine g_aload_n C dL_law_478 1 rfl rfl ?_
            refine g_iload C (j := 0) dL_law_479 6 rfl ?_
            refine g_iconst C dL_law_481 (v := 1) rfl ?_
            refine g_iadd C dL_law_482 ?_
            obtain ⟨hi_63, hw⟩ := hw
            refine g_sld C GS hi_63 dL_law_483 ?_
            refine g_aload_n C dL_law_484 1 rfl rfl ?_
            refine g_iload C (j := 0) dL_law_485 6 rfl ?_
            refine g_iconst C dL_law_487 (v := 2) rfl ?_
            refine g_iadd C dL_law_488 ?_
            obtain ⟨hi_64, hw⟩ := hw
            refine g_sld C GS hi_64 dL_law_489 ?_
            refine g_aload_n C dL_law_490 1 rfl rfl ?_
            refine g_iload C (j := 0) dL_law_491 6 rfl ?_
            refine g_iconst C dL_law_493 (v := 3) rfl ?_
            refine g_iadd C dL_law_494 ?_
            obtain ⟨hi_65, hw⟩ := hw
            refine g_sld C GS hi_65 dL_law_495 ?_
            obtain ⟨hk_68, hw⟩ := hw
            refine g_cV C dL_law_496 (met_X6_offerDrawn C.st hw) (gc_X6_offerDrawn _ (Nat.le_of_ble_eq_true rfl) (Nat.le_of_ble_eq_true rfl)) tw1205 tw1206 tw1207 (ci := 6) rfl (by decide) hk_68 rfl (Nat.le_of_ble_eq_true rfl) (c2 := c + 4) (s2 := s + 24) rfl rfl (by omega) (by omega) rfl (kI (fun r_66 M_67 hw => ?_)) tNo
            refine g_istore C dL_law_499 (Nat.le_of_ble_eq_true rfl) (loc' := [(7, .int r_66), (6, .int r_61), (0, .ref b), (1, gR E 1), (2, gR E 40), (3, gR E 60), (4, gR E 61), (5, .int x5_1)]) rfl ?_
            refine g_aload_n C dL_law_501 4 rfl rfl ?_
            refine g_cV C dL_law_502 (met_X6_thrown C.st hw) (gc_X6_thrown _ (Nat.le_of_ble_eq_true rfl) (Nat.le_of_ble_eq_true rfl)) tw1120 tw1121 tw1122 (ci := 6) rfl (by decide) hk_68 rfl (Nat.le_of_ble_eq_true rfl) (c2 := c + 4) (s2 := s + 24) rfl rfl (by omega) (by omega) rfl (kIp (fun r_69 hw => ?_)) tNo
            refine g_iload C (j := 0) dL_law_505 1 rfl ?_
            refine g_icmp_eq C dL_law_507 (tgt := 512) (by decide) (fun c507 => ?_) (fun c507 => ?_)
            · have hw := hw.1 c507
              refine g_iload C (j := 0) dL_law_512 1 rfl ?_
              refine g_if_ne C dL_law_514 (tgt := 529) (by decide) (fun c514 => ?_) (fun c514 => ?_)
              · have hw := hw.1 c514
                refine g_goto C dL_law_529 (tgt := 2442) (by decide) ?_
                obtain ⟨x5_71, ex5_71⟩ : ∃ y : Int32, y = x5_1 + 6 := ⟨_, rfl⟩
                have hw := hw x5_71 ex5_71
                refine g_iinc C (j := 0) dL_law_2442 7 rfl (v := x5_71) (by rw [ex5_71]; rfl) (Nat.le_of_ble_eq_true rfl) (loc' := [(5, .int x5_71), (7, .int r_66), (6, .int r_61), (0, .ref b), (1, gR E 1), (2, gR E 40), (3, gR E 60), (4, gR E 61)]) rfl ?_
                refine g_goto C dL_law_2445 (tgt := 28) (by decide) ?_
                refine g_sub [3, 4, 5, 6, 7, 0] rfl ?_
                exact ih28 _ _ _ _ (by omega) (by omega) hw
              · have hw := hw.2 c514
                refine g_aload_n C dL_law_517 5 rfl rfl ?_
                refine g_iconst C dL_law_518 (v := 0) rfl ?_
                obtain ⟨hk_72, hw⟩ := hw
                refine g_laload C hk_72 (i := 0) (vp_lit rfl) dL_law_519 ?_
                refine g_iload C (j := 0) dL_law_520 0 rfl ?_
                refine g_i2l C dL_law_522 ?_
                refine g_lc_eq C dL_law_523 dL_law_524 (tgt := 529) (by decide) (fun c524 => ?_) (fun c524 => ?_)
                · have hw := hw.1 c524
                  refine g_goto C dL_law_529 (tgt := 2442) (by decide) ?_
                  obtain ⟨x5_73, ex5_73⟩ : ∃ y : Int32, y = x5_1 + 6 := ⟨_, rfl⟩
                  have hw := hw x5_73 ex5_73
                  refine g_iinc C (j := 0) dL_law_2442 7 rfl (v := x5_73) (by rw [ex5_73]; rfl) (Nat.le_of_ble_eq_true rfl) (loc' := [(5, .int x5_73), (7, .int r_66), (6, .int r_61), (0, .ref b), (1, gR E 1), (2, gR E 40), (3, gR E 60), (4, gR E 61)]) rfl ?_
                  refine g_goto C dL_law_2445 (tgt := 28) (by decide) ?_
                  refine g_sub [3, 4, 5, 6, 7, 0] rfl ?_
                  exact ih28 _ _ _ _ (by omega) (by omega) hw
                · have hw := hw.2 c524
                  refine g_iconst C dL_law_527 (v := 0) rfl ?_
                  exact False.elim hw
            · have hw := hw.2 c507
              refine g_iconst C dL_law_510 (v := 0) rfl ?_
              exact False.elim hw
          · have hw := hw.2.2.2.2.2.1 c45
            refine g_tableIn C dL_law_45 (by rw [c45]; decide) (by rw [c45]; decide) (off := 487) (by rw [c45]; rfl) (tgt := 532) (by decide) ?_
            refine g_aload_n C dL_law_532 1 rfl rfl ?_
            refine g_aload_n C dL_law_533 0 rfl rfl ?_
            refine g_iload C (j := 0) dL_law_534 5 rfl ?_
            refine g_iconst C dL_law_536 (v := 1) rfl ?_
            refine g_iadd C dL_law_537 ?_
            obtain ⟨hi_74, hw⟩ := hw
            refine g_sld C GS hi_74 dL_law_538 ?_
            refine g_aload_n C dL_law_539 0 rfl rfl ?_
            refine g_iload C (j := 0) dL_law_540 5 rfl ?_
            refine g_iconst C dL_law_542 (v := 2) rfl ?_
            refine g_iadd C dL_law_543 ?_
            obtain ⟨hi_75, hw⟩ := hw
            refine g_sld C GS hi_75 dL_law_544 ?_
            refine g_aload_n C dL_law_545 3 rfl rfl ?_
            refine g_cS C dL_law_546 (met_L_summary C.st hw) (gc_L_summary _ (Nat.le_of_ble_eq_true rfl) (Nat.le_of_ble_eq_true rfl)) (Or.inl tw452) tw453 rfl (Nat.le_of_ble_eq_true rfl) (c2 := c + 3) (s2 := s + 18) rfl rfl (by omega) (by omega) rfl (kI (fun r_76 M_77 hw => ?_)) tNo
            refine g_istore C dL_law_549 (Nat.le_of_ble_eq_true rfl) (loc' := [(6, .int r_76), (0, .ref b), (1, gR E 1), (2, gR E 40), (3, gR E 60), (4, gR E 61), (5, .int x5_1)]) rfl ?_
            refine g_aload_n C dL_law_551 3 rfl rfl ?_
            refine g_aload_n C dL_law_552 1 rfl rfl ?_
            refine g_iload C (j := 0) dL_law_553 6 rfl ?_
            refine g_iconst C dL_law_555 (v := 1) rfl ?_
            refine g_iadd C dL_law_556 ?_
            obtain ⟨hi_78, hw⟩ := hw
            refine g_sld C GS hi_78 dL_law_557 ?_
            refine g_aload_n C dL_law_558 1 rfl rfl ?_
            refine g_iload C (j := 0) dL_law_559 6 rfl ?_
            refine g_iconst C dL_law_561 (v := 2) rfl ?_
            refine g_iadd C dL_law_562 ?_
            obtain ⟨hi_79, hw⟩ := hw
            refine g_sld C GS hi_79 dL_law_563 ?_
            obtain ⟨hk_82, hw⟩ := hw
            refine g_cV C dL_law_564 (met_X6_summary C.st hw) (gc_X6_summary _ (Nat.le_of_ble_eq_true rfl) (Nat.le_of_ble_eq_true rfl)) tw1211 tw1212 tw1213 (ci := 6) rfl (by decide) hk_82 rfl (Nat.le_of_ble_eq_true rfl) (c2 := c + 3) (s2 := s + 18) rfl rfl (by omega) (by omega) rfl (kI (fun r_80 M_81 hw => ?_)) tNo
            refine g_istore C dL_law_567 (Nat.le_of_ble_eq_true rfl) (loc' := [(7, .int r_80), (6, .int r_76), (0, .ref b), (1, gR E 1), (2, gR E 40), (3, gR E 60), (4, gR E 61), (5, .int x5_1)]) rfl ?_
            refine g_aload_n C dL_law_569 4 rfl rfl ?_
            refine g_cV C dL_law_570 (met_X6_thrown C.st hw) (gc_X6_thrown _ (Nat.le_of_ble_eq_true rfl) (Nat.le_of_ble_eq_true rfl)) tw1120 tw1121 tw1122 (ci := 6) rfl (by decide) hk_82 rfl (Nat.le_of_ble_eq_true rfl) (c2 := c + 3) (s2 := s + 18) rfl rfl (by omega) (by omega) rfl (kIp (fun r_83 hw => ?_)) tNo
            refine g_iload C (j := 0) dL_law_573 1 rfl ?_
            refine g_icmp_eq C dL_law_575 (tgt := 580) (by decide) (fun c575 => ?_) (fun c575 => ?_)
            · have hw := hw.1 c575
              refine g_iload C (j := 0) dL_law_580 1 rfl ?_
              refine g_if_ne C dL_law_582 (tgt := 597) (by decide) (fun c582 => ?_) (fun c582 => ?_)
              · have hw := hw.1 c582
                refine g_goto C dL_law_597 (tgt := 2442) (by decide) ?_
                obtain ⟨x5_85, ex5_85⟩ : ∃ y : Int32, y = x5_1 + 6 := ⟨_, rfl⟩
                have hw := hw x5_85 ex5_85
                refine g_iinc C (j := 0) dL_law_2442 7 rfl (v := x5_85) (by rw [ex5_85]; rfl) (Nat.le_of_ble_eq_true rfl) (loc' := [(5, .int x5_85), (7, .int r_80), (6, .int r_76), (0, .ref b), (1, gR E 1), (2, gR E 40), (3, gR E 60), (4, gR E 61)]) rfl ?_
                refine g_goto C dL_law_2445 (tgt := 28) (by decide) ?_
                refine g_sub [3, 4, 5, 6, 7, 0] rfl ?_
                exact ih28 _ _ _ _ (by omega) (by omega) hw
              · have hw := hw.2 c582
                refine g_aload_n C dL_law_585 5 rfl rfl ?_
                refine g_iconst C dL_law_586 (v := 0) rfl ?_
                obtain ⟨hk_86, hw⟩ := hw
                refine g_laload C hk_86 (i := 0) (vp_lit rfl) dL_law_587 ?_
                refine g_iload C (j := 0) dL_law_588 0 rfl ?_
                refine g_i2l C dL_law_590 ?_
                refine g_lc_eq C dL_law_591 dL_law_592 (tgt := 597) (by decide) (fun c592 => ?_) (fun c592 => ?_)
                · have hw := hw.1 c592
                  refine g_goto C dL_law_597 (tgt := 2442) (by decide) ?_
                  obtain ⟨x5_87, ex5_87⟩ : ∃ y : Int32, y = x5_1 + 6 := ⟨_, rfl⟩
                  have hw := hw x5_87 ex5_87
                  refine g_iinc C (j := 0) dL_law_2442 7 rfl (v := x5_87) (by rw [ex5_87]; rfl) (Nat.le_of_ble_eq_true rfl) (loc' := [(5, .int x5_87), (7, .int r_80), (6, .int r_76), (0, .ref b), (1, gR E 1), (2, gR E 40), (3, gR E 60), (4, gR E 61)]) rfl ?_
                  refine g_goto C dL_law_2445 (tgt := 28) (by decide) ?_
                  refine g_sub [3, 4, 5, 6, 7, 0] rfl ?_
                  exact ih28 _ _ _ _ (by omega) (by omega) hw
                · have hw := hw.2 c592
                  refine g_iconst C dL_law_595 (v := 0) rfl ?_
                  exact False.elim hw
            · have hw := hw.2 c575
              refine g_iconst C dL_law_578 (v := 0) rfl ?_
              exact False.elim hw
          · have hw := hw.2.2.2.2.2.2.1 c45
            refine g_tableIn C dL_law_45 (by rw [c45]; decide) (by rw [c45]; decide) (off := 555) (by rw [c45]; rfl) (tgt := 600) (by decide) ?_
            refine g_aload_n C dL_law_600 1 rfl rfl ?_
            refine g_aload_n C dL_law_601 0 rfl rfl ?_
            refine g_iload C (j := 0) dL_law_602 5 rfl ?_
            refine g_iconst C dL_law_604 (v := 1) rfl ?_
            refine g_iadd C dL_law_605 ?_
            obtain ⟨hi_88, hw⟩ := hw
            refine g_sld C GS hi_88 dL_law_606 ?_
            refine g_aload_n C dL_law_607 0 rfl rfl ?_
            refine g_iload C (j := 0) dL_law_608 5 rfl ?_
            refine g_iconst C dL_law_610 (v := 2) rfl ?_
            refine g_iadd C dL_law_611 ?_
            obtain ⟨hi_89, hw⟩ := hw
            refine g_sld C GS hi_89 dL_law_612 ?_
            refine g_aload_n C dL_law_613 0 rfl rfl ?_
            refine g_iload C (j := 0) dL_law_614 5 rfl ?_
            refine g_iconst C dL_law_616 (v := 3) rfl ?_
            refine g_iadd C dL_law_617 ?_
            obtain ⟨hi_90, hw⟩ := hw
            refine g_sld C GS hi_90 dL_law_618 ?_
            refine g_aload_n C dL_law_619 3 rfl rfl ?_
            refine g_cS C dL_law_620 (met_L_setQuota C.st hw) (gc_L_setQuota _ (Nat.le_of_ble_eq_true rfl) (Nat.le_of_ble_eq_true rfl)) (Or.inl tw535) tw536 rfl (Nat.le_of_ble_eq_true rfl) (c2 := c + 4) (s2 := s + 24) rfl rfl (by omega) (by omega) rfl (kI (fun r_91 M_92 hw => ?_)) tNo
            refine g_istore C dL_law_623 (Nat.le_of_ble_eq_true rfl) (loc' := [(6, .int r_91), (0, .ref b), (1, gR E 1), (2, gR E 40), (3, gR E 60), (4, gR E 61), (5, .int x5_1)]) rfl ?_
            refine g_aload_n C dL_law_625 3 rfl rfl ?_
            refine g_aload_n C dL_law_626 1 rfl rfl ?_
            refine g_iload C (j := 0) dL_law_627 6 rfl ?_
            refine g_iconst C dL_law_629 (v := 1) rfl ?_
            refine g_iadd C dL_law_630 ?_
            obtain ⟨hi_93, hw⟩ := hw
            refine g_sld C GS hi_93 dL_law_631 ?_
            refine g_aload_n C dL_law_632 1 rfl rfl ?_
            refine g_iload C (j := 0) dL_law_633 6 rfl ?_
            refine g_iconst C dL_law_635 (v := 2) rfl ?_
            refine g_iadd C dL_law_636 ?_
            obtain ⟨hi_94, hw⟩ := hw
            refine g_sld C GS hi_94 dL_law_637 ?_
            refine g_aload_n C dL_law_638 1 rfl rfl ?_
            refine g_iload C (j := 0) dL_law_639 6 rfl ?_
            refine g_iconst C dL_law_641 (v := 3) rfl ?_
            refine g_iadd C dL_law_642 ?_
            obtain ⟨hi_95, hw⟩ := hw
            refine g_sld C GS hi_95 dL_law_643 ?_
            obtain ⟨hk_98, hw⟩ := hw
            refine g_cV C dL_law_644 (met_X6_setQuota C.st hw) (gc_X6_setQuota _ (Nat.le_of_ble_eq_true rfl) (Nat.le_of_ble_eq_true rfl)) tw1255 tw1256 tw1257 (ci := 6) rfl (by decide) hk_98 rfl (Nat.le_of_ble_eq_true rfl) (c2 := c + 4) (s2 := s + 24) rfl rfl (by omega) (by omega) rfl (kI (fun r_96 M_97 hw => ?_)) tNo
            refine g_istore C dL_law_647 (Nat.le_of_ble_eq_true rfl) (loc' := [(7, .int r_96), (6, .int r_91), (0, .ref b), (1, gR E 1), (2, gR E 40), (3, gR E 60), (4, gR E 61), (5, .int x5_1)]) rfl ?_
            refine g_aload_n C dL_law_649 4 rfl rfl ?_
            refine g_cV C dL_law_650 (met_X6_thrown C.st hw) (gc_X6_thrown _ (Nat.le_of_ble_eq_true rfl) (Nat.le_of_ble_eq_true rfl)) tw1120 tw1121 tw1122 (ci := 6) rfl (by decide) hk_98 rfl (Nat.le_of_ble_eq_true rfl) (c2 := c + 4) (s2 := s + 24) rfl rfl (by omega) (by omega) rfl (kIp (fun r_99 hw => ?_)) tNo
            refine g_iload C (j := 0) dL_law_653 1 rfl ?_
            refine g_icmp_eq C dL_law_655 (tgt := 660) (by decide) (fun c655 => ?_) (fun c655 => ?_)
            · have hw := hw.1 c655
              refine g_iload C (j := 0) dL_law_660 1 rfl ?_
              refine g_if_ne C dL_law_662 (tgt := 677) (by decide) (fun c662 => ?_) (fun c662 => ?_)
              · have hw := hw.1 c662
                refine g_goto C dL_law_677 (tgt := 2442) (by decide) ?_
                obtain ⟨x5_101, ex5_101⟩ : ∃ y : Int32, y = x5_1 + 6 := ⟨_, rfl⟩
                have hw := hw x5_101 ex5_101
                refine g_iinc C (j := 0) dL_law_2442 7 rfl (v := x5_101) (by rw [ex5_101]; rfl) (Nat.le_of_ble_eq_true rfl) (loc' := [(5, .int x5_101), (7, .int r_96), (6, .int r_91), (0, .ref b), (1, gR E 1), (2, gR E 40), (3, gR E 60), (4, gR E 61)]) rfl ?_
                refine g_goto C dL_law_2445 (tgt := 28) (by decide) ?_
                refine g_sub [3, 4, 5, 6, 7, 0] rfl ?_
                exact ih28 _ _ _ _ (by omega) (by omega) hw
              · have hw := hw.2 c662
                refine g_aload_n C dL_law_665 5 rfl rfl ?_
                refine g_iconst C dL_law_666 (v := 0) rfl ?_
                obtain ⟨hk_102, hw⟩ := hw
                refine g_laload C hk_102 (i := 0) (vp_lit rfl) dL_law_667 ?_
                refine g_iload C (j := 0) dL_law_668 0 rfl ?_
                refine g_i2l C dL_law_670 ?_
                refine g_lc_eq C dL_law_671 dL_law_672 (tgt := 677) (by decide) (fun c672 => ?_) (fun c672 => ?_)
                · have hw := hw.1 c672
                  refine g_goto C dL_law_677 (tgt := 2442) (by decide) ?_
                  obtain ⟨x5_103, ex5_103⟩ : ∃ y : Int32, y = x5_1 + 6 := ⟨_, rfl⟩
                  have hw := hw x5_103 ex5_103
                  refine g_iinc C (j := 0) dL_law_2442 7 rfl (v := x5_103) (by rw [ex5_103]; rfl) (Nat.le_of_ble_eq_true rfl) (loc' := [(5, .int x5_103), (7, .int r_96), (6, .int r_91), (0, .ref b), (1, gR E 1), (2, gR E 40), (3, gR E 60), (4, gR E 61)]) rfl ?_
                  refine g_goto C dL_law_2445 (tgt := 28) (by decide) ?_
                  refine g_sub [3, 4, 5, 6, 7, 0] rfl ?_
                  exact ih28 _ _ _ _ (by omega) (by omega) hw
                · have hw := hw.2 c672
                  refine g_iconst C dL_law_675 (v := 0) rfl ?_
                  exact False.elim hw
            · have hw := hw.2 c655
              refine g_iconst C dL_law_658 (v := 0) rfl ?_
              exact False.elim hw
          · have hw := hw.2.2.2.2.2.2.2.1 c45
            refine g_tableIn C dL_law_45 (by rw [c45]; decide) (by rw [c45]; decide) (off := 635) (by rw [c45]; rfl) (tgt := 680) (by decide) ?_
            refine g_aload_n C dL_law_680 1 rfl rfl ?_
            refine g_aload_n C dL_law_681 0 rfl rfl ?_
            refine g_iload C (j := 0) dL_law_682 5 rfl ?_
            refine g_iconst C dL_law_684 (v := 1) rfl ?_
            refine g_iadd C dL_law_685 ?_
            obtain ⟨hi_104, hw⟩ := hw
            refine g_sld C GS hi_104 dL_law_686 ?_
            refine g_aload_n C dL_law_687 0 rfl rfl ?_
            refine g_iload C (j := 0) dL_law_688 5 rfl ?_
            refine g_iconst C dL_law_690 (v := 2) rfl ?_
            refine g_iadd C dL_law_691 ?_
            obtain ⟨hi_105, hw⟩ := hw
            refine g_sld C GS hi_105 dL_law_692 ?_
            refine g_aload_n C dL_law_693 0 rfl rfl ?_
            refine g_iload C (j := 0) dL_law_694 5 rfl ?_
            refine g_iconst C dL_law_696 (v := 3) rfl ?_
            refine g_iadd C dL_law_697 ?_
            obtain ⟨hi_106, hw⟩ := hw
            refine g_sld C GS hi_106 dL_law_698 ?_
            refine g_if_eq C dL_law_699 (tgt := 706) (by decide) (fun c699 => ?_) (fun c699 => ?_)
            · have hw := hw.1 c699
              refine g_iconst C dL_law_706 (v := 0) rfl ?_
              refine g_aload_n C dL_law_707 3 rfl rfl ?_
              refine g_cS C dL_law_708 (met_L_allocate C.st hw) (gc_L_allocate _ (Nat.le_of_ble_eq_true rfl) (Nat.le_of_ble_eq_true rfl)) (Or.inl tw551) tw552 rfl (Nat.le_of_ble_eq_true rfl) (c2 := c + 4) (s2 := s + 24) rfl rfl (by omega) (by omega) rfl (kI (fun r_107 M_108 hw => ?_)) tNo
              refine g_istore C dL_law_711 (Nat.le_of_ble_eq_true rfl) (loc' := [(6, .int r_107), (0, .ref b), (1, gR E 1), (2, gR E 40), (3, gR E 60), (4, gR E 61), (5, .int x5_1)]) rfl ?_
              refine g_aload_n C dL_law_713 3 rfl rfl ?_
              refine g_aload_n C dL_law_714 1 rfl rfl ?_
              refine g_iload C (j := 0) dL_law_715 6 rfl ?_
              refine g_iconst C dL_law_717 (v := 1) rfl ?_
              refine g_iadd C dL_law_718 ?_
              obtain ⟨hi_109, hw⟩ := hw
              refine g_sld C GS hi_109 dL_law_719 ?_
              refine g_aload_n C dL_law_720 1 rfl rfl ?_
              refine g_iload C (j := 0) dL_law_721 6 rfl ?_
              refine g_iconst C dL_law_723 (v := 2) rfl ?_
              refine g_iadd C dL_law_724 ?_
              obtain ⟨hi_110, hw⟩ := hw
              refine g_sld C GS hi_110 dL_law_725 ?_
              refine g_aload_n C dL_law_726 1 rfl rfl ?_
              refine g_iload C (j := 0) dL_law_727 6 rfl ?_
              refine g_iconst C dL_law_729 (v := 3) rfl ?_
              refine g_iadd C dL_law_730 ?_
              obtain ⟨hi_111, hw⟩ := hw
              refine g_sld C GS hi_111 dL_law_731 ?_
              refine g_if_eq C dL_law_732 (tgt := 739) (by decide) (fun c732 => ?_) (fun c732 => ?_)
              · have hw := hw.1 c732
                refine g_iconst C dL_law_739 (v := 0) rfl ?_
                obtain ⟨hk_114, hw⟩ := hw
                refine g_cV C dL_law_740 (met_X6_allocate C.st hw) (gc_X6_allocate _ (Nat.le_of_ble_eq_true rfl) (Nat.le_of_ble_eq_true rfl)) tw1259 tw1260 tw1261 (ci := 6) rfl (by decide) hk_114 rfl (Nat.le_of_ble_eq_true rfl) (c2 := c + 4) (s2 := s + 24) rfl rfl (by omega) (by omega) rfl (kI (fun r_112 M_113 hw => ?_)) tNo
                refine g_istore C dL_law_743 (Nat.le_of_ble_eq_true rfl) (loc' := [(7, .int r_112), (6, .int r_107), (0, .ref b), (1, gR E 1), (2, gR E 40), (3, gR E 60), (4, gR E 61), (5, .int x5_1)]) rfl ?_
                refine g_aload_n C dL_law_745 4 rfl rfl ?_
                refine g_cV C dL_law_746 (met_X6_thrown C.st hw) (gc_X6_thrown _ (Nat.le_of_ble_eq_true rfl) (Nat.le_of_ble_eq_true rfl)) tw1120 tw1121 tw1122 (ci := 6) rfl (by decide) hk_114 rfl (Nat.le_of_ble_eq_true rfl) (c2 := c + 4) (s2 := s + 24) rfl rfl (by omega) (by omega) rfl (kIp (fun r_115 hw => ?_)) tNo
                refine g_iload C (j := 0) dL_law_749 1 rfl ?_
                refine g_icmp_eq C dL_law_751 (tgt := 756) (by decide) (fun c751 => ?_) (fun c751 => ?_)
                · have hw := hw.1 c751
                  refine g_iload C (j := 0) dL_law_756 1 rfl ?_
                  refine g_if_ne C dL_law_758 (tgt := 773) (by decide) (fun c758 => ?_) (fun c758 => ?_)
                  · have hw := hw.1 c758
                    refine g_goto C dL_law_773 (tgt := 2442) (by decide) ?_
                    obtain ⟨x5_117, ex5_117⟩ : ∃ y : Int32, y = x5_1 + 6 := ⟨_, rfl⟩
                    have hw := hw x5_117 ex5_117
                    refine g_iinc C (j := 0) dL_law_2442 7 rfl (v := x5_117) (by rw [ex5_117]; rfl) (Nat.le_of_ble_eq_true rfl) (loc' := [(5, .int x5_117), (7, .int r_112), (6, .int r_107), (0, .ref b), (1, gR E 1), (2, gR E 40), (3, gR E 60), (4, gR E 61)]) rfl ?_
                    refine g_goto C dL_law_2445 (tgt := 28) (by decide) ?_
                    refine g_sub [3, 4, 5, 6, 7, 0] rfl ?_
                    exact ih28 _ _ _ _ (by omega) (by omega) hw
                  · have hw := hw.2 c758
                    refine g_aload_n C dL_law_761 5 rfl rfl ?_
                    refine g_iconst C dL_law_762 (v := 0) rfl ?_
                    obtain ⟨hk_118, hw⟩ := hw
                    refine g_laload C hk_118 (i := 0) (vp_lit rfl) dL_law_763 ?_
                    refine g_iload C (j := 0) dL_law_764 0 rfl ?_
                    refine g_i2l C dL_law_766 ?_
                    refine g_lc_eq C dL_law_767 dL_law_768 (tgt := 773) (by decide) (fun c768 => ?_) (fun c768 => ?_)
                    · have hw := hw.1 c768
                      refine g_goto C dL_law_773 (tgt := 2442) (by decide) ?_
                      obtain ⟨x5_119, ex5_119⟩ : ∃ y : Int32, y = x5_1 + 6 := ⟨_, rfl⟩
                      have hw := hw x5_119 ex5_119
                      refine g_iinc C (j := 0) dL_law_2442 7 rfl (v := x5_119) (by rw [ex5_119]; rfl) (Nat.le_of_ble_eq_true rfl) (loc' := [(5, .int x5_119), (7, .int r_112), (6, .int r_107), (0, .ref b), (1, gR E 1), (2, gR E 40), (3, gR E 60), (4, gR E 61)]) rfl ?_
                      refine g_goto C dL_law_2445 (tgt := 28) (by decide) ?_
                      refine g_sub [3, 4, 5, 6, 7, 0] rfl ?_
                      exact ih28 _ _ _ _ (by omega) (by omega) hw
                    · have hw := hw.2 c768
                      refine g_iconst C dL_law_771 (v := 0) rfl ?_
                      exact False.elim hw
                · have hw := hw.2 c751
                  refine g_iconst C dL_law_754 (v := 0) rfl ?_
                  exact False.elim hw
              · have hw := hw.2 c732
                refine g_iconst C dL_law_735 (v := 1) rfl ?_
                refine g_goto C dL_law_736 (tgt := 740) (by decide) ?_
                obtain ⟨hk_122, hw⟩ := hw
                refine g_cV C dL_law_740 (met_X6_allocate C.st hw) (gc_X6_allocate _ (Nat.le_of_ble_eq_true rfl) (Nat.le_of_ble_eq_true rfl)) tw1259 tw1260 tw1261 (ci := 6) rfl (by decide) hk_122 rfl (Nat.le_of_ble_eq_true rfl) (c2 := c + 4) (s2 := s + 24) rfl rfl (by omega) (by omega) rfl (kI (fun r_120 M_121 hw => ?_)) tNo
                refine g_istore C dL_law_743 (Nat.le_of_ble_eq_true rfl) (loc' := [(7, .int r_120), (6, .int r_107), (0, .ref b), (1, gR E 1), (2, gR E 40), (3, gR E 60), (4, gR E 61), (5, .int x5_1)]) rfl ?_
                refine g_aload_n C dL_law_745 4 rfl rfl ?_
                refine g_cV C dL_law_746 (met_X6_thrown C.st hw) (gc_X6_thrown _ (Nat.le_of_ble_eq_true rfl) (Nat.le_of_ble_eq_true rfl)) tw1120 tw1121 tw1122 (ci := 6) rfl (by decide) hk_122 rfl (Nat.le_of_ble_eq_true rfl) (c2 := c + 4) (s2 := s + 24) rfl rfl (by omega) (by omega) rfl (kIp (fun r_123 hw => ?_)) tNo
                refine g_iload C (j := 0) dL_law_749 1 rfl ?_
                refine g_icmp_eq C dL_law_751 (tgt := 756) (by decide) (fun c751 => ?_) (fun c751 => ?_)
                · have hw := hw.1 c751
                  refine g_iload C (j := 0) dL_law_756 1 rfl ?_
                  refine g_if_ne C dL_law_758 (tgt := 773) (by decide) (fun c758 => ?_) (fun c758 => ?_)
                  · have hw := hw.1 c758
                    refine g_goto C dL_law_773 (tgt := 2442) (by decide) ?_
                    obtain ⟨x5_125, ex5_125⟩ : ∃ y : Int32, y = x5_1 + 6 := ⟨_, rfl⟩
                    have hw := hw x5_125 ex5_125
                    refine g_iinc C (j := 0) dL_law_2442 7 rfl (v := x5_125) (by rw [ex5_125]; rfl) (Nat.le_of_ble_eq_true rfl) (loc' := [(5, .int x5_125), (7, .int r_120), (6, .int r_107), (0, .ref b), (1, gR E 1), (2, gR E 40), (3, gR E 60), (4, gR E 61)]) rfl ?_
                    refine g_goto C dL_law_2445 (tgt := 28) (by decide) ?_
                    refine g_sub [3, 4, 5, 6, 7, 0] rfl ?_
                    exact ih28 _ _ _ _ (by omega) (by omega) hw
                  · have hw := hw.2 c758
                    refine g_aload_n C dL_law_761 5 rfl rfl ?_
                    refine g_iconst C dL_law_762 (v := 0) rfl ?_
                    obtain ⟨hk_126, hw⟩ := hw
                    refine g_laload C hk_126 (i := 0) (vp_lit rfl) dL_law_763 ?_
                    refine g_iload C (j := 0) dL_law_764 0 rfl ?_
                    refine g_i2l C dL_law_766 ?_
                    refine g_lc_eq C dL_law_767 dL_law_768 (tgt := 773) (by decide) (fun c768 => ?_) (fun c768 => ?_)
                    · have hw := hw.1 c768
                      refine g_goto C dL_law_773 (tgt := 2442) (by decide) ?_
                      obtain ⟨x5_127, ex5_127⟩ : ∃ y : Int32, y = x5_1 + 6 := ⟨_, rfl⟩
                      have hw := hw x5_127 ex5_127
                      refine g_iinc C (j := 0) dL_law_2442 7 rfl (v := x5_127) (by rw [ex5_127]; rfl) (Nat.le_of_ble_eq_true rfl) (loc' := [(5, .int x5_127), (7, .int r_120), (6, .int r_107), (0, .ref b), (1, gR E 1), (2, gR E 40), (3, gR E 60), (4, gR E 61)]) rfl ?_
                      refine g_goto C dL_law_2445 (tgt := 28) (by decide) ?_
                      refine g_sub [3, 4, 5, 6, 7, 0] rfl ?_
                      exact ih28 _ _ _ _ (by omega) (by omega) hw
                    · have hw := hw.2 c768
                      refine g_iconst C dL_law_771 (v := 0) rfl ?_
                      exact False.elim hw
                · have hw := hw.2 c751
                  refine g_iconst C dL_law_754 (v := 0) rfl ?_
                  exact False.elim hw
            · have hw := hw.2 c699
              refine g_iconst C dL_law_702 (v := 1) rfl ?_
              refine g_goto C dL_law_703 (tgt := 707) (by decide) ?_
              refine g_aload_n C dL_law_707 3 rfl rfl ?_
              refine g_cS C dL_law_708 (met_L_allocate C.st hw) (gc_L_allocate _ (Nat.le_of_ble_eq_true rfl) (Nat.le_of_ble_eq_true rfl)) (Or.inl tw551) tw552 rfl (Nat.le_of_ble_eq_true rfl) (c2 := c + 4) (s2 := s + 24) rfl rfl (by omega) (by omega) rfl (kI (fun r_128 M_129 hw => ?_)) tNo
              refine g_istore C dL_law_711 (Nat.le_of_ble_eq_true rfl) (loc' := [(6, .int r_128), (0, .ref b), (1, gR E 1), (2, gR E 40), (3, gR E 60), (4, gR E 61), (5, .int x5_1)]) rfl ?_
              refine g_aload_n C dL_law_713 3 rfl rfl ?_
              refine g_aload_n C dL_law_714 1 rfl rfl ?_
              refine g_iload C (j := 0) dL_law_715 6 rfl ?_
              refine g_iconst C dL_law_717 (v := 1) rfl ?_
              refine g_iadd C dL_law_718 ?_
              obtain ⟨hi_130, hw⟩ := hw
              refine g_sld C GS hi_130 dL_law_719 ?_
              refine g_aload_n C dL_law_720 1 rfl rfl ?_
              refine g_iload C (j := 0) dL_law_721 6 rfl ?_
              refine g_iconst C dL_law_723 (v := 2) rfl ?_
              refine g_iadd C dL_law_724 ?_
              obtain ⟨hi_131, hw⟩ := hw
              refine g_sld C GS hi_131 dL_law_725 ?_
              refine g_aload_n C dL_law_726 1 rfl rfl ?_
              refine g_iload C (j := 0) dL_law_727 6 rfl ?_
              refine g_iconst C dL_law_729 (v := 3) rfl ?_
              refine g_iadd C dL_law_730 ?_
              obtain ⟨hi_132, hw⟩ := hw
              refine g_sld C GS hi_132 dL_law_731 ?_
              refine g_if_eq C dL_law_732 (tgt := 739) (by decide) (fun c732 => ?_) (fun c732 => ?_)
              · have hw := hw.1 c732
                refine g_iconst C dL_law_739 (v := 0) rfl ?_
                obtain ⟨hk_135, hw⟩ := hw
                refine g_cV C dL_law_740 (met_X6_allocate C.st hw) (gc_X6_allocate _ (Nat.le_of_ble_eq_true rfl) (Nat.le_of_ble_eq_true rfl)) tw1259 tw1260 tw1261 (ci := 6) rfl (by decide) hk_135 rfl (Nat.le_of_ble_eq_true rfl) (c2 := c + 4) (s2 := s + 24) rfl rfl (by omega) (by omega) rfl (kI (fun r_133 M_134 hw => ?_)) tNo
                refine g_istore C dL_law_743 (Nat.le_of_ble_eq_true rfl) (loc' := [(7, .int r_133), (6, .int r_128), (0, .ref b), (1, gR E 1), (2, gR E 40), (3, gR E 60), (4, gR E 61), (5, .int x5_1)]) rfl ?_
                refine g_aload_n C dL_law_745 4 rfl rfl ?_
                refine g_cV C dL_law_746 (met_X6_thrown C.st hw) (gc_X6_thrown _ (Nat.le_of_ble_eq_true rfl) (Nat.le_of_ble_eq_true rfl)) tw1120 tw1121 tw1122 (ci := 6) rfl (by decide) hk_135 rfl (Nat.le_of_ble_eq_true rfl) (c2 := c + 4) (s2 := s + 24) rfl rfl (by omega) (by omega) rfl (kIp (fun r_136 hw => ?_)) tNo
                refine g_iload C (j := 0) dL_law_749 1 rfl ?_
                refine g_icmp_eq C dL_law_751 (tgt := 756) (by decide) (fun c751 => ?_) (fun c751 => ?_)
                · have hw := hw.1 c751
                  refine g_iload C (j := 0) dL_law_756 1 rfl ?_
                  refine g_if_ne C dL_law_758 (tgt := 773) (by decide) (fun c758 => ?_) (fun c758 => ?_)
                  · have hw := hw.1 c758
                    refine g_goto C dL_law_773 (tgt := 2442) (by decide) ?_
                    obtain ⟨x5_138, ex5_138⟩ : ∃ y : Int32, y = x5_1 + 6 := ⟨_, rfl⟩
                    have hw := hw x5_138 ex5_138
                    refine g_iinc C (j := 0) dL_law_2442 7 rfl (v := x5_138) (by rw [ex5_138]; rfl) (Nat.le_of_ble_eq_true rfl) (loc' := [(5, .int x5_138), (7, .int r_133), (6, .int r_128), (0, .ref b), (1, gR E 1), (2, gR E 40), (3, gR E 60), (4, gR E 61)]) rfl ?_
                    refine g_goto C dL_law_2445 (tgt := 28) (by decide) ?_
                    refine g_sub [3, 4, 5, 6, 7, 0] rfl ?_
                    exact ih28 _ _ _ _ (by omega) (by omega) hw
                  · have hw := hw.2 c758
                    refine g_aload_n C dL_law_761 5 rfl rfl ?_
                    refine g_iconst C dL_law_762 (v := 0) rfl ?_
                    obtain ⟨hk_139, hw⟩ := hw
                    refine g_laload C hk_139 (i := 0) (vp_lit rfl) dL_law_763 ?_
                    refine g_iload C (j := 0) dL_law_764 0 rfl ?_
                    refine g_i2l C dL_law_766 ?_
                    refine g_lc_eq C dL_law_767 dL_law_768 (tgt := 773) (by decide) (fun c768 => ?_) (fun c768 => ?_)
                    · have hw := hw.1 c768
                      refine g_goto C dL_law_773 (tgt := 2442) (by decide) ?_
                      obtain ⟨x5_140, ex5_140⟩ : ∃ y : Int32, y = x5_1 + 6 := ⟨_, rfl⟩
                      have hw := hw x5_140 ex5_140
                      refine g_iinc C (j := 0) dL_law_2442 7 rfl (v := x5_140) (by rw [ex5_140]; rfl) (Nat.le_of_ble_eq_true rfl) (loc' := [(5, .int x5_140), (7, .int r_133), (6, .int r_128), (0, .ref b), (1, gR E 1), (2, gR E 40), (3, gR E 60), (4, gR E 61)]) rfl ?_
                      refine g_goto C dL_law_2445 (tgt := 28) (by decide) ?_
                      refine g_sub [3, 4, 5, 6, 7, 0] rfl ?_
                      exact ih28 _ _ _ _ (by omega) (by omega) hw
                    · have hw := hw.2 c768
                      refine g_iconst C dL_law_771 (v := 0) rfl ?_
                      exact False.elim hw
                · have hw := hw.2 c751
                  refine g_iconst C dL_law_754 (v := 0) rfl ?_
                  exact False.elim hw
              · have hw := hw.2 c732
                refine g_iconst C dL_law_735 (v := 1) rfl ?_
                refine g_goto C dL_law_736 (tgt := 740) (by decide) ?_
                obtain ⟨hk_143, hw⟩ := hw
                refine g_cV C dL_law_740 (met_X6_allocate C.st hw) (gc_X6_allocate _ (Nat.le_of_ble_eq_true rfl) (Nat.le_of_ble_eq_true rfl)) tw1259 tw1260 tw1261 (ci := 6) rfl (by decide) hk_143 rfl (Nat.le_of_ble_eq_true rfl) (c2 := c + 4) (s2 := s + 24) rfl rfl (by omega) (by omega) rfl (kI (fun r_141 M_142 hw => ?_)) tNo
                refine g_istore C dL_law_743 (Nat.le_of_ble_eq_true rfl) (loc' := [(7, .int r_141), (6, .int r_128), (0, .ref b), (1, gR E 1), (2, gR E 40), (3, gR E 60), (4, gR E 61), (5, .int x5_1)]) rfl ?_
                refine g_aload_n C dL_law_745 4 rfl rfl ?_
                refine g_cV C dL_law_746 (met_X6_thrown C.st hw) (gc_X6_thrown _ (Nat.le_of_ble_eq_true rfl) (Nat.le_of_ble_eq_true rfl)) tw1120 tw1121 tw1122 (ci := 6) rfl (by decide) hk_143 rfl (Nat.le_of_ble_eq_true rfl) (c2 := c + 4) (s2 := s + 24) rfl rfl (by omega) (by omega) rfl (kIp (fun r_144 hw => ?_)) tNo
                refine g_iload C (j := 0) dL_law_749 1 rfl ?_
                refine g_icmp_eq C dL_law_751 (tgt := 756) (by decide) (fun c751 => ?_) (fun c751 => ?_)
                · have hw := hw.1 c751
                  refine g_iload C (j := 0) dL_law_756 1 rfl ?_
                  refine g_if_ne C dL_law_758 (tgt := 773) (by decide) (fun c758 => ?_) (fun c758 => ?_)
                  · have hw := hw.1 c758
                    refine g_goto C dL_law_773 (tgt := 2442) (by decide) ?_
                    obtain ⟨x5_146, ex5_146⟩ : ∃ y : Int32, y = x5_1 + 6 := ⟨_, rfl⟩
                    have hw := hw x5_146 ex5_146
                    refine g_iinc C (j := 0) dL_law_2442 7 rfl (v := x5_146) (by rw [ex5_146]; rfl) (Nat.le_of_ble_eq_true rfl) (loc' := [(5, .int x5_146), (7, .int r_141), (6, .int r_128), (0, .ref b), (1, gR E 1), (2, gR E 40), (3, gR E 60), (4, gR E 61)]) rfl ?_
                    refine g_goto C dL_law_2445 (tgt := 28) (by decide) ?_
                    refine g_sub [3, 4, 5, 6, 7, 0] rfl ?_
                    exact ih28 _ _ _ _ (by omega) (by omega) hw
                  · have hw := hw.2 c758
                    refine g_aload_n C dL_law_761 5 rfl rfl ?_
                    refine g_iconst C dL_law_762 (v := 0) rfl ?_
                    obtain ⟨hk_147, hw⟩ := hw
                    refine g_laload C hk_147 (i := 0) (vp_lit rfl) dL_law_763 ?_
                    refine g_iload C (j := 0) dL_law_764 0 rfl ?_
                    refine g_i2l C dL_law_766 ?_
                    refine g_lc_eq C dL_law_767 dL_law_768 (tgt := 773) (by decide) (fun c768 => ?_) (fun c768 => ?_)
                    · have hw := hw.1 c768
                      refine g_goto C dL_law_773 (tgt := 2442) (by decide) ?_
                      obtain ⟨x5_148, ex5_148⟩ : ∃ y : Int32, y = x5_1 + 6 := ⟨_, rfl⟩
                      have hw := hw x5_148 ex5_148
                      refine g_iinc C (j := 0) dL_law_2442 7 rfl (v := x5_148) (by rw [ex5_148]; rfl) (Nat.le_of_ble_eq_true rfl) (loc' := [(5, .int x5_148), (7, .int r_141), (6, .int r_128), (0, .ref b), (1, gR E 1), (2, gR E 40), (3, gR E 60), (4, gR E 61)]) rfl ?_
                      refine g_goto C dL_law_2445 (tgt := 28) (by decide) ?_
                      refine g_sub [3, 4, 5, 6, 7, 0] rfl ?_
                      exact ih28 _ _ _ _ (by omega) (by omega) hw
                    · have hw := hw.2 c768
                      refine g_iconst C dL_law_771 (v := 0) rfl ?_
                      exact False.elim hw
                · have hw := hw.2 c751
                  refine g_iconst C dL_law_754 (v := 0) rfl ?_
                  exact False.elim hw
          · have hw := hw.2.2.2.2.2.2.2.2.1 c45
            refine g_tableIn C dL_law_45 (by rw [c45]; decide) (by rw [c45]; decide) (off := 731) (by rw [c45]; rfl) (tgt := 776) (by decide) ?_
            refine g_aload_n C dL_law_776 1 rfl rfl ?_
            refine g_aload_n C dL_law_777 0 rfl rfl ?_
            refine g_iload C (j := 0) dL_law_778 5 rfl ?_
            refine g_iconst C dL_law_780 (v := 1) rfl ?_
            refine g_iadd C dL_law_781 ?_
            obtain ⟨hi_149, hw⟩ := hw
            refine g_sld C GS hi_149 dL_law_782 ?_
            refine g_aload_n C dL_law_783 0 rfl rfl ?_
            refine g_iload C (j := 0) dL_law_784 5 rfl ?_
            refine g_iconst C dL_law_786 (v := 2) rfl ?_
            refine g_iadd C dL_law_787 ?_
            obtain ⟨hi_150, hw⟩ := hw
            refine g_sld C GS hi_150 dL_law_788 ?_
            refine g_aload_n C dL_law_789 3 rfl rfl ?_
            refine g_cS C dL_law_790 (met_L_quota C.st hw) (gc_L_quota _ (Nat.le_of_ble_eq_true rfl) (Nat.le_of_ble_eq_true rfl)) (Or.inl tw584) tw585 rfl (Nat.le_of_ble_eq_true rfl) (c2 := c + 3) (s2 := s + 18) rfl rfl (by omega) (by omega) rfl (kI (fun r_151 M_152 hw => ?_)) tNo
            refine g_istore C dL_law_793 (Nat.le_of_ble_eq_true rfl) (loc' := [(6, .int r_151), (0, .ref b), (1, gR E 1), (2, gR E 40), (3, gR E 60), (4, gR E 61), (5, .int x5_1)]) rfl ?_
            refine g_aload_n C dL_law_795 3 rfl rfl ?_
            refine g_aload_n C dL_law_796 1 rfl rfl ?_
            refine g_iload C (j := 0) dL_law_797 6 rfl ?_
            refine g_iconst C dL_law_799 (v := 1) rfl ?_
            refine g_iadd C dL_law_800 ?_
            obtain ⟨hi_153, hw⟩ := hw
            refine g_sld C GS hi_153 dL_law_801 ?_
            refine g_aload_n C dL_law_802 1 rfl rfl ?_
            refine g_iload C (j := 0) dL_law_803 6 rfl ?_
            refine g_iconst C dL_law_805 (v := 2) rfl ?_
            refine g_iadd C dL_law_806 ?_
            obtain ⟨hi_154, hw⟩ := hw
            refine g_sld C GS hi_154 dL_law_807 ?_
            obtain ⟨hk_157, hw⟩ := hw
            refine g_cV C dL_law_808 (met_X6_quota C.st hw) (gc_X6_quota _ (Nat.le_of_ble_eq_true rfl) (Nat.le_of_ble_eq_true rfl)) tw1263 tw1264 tw1265 (ci := 6) rfl (by decide) hk_157 rfl (Nat.le_of_ble_eq_true rfl) (c2 := c + 3) (s2 := s + 18) rfl rfl (by omega) (by omega) rfl (kI (fun r_155 M_156 hw => ?_)) tNo
            refine g_istore C dL_law_811 (Nat.le_of_ble_eq_true rfl) (loc' := [(7, .int r_155), (6, .int r_151), (0, .ref b), (1, gR E 1), (2, gR E 40), (3, gR E 60), (4, gR E 61), (5, .int x5_1)]) rfl ?_
            refine g_aload_n C dL_law_813 4 rfl rfl ?_
            refine g_cV C dL_law_814 (met_X6_thrown C.st hw) (gc_X6_thrown _ (Nat.le_of_ble_eq_true rfl) (Nat.le_of_ble_eq_true rfl)) tw1120 tw1121 tw1122 (ci := 6) rfl (by decide) hk_157 rfl (Nat.le_of_ble_eq_true rfl) (c2 := c + 3) (s2 := s + 18) rfl rfl (by omega) (by omega) rfl (kIp (fun r_158 hw => ?_)) tNo
            refine g_iload C (j := 0) dL_law_817 1 rfl ?_
            refine g_icmp_eq C dL_law_819 (tgt := 824) (by decide) (fun c819 => ?_) (fun c819 => ?_)
            · have hw := hw.1 c819
              refine g_iload C (j := 0) dL_law_824 1 rfl ?_
              refine g_if_ne C dL_law_826 (tgt := 841) (by decide) (fun c826 => ?_) (fun c826 => ?_)
              · have hw := hw.1 c826
                refine g_goto C dL_law_841 (tgt := 2442) (by decide) ?_
                obtain ⟨x5_160, ex5_160⟩ : ∃ y : Int32, y = x5_1 + 6 := ⟨_, rfl⟩
                have hw := hw x5_160 ex5_160
                refine g_iinc C (j := 0) dL_law_2442 7 rfl (v := x5_160) (by rw [ex5_160]; rfl) (Nat.le_of_ble_eq_true rfl) (loc' := [(5, .int x5_160), (7, .int r_155), (6, .int r_151), (0, .ref b), (1, gR E 1), (2, gR E 40), (3, gR E 60), (4, gR E 61)]) rfl ?_
                refine g_goto C dL_law_2445 (tgt := 28) (by decide) ?_
                refine g_sub [3, 4, 5, 6, 7, 0] rfl ?_
                exact ih28 _ _ _ _ (by omega) (by omega) hw
              · have hw := hw.2 c826
                refine g_aload_n C dL_law_829 5 rfl rfl ?_
                refine g_iconst C dL_law_830 (v := 0) rfl ?_
                obtain ⟨hk_161, hw⟩ := hw
                refine g_laload C hk_161 (i := 0) (vp_lit rfl) dL_law_831 ?_
                refine g_iload C (j := 0) dL_law_832 0 rfl ?_
                refine g_i2l C dL_law_834 ?_
                refine g_lc_eq C dL_law_835 dL_law_836 (tgt := 841) (by decide) (fun c836 => ?_) (fun c836 => ?_)
                · have hw := hw.1 c836
                  refine g_goto C dL_law_841 (tgt := 2442) (by decide) ?_
                  obtain ⟨x5_162, ex5_162⟩ : ∃ y : Int32, y = x5_1 + 6 := ⟨_, rfl⟩
                  have hw := hw x5_162 ex5_162
                  refine g_iinc C (j := 0) dL_law_2442 7 rfl (v := x5_162) (by rw [ex5_162]; rfl) (Nat.le_of_ble_eq_true rfl) (loc' := [(5, .int x5_162), (7, .int r_155), (6, .int r_151), (0, .ref b), (1, gR E 1), (2, gR E 40), (3, gR E 60), (4, gR E 61)]) rfl ?_
                  refine g_goto C dL_law_2445 (tgt := 28) (by decide) ?_
                  refine g_sub [3, 4, 5, 6, 7, 0] rfl ?_
                  exact ih28 _ _ _ _ (by omega) (by omega) hw
                · have hw := hw.2 c836
                  refine g_iconst C dL_law_839 (v := 0) rfl ?_
                  exact False.elim hw
            · have hw := hw.2 c819
              refine g_iconst C dL_law_822 (v := 0) rfl ?_
              exact False.elim hw
          · have hw := hw.2.2.2.2.2.2.2.2.2.1 c45
            refine g_tableIn C dL_law_45 (by rw [c45]; decide) (by rw [c45]; decide) (off := 799) (by rw [c45]; rfl) (tgt := 844) (by decide) ?_
            refine g_aload_n C dL_law_844 1 rfl rfl ?_
            refine g_aload_n C dL_law_845 0 rfl rfl ?_
            refine g_iload C (j := 0) dL_law_846 5 rfl ?_
            refine g_iconst C dL_law_848 (v := 1) rfl ?_
            refine g_iadd C dL_law_849 ?_
            obtain ⟨hi_163, hw⟩ := hw
            refine g_sld C GS hi_163 dL_law_850 ?_
            refine g_aload_n C dL_law_851 0 rfl rfl ?_
            refine g_iload C (j := 0) dL_law_852 5 rfl ?_
            refine g_iconst C dL_law_854 (v := 2) rfl ?_
            refine g_iadd C dL_law_855 ?_
            obtain ⟨hi_164, hw⟩ := hw
            refine g_sld C GS hi_164 dL_law_856 ?_
            refine g_aload_n C dL_law_857 3 rfl rfl ?_
            refine g_cS C dL_law_858 (met_L_merge C.st hw) (gc_L_merge _ (Nat.le_of_ble_eq_true rfl) (Nat.le_of_ble_eq_true rfl)) (Or.inl tw591) tw592 rfl (Nat.le_of_ble_eq_true rfl) (c2 := c + 5) (s2 := s + 30) rfl rfl (by omega) (by omega) rfl (kI (fun r_165 M_166 hw => ?_)) tNo
            refine g_istore C dL_law_861 (Nat.le_of_ble_eq_true rfl) (loc' := [(6, .int r_165), (0, .ref b), (1, gR E 1), (2, gR E 40), (3, gR E 60), (4, gR E 61), (5, .int x5_1)]) rfl ?_
            refine g_aload_n C dL_law_863 3 rfl rfl ?_
            refine g_aload_n C dL_law_864 1 rfl rfl ?_
            refine g_iload C (j := 0) dL_law_865 6 rfl ?_
            refine g_iconst C dL_law_867 (v := 1) rfl ?_
            refine g_iadd C dL_law_868 ?_
            obtain ⟨hi_167, hw⟩ := hw
            refine g_sld C GS hi_167 dL_law_869 ?_
            refine g_aload_n C dL_law_870 1 rfl rfl ?_
            refine g_iload C (j := 0) dL_law_871 6 rfl ?_
            refine g_iconst C dL_law_873 (v := 2) rfl ?_
            refine g_iadd C dL_law_874 ?_
            obtain ⟨hi_168, hw⟩ := hw
            refine g_sld C GS hi_168 dL_law_875 ?_
            obtain ⟨hk_171, hw⟩ := hw
            refine g_cV C dL_law_876 (met_X6_merge C.st hw) (gc_X6_merge _ (Nat.le_of_ble_eq_true rfl) (Nat.le_of_ble_eq_true rfl)) tw1267 tw1268 tw1269 (ci := 6) rfl (by decide) hk_171 rfl (Nat.le_of_ble_eq_true rfl) (c2 := c + 5) (s2 := s + 30) rfl rfl (by omega) (by omega) rfl (kI (fun r_169 M_170 hw => ?_)) tNo
            refine g_istore C dL_law_879 (Nat.le_of_ble_eq_true rfl) (loc' := [(7, .int r_169), (6, .int r_165), (0, .ref b), (1, gR E 1), (2, gR E 40), (3, gR E 60), (4, gR E 61), (5, .int x5_1)]) rfl ?_
            refine g_aload_n C dL_law_881 4 rfl rfl ?_
            refine g_cV C dL_law_882 (met_X6_thrown C.st hw) (gc_X6_thrown _ (Nat.le_of_ble_eq_true rfl) (Nat.le_of_ble_eq_true rfl)) tw1120 tw1121 tw1122 (ci := 6) rfl (by decide) hk_171 rfl (Nat.le_of_ble_eq_true rfl) (c2 := c + 5) (s2 := s + 30) rfl rfl (by omega) (by omega) rfl (kIp (fun r_172 hw => ?_)) tNo
            refine g_iload C (j := 0) dL_law_885 1 rfl ?_
            refine g_icmp_eq C dL_law_887 (tgt := 892) (by decide) (fun c887 => ?_) (fun c887 => ?_)
            · have hw := hw.1 c887
              refine g_iload C (j := 0) dL_law_892 1 rfl ?_
              refine g_if_ne C dL_law_894 (tgt := 909) (by decide) (fun c894 => ?_) (fun c894 => ?_)
              · have hw := hw.1 c894
                refine g_goto C dL_law_909 (tgt := 2442) (by decide) ?_
                obtain ⟨x5_174, ex5_174⟩ : ∃ y : Int32, y = x5_1 + 6 := ⟨_, rfl⟩
                have hw := hw x5_174 ex5_174
                refine g_iinc C (j := 0) dL_law_2442 7 rfl (v := x5_174) (by rw [ex5_174]; rfl) (Nat.le_of_ble_eq_true rfl) (loc' := [(5, .int x5_174), (7, .int r_169), (6, .int r_165), (0, .ref b), (1, gR E 1), (2, gR E 40), (3, gR E 60), (4, gR E 61)]) rfl ?_
                refine g_goto C dL_law_2445 (tgt := 28) (by decide) ?_
                refine g_sub [3, 4, 5, 6, 7, 0] rfl ?_
                exact ih28 _ _ _ _ (by omega) (by omega) hw
              · have hw := hw.2 c894
                refine g_aload_n C dL_law_897 5 rfl rfl ?_
                refine g_iconst C dL_law_898 (v := 0) rfl ?_
                obtain ⟨hk_175, hw⟩ := hw
                refine g_laload C hk_175 (i := 0) (vp_lit rfl) dL_law_899 ?_
                refine g_iload C (j := 0) dL_law_900 0 rfl ?_
                refine g_i2l C dL_law_902 ?_
                refine g_lc_eq C dL_law_903 dL_law_904 (tgt := 909) (by decide) (fun c904 => ?_) (fun c904 => ?_)
                · have hw := hw.1 c904
                  refine g_goto C dL_law_909 (tgt := 2442) (by decide) ?_
                  obtain ⟨x5_176, ex5_176⟩ : ∃ y : Int32, y = x5_1 + 6 := ⟨_, rfl⟩
                  have hw := hw x5_176 ex5_176
                  refine g_iinc C (j := 0) dL_law_2442 7 rfl (v := x5_176) (by rw [ex5_176]; rfl) (Nat.le_of_ble_eq_true rfl) (loc' := [(5, .int x5_176), (7, .int r_169), (6, .int r_165), (0, .ref b), (1, gR E 1), (2, gR E 40), (3, gR E 60), (4, gR E 61)]) rfl ?_
                  refine g_goto C dL_law_2445 (tgt := 28) (by decide) ?_
                  refine g_sub [3, 4, 5, 6, 7, 0] rfl ?_
                  exact ih28 _ _ _ _ (by omega) (by omega) hw
                · have hw := hw.2 c904
                  refine g_iconst C dL_law_907 (v := 0) rfl ?_
                  exact False.elim hw
            · have hw := hw.2 c887
              refine g_iconst C dL_law_890 (v := 0) rfl ?_
              exact False.elim hw
          · have hw := hw.2.2.2.2.2.2.2.2.2.2.1 c45
            refine g_tableIn C dL_law_45 (by rw [c45]; decide) (by rw [c45]; decide) (off := 867) (by rw [c45]; rfl) (tgt := 912) (by decide) ?_
            refine g_aload_n C dL_law_912 1 rfl rfl ?_
            refine g_aload_n C dL_law_913 0 rfl rfl ?_
            refine g_iload C (j := 0) dL_law_914 5 rfl ?_
            refine g_iconst C dL_law_916 (v := 1) rfl ?_
            refine g_iadd C dL_law_917 ?_
            obtain ⟨hi_177, hw⟩ := hw
            refine g_sld C GS hi_177 dL_law_918 ?_
            refine g_aload_n C dL_law_919 0 rfl rfl ?_
            refine g_iload C (j := 0) dL_law_920 5 rfl ?_
            refine g_iconst C dL_law_922 (v := 2) rfl ?_
            refine g_iadd C dL_law_923 ?_
            obtain ⟨hi_178, hw⟩ := hw
            refine g_sld C GS hi_178 dL_law_924 ?_
            refine g_aload_n C dL_law_925 3 rfl rfl ?_
            refine g_cS C dL_law_926 (met_L_copy C.st hw) (gc_L_copy _ (Nat.le_of_ble_eq_true rfl) (Nat.le_of_ble_eq_true rfl)) (Or.inl tw636) tw637 rfl (Nat.le_of_ble_eq_true rfl) (c2 := c + 3) (s2 := s + 18) rfl rfl (by omega) (by omega) rfl (kI (fun r_179 M_180 hw => ?_)) tNo
            refine g_istore C dL_law_929 (Nat.le_of_ble_eq_true rfl) (loc' := [(6, .int r_179), (0, .ref b), (1, gR E 1), (2, gR E 40), (3, gR E 60), (4, gR E 61), (5, .int x5_1)]) rfl ?_
            refine g_aload_n C dL_law_931 3 rfl rfl ?_
            refine g_aload_n C dL_law_932 1 rfl rfl ?_
            refine g_iload C (j := 0) dL_law_933 6 rfl ?_
            refine g_iconst C dL_law_935 (v := 1) rfl ?_
            refine g_iadd C dL_law_936 ?_
            obtain ⟨hi_181, hw⟩ := hw
            refine g_sld C GS hi_181 dL_law_937 ?_
            refine g_aload_n C dL_law_938 1 rfl rfl ?_
            refine g_iload C (j := 0) dL_law_939 6 rfl ?_
            refine g_iconst C dL_law_941 (v := 2) rfl ?_
            refine g_iadd C dL_law_942 ?_
            obtain ⟨hi_182, hw⟩ := hw
            refine g_sld C GS hi_182 dL_law_943 ?_
            obtain ⟨hk_185, hw⟩ := hw
            refine g_cV C dL_law_944 (met_X6_copy C.st hw) (gc_X6_copy _ (Nat.le_of_ble_eq_true rfl) (Nat.le_of_ble_eq_true rfl)) tw1279 tw1280 tw1281 (ci := 6) rfl (by decide) hk_185 rfl (Nat.le_of_ble_eq_true rfl) (c2 := c + 3) (s2 := s + 18) rfl rfl (by omega) (by omega) rfl (kI (fun r_183 M_184 hw => ?_)) tNo
            refine g_istore C dL_law_947 (Nat.le_of_ble_eq_true rfl) (loc' := [(7, .int r_183), (6, .int r_179), (0, .ref b), (1, gR E 1), (2, gR E 40), (3, gR E 60), (4, gR E 61), (5, .int x5_1)]) rfl ?_
            refine g_aload_n C dL_law_949 4 rfl rfl ?_
            refine g_cV C dL_law_950 (met_X6_thrown C.st hw) (gc_X6_thrown _ (Nat.le_of_ble_eq_true rfl) (Nat.le_of_ble_eq_true rfl)) tw1120 tw1121 tw1122 (ci := 6) rfl (by decide) hk_185 rfl (Nat.le_of_ble_eq_true rfl) (c2 := c + 3) (s2 := s + 18) rfl rfl (by omega) (by omega) rfl (kIp (fun r_186 hw => ?_)) tNo
            refine g_iload C (j := 0) dL_law_953 1 rfl ?_
            refine g_icmp_eq C dL_law_955 (tgt := 960) (by decide) (fun c955 => ?_) (fun c955 => ?_)
            · have hw := hw.1 c955
              refine g_iload C (j := 0) dL_law_960 1 rfl ?_
              refine g_if_ne C dL_law_962 (tgt := 977) (by decide) (fun c962 => ?_) (fun c962 => ?_)
              · have hw := hw.1 c962
                refine g_goto C dL_law_977 (tgt := 2442) (by decide) ?_
                obtain ⟨x5_188, ex5_188⟩ : ∃ y : Int32, y = x5_1 + 6 := ⟨_, rfl⟩
                have hw := hw x5_188 ex5_188
                refine g_iinc C (j := 0) dL_law_2442 7 rfl (v := x5_188) (by rw [ex5_188]; rfl) (Nat.le_of_ble_eq_true rfl) (loc' := [(5, .int x5_188), (7, .int r_183), (6, .int r_179), (0, .ref b), (1, gR E 1), (2, gR E 40), (3, gR E 60), (4, gR E 61)]) rfl ?_
                refine g_goto C dL_law_2445 (tgt := 28) (by decide) ?_
                refine g_sub [3, 4, 5, 6, 7, 0] rfl ?_
                exact ih28 _ _ _ _ (by omega) (by omega) hw
              · have hw := hw.2 c962
                refine g_aload_n C dL_law_965 5 rfl rfl ?_
                refine g_iconst C dL_law_966 (v := 0) rfl ?_
                obtain ⟨hk_189, hw⟩ := hw
                refine g_laload C hk_189 (i := 0) (vp_lit rfl) dL_law_967 ?_
                refine g_iload C (j := 0) dL_law_968 0 rfl ?_
                refine g_i2l C dL_law_970 ?_
                refine g_lc_eq C dL_law_971 dL_law_972 (tgt := 977) (by decide) (fun c972 => ?_) (fun c972 => ?_)
                · have hw := hw.1 c972
                  refine g_goto C dL_law_977 (tgt := 2442) (by decide) ?_
                  obtain ⟨x5_190, ex5_190⟩ : ∃ y : Int32, y = x5_1 + 6 := ⟨_, rfl⟩
                  have hw := hw x5_190 ex5_190
                  refine g_iinc C (j := 0) dL_law_2442 7 rfl (v := x5_190) (by rw [ex5_190]; rfl) (Nat.le_of_ble_eq_true rfl) (loc' := [(5, .int x5_190), (7, .int r_183), (6, .int r_179), (0, .ref b), (1, gR E 1), (2, gR E 40), (3, gR E 60), (4, gR E 61)]) rfl ?_
                  refine g_goto C dL_law_2445 (tgt := 28) (by decide) ?_
                  refine g_sub [3, 4, 5, 6, 7, 0] rfl ?_
                  exact ih28 _ _ _ _ (by omega) (by omega) hw
                · have hw := hw.2 c972
                  refine g_iconst C dL_law_975 (v := 0) rfl ?_
                  exact False.elim hw
            · have hw := hw.2 c955
              refine g_iconst C dL_law_958 (v := 0) rfl ?_
              exact False.elim hw
          · have hw := hw.2.2.2.2.2.2.2.2.2.2.2.1 c45
            refine g_tableIn C dL_law_45 (by rw [c45]; decide) (by rw [c45]; decide) (off := 935) (by rw [c45]; rfl) (tgt := 980) (by decide) ?_
            refine g_aload_n C dL_law_980 1 rfl rfl ?_
            refine g_aload_n C dL_law_981 0 rfl rfl ?_
            refine g_iload C (j := 0) dL_law_982 5 rfl ?_
            refine g_iconst C dL_law_984 (v := 1) rfl ?_
            refine g_iadd C dL_law_985 ?_
            obtain ⟨hi_191, hw⟩ := hw
            refine g_sld C GS hi_191 dL_law_986 ?_
            refine g_aload_n C dL_law_987 0 rfl rfl ?_
            refine g_iload C (j := 0) dL_law_988 5 rfl ?_
            refine g_iconst C dL_law_990 (v := 2) rfl ?_
            refine g_iadd C dL_law_991 ?_
            obtain ⟨hi_192, hw⟩ := hw
            refine g_sld C GS hi_192 dL_law_992 ?_
            refine g_aload_n C dL_law_993 0 rfl rfl ?_
            refine g_iload C (j := 0) dL_law_994 5 rfl ?_
            refine g_iconst C dL_law_996 (v := 3) rfl ?_
            refine g_iadd C dL_law_997 ?_
            obtain ⟨hi_193, hw⟩ := hw
            refine g_sld C GS hi_193 dL_law_998 ?_
            refine g_aload_n C dL_law_999 3 rfl rfl ?_
            refine g_cS C dL_law_1000 (met_L_kept C.st hw) (gc_L_kept _ (Nat.le_of_ble_eq_true rfl) (Nat.le_of_ble_eq_true rfl)) (Or.inl tw643) tw644 rfl (Nat.le_of_ble_eq_true rfl) (c2 := c + 4) (s2 := s + 24) rfl rfl (by omega) (by omega) rfl (kI (fun r_194 M_195 hw => ?_)) tNo
            refine g_istore C dL_law_1003 (Nat.le_of_ble_eq_true rfl) (loc' := [(6, .int r_194), (0, .ref b), (1, gR E 1), (2, gR E 40), (3, gR E 60), (4, gR E 61), (5, .int x5_1)]) rfl ?_
            refine g_aload_n C dL_law_1005 3 rfl rfl ?_
            refine g_aload_n C dL_law_1006 1 rfl rfl ?_
            refine g_iload C (j := 0) dL_law_1007 6 rfl ?_
            refine g_iconst C dL_law_1009 (v := 1) rfl ?_
            refine g_iadd C dL_law_1010 ?_
            obtain ⟨hi_196, hw⟩ := hw
            refine g_sld C GS hi_196 dL_law_1011 ?_
            refine g_aload_n C dL_law_1012 1 rfl rfl ?_
            refine g_iload C (j := 0) dL_law_1013 6 rfl ?_
            refine g_iconst C dL_law_1015 (v := 2) rfl ?_
            refine g_iadd C dL_law_1016 ?_
            obtain ⟨hi_197, hw⟩ := hw
            refine g_sld C GS hi_197 dL_law_1017 ?_
            refine g_aload_n C dL_law_1018 1 rfl rfl ?_
            refine g_iload C (j := 0) dL_law_1019 6 rfl ?_
            refine g_iconst C dL_law_1021 (v := 3) rfl ?_
            refine g_iadd C dL_law_1022 ?_
            obtain ⟨hi_198, hw⟩ := hw
            refine g_sld C GS hi_198 dL_law_1023 ?_
            obtain ⟨hk_201, hw⟩ := hw
            refine g_cV C dL_law_1024 (met_X6_kept C.st hw) (gc_X6_kept _ (Nat.le_of_ble_eq_true rfl) (Nat.le_of_ble_eq_true rfl)) tw1283 tw1284 tw1285 (ci := 6) rfl (by decide) hk_201 rfl (Nat.le_of_ble_eq_true rfl) (c2 := c + 4) (s2 := s + 24) rfl rfl (by omega) (by omega) rfl (kI (fun r_199 M_200 hw => ?_)) tNo
            refine g_istore C dL_law_1027 (Nat.le_of_ble_eq_true rfl) (loc' := [(7, .int r_199), (6, .int r_194), (0, .ref b), (1, gR E 1), (2, gR E 40), (3, gR E 60), (4, gR E 61), (5, .int x5_1)]) rfl ?_
            refine g_aload_n C dL_law_1029 4 rfl rfl ?_
            refine g_cV C dL_law_1030 (met_X6_thrown C.st hw) (gc_X6_thrown _ (Nat.le_of_ble_eq_true rfl) (Nat.le_of_ble_eq_true rfl)) tw1120 tw1121 tw1122 (ci := 6) rfl (by decide) hk_201 rfl (Nat.le_of_ble_eq_true rfl) (c2 := c + 4) (s2 := s + 24) rfl rfl (by omega) (by omega) rfl (kIp (fun r_202 hw => ?_)) tNo
            refine g_iload C (j := 0) dL_law_1033 1 rfl ?_
            refine g_icmp_eq C dL_law_1035 (tgt := 1040) (by decide) (fun c1035 => ?_) (fun c1035 => ?_)
            · have hw := hw.1 c1035
              refine g_iload C (j := 0) dL_law_1040 1 rfl ?_
              refine g_if_ne C dL_law_1042 (tgt := 1057) (by decide) (fun c1042 => ?_) (fun c1042 => ?_)
              · have hw := hw.1 c1042
                refine g_goto C dL_law_1057 (tgt := 2442) (by decide) ?_
                obtain ⟨x5_204, ex5_204⟩ : ∃ y : Int32, y = x5_1 + 6 := ⟨_, rfl⟩
                have hw := hw x5_204 ex5_204
                refine g_iinc C (j := 0) dL_law_2442 7 rfl (v := x5_204) (by rw [ex5_204]; rfl) (Nat.le_of_ble_eq_true rfl) (loc' := [(5, .int x5_204), (7, .int r_199), (6, .int r_194), (0, .ref b), (1, gR E 1), (2, gR E 40), (3, gR E 60), (4, gR E 61)]) rfl ?_
                refine g_goto C dL_law_2445 (tgt := 28) (by decide) ?_
                refine g_sub [3, 4, 5, 6, 7, 0] rfl ?_
                exact ih28 _ _ _ _ (by omega) (by omega) hw
              · have hw := hw.2 c1042
                refine g_aload_n C dL_law_1045 5 rfl rfl ?_
                refine g_iconst C dL_law_1046 (v := 0) rfl ?_
                obtain ⟨hk_205, hw⟩ := hw
                refine g_laload C hk_205 (i := 0) (vp_lit rfl) dL_law_1047 ?_
                refine g_iload C (j := 0) dL_law_1048 0 rfl ?_
                refine g_i2l C dL_law_1050 ?_
                refine g_lc_eq C dL_law_1051 dL_law_1052 (tgt := 1057) (by decide) (fun c1052 => ?_) (fun c1052 => ?_)
                · have hw := hw.1 c1052
                  refine g_goto C dL_law_1057 (tgt := 2442) (by decide) ?_
                  obtain ⟨x5_206, ex5_206⟩ : ∃ y : Int32, y = x5_1 + 6 := ⟨_, rfl⟩
                  have hw := hw x5_206 ex5_206
                  refine g_iinc C (j := 0) dL_law_2442 7 rfl (v := x5_206) (by rw [ex5_206]; rfl) (Nat.le_of_ble_eq_true rfl) (loc' := [(5, .int x5_206), (7, .int r_199), (6, .int r_194), (0, .ref b), (1, gR E 1), (2, gR E 40), (3, gR E 60), (4, gR E 61)]) rfl ?_
                  refine g_goto C dL_law_2445 (tgt := 28) (by decide) ?_
                  refine g_sub [3, 4, 5, 6, 7, 0] rfl ?_
                  exact ih28 _ _ _ _ (by omega) (by omega) hw
                · have hw := hw.2 c1052
                  refine g_iconst C dL_law_1055 (v := 0) rfl ?_
                  exact False.elim hw
            · have hw := hw.2 c1035
              refine g_iconst C dL_law_1038 (v := 0) rfl ?_
              exact False.elim hw
          · have hw := hw.2.2.2.2.2.2.2.2.2.2.2.2.1 c45
            refine g_tableIn C dL_law_45 (by rw [c45]; decide) (by rw [c45]; decide) (off := 1015) (by rw [c45]; rfl) (tgt := 1060) (by decide) ?_
            refine g_aload_n C dL_law_1060 1 rfl rfl ?_
            refine g_aload_n C dL_law_1061 0 rfl rfl ?_
            refine g_iload C (j := 0) dL_law_1062 5 rfl ?_
            refine g_iconst C dL_law_1064 (v := 1) rfl ?_
            refine g_iadd C dL_law_1065 ?_
            obtain ⟨hi_207, hw⟩ := hw
            refine g_sld C GS hi_207 dL_law_1066 ?_
            refine g_aload_n C dL_law_1067 0 rfl rfl ?_
            refine g_iload C (j := 0) dL_law_1068 5 rfl ?_
            refine g_iconst C dL_law_1070 (v := 2) rfl ?_
            refine g_iadd C dL_law_1071 ?_
            obtain ⟨hi_208, hw⟩ := hw
            refine g_sld C GS hi_208 dL_law_1072 ?_
            refine g_aload_n C dL_law_1073 0 rfl rfl ?_
            refine g_iload C (j := 0) dL_law_1074 5 rfl ?_
            refine g_iconst C dL_law_1076 (v := 3) rfl ?_
            refine g_iadd C dL_law_1077 ?_
            obtain ⟨hi_209, hw⟩ := hw
            refine g_sld C GS hi_209 dL_law_1078 ?_
            refine g_aload_n C dL_law_1079 3 rfl rfl ?_
            refine g_cS C dL_law_1080 (met_L_sampled C.st hw) (gc_L_sampled _ (Nat.le_of_ble_eq_true rfl) (Nat.le_of_ble_eq_true rfl)) (Or.inl tw659) tw660 rfl (Nat.le_of_ble_eq_true rfl) (c2 := c + 3) (s2 := s + 18) rfl rfl (by omega) (by omega) rfl (kI (fun r_210 M_211 hw => ?_)) tNo
            refine g_istore C dL_law_1083 (Nat.le_of_ble_eq_true rfl) (loc' := [(6, .int r_210), (0, .ref b), (1, gR E 1), (2, gR E 40), (3, gR E 60), (4, gR E 61), (5, .int x5_1)]) rfl ?_
            refine g_aload_n C dL_law_1085 3 rfl rfl ?_
            refine g_aload_n C dL_law_1086 1 rfl rfl ?_
            refine g_iload C (j := 0) dL_law_1087 6 rfl ?_
            refine g_iconst C dL_law_1089 (v := 1) rfl ?_
            refine g_iadd C dL_law_1090 ?_
            obtain ⟨hi_212, hw⟩ := hw
            refine g_sld C GS hi_212 dL_law_1091 ?_
            refine g_aload_n C dL_law_1092 1 rfl rfl ?_
            refine g_iload C (j := 0) dL_law_1093 6 rfl ?_
            refine g_iconst C dL_law_1095 (v := 2) rfl ?_
            refine g_iadd C dL_law_1096 ?_
            obtain ⟨hi_213, hw⟩ := hw
            refine g_sld C GS hi_213 dL_law_1097 ?_
            refine g_aload_n C dL_law_1098 1 rfl rfl ?_
            refine g_iload C (j := 0) dL_law_1099 6 rfl ?_
            refine g_iconst C dL_law_1101 (v := 3) rfl ?_
            refine g_iadd C dL_law_1102 ?_
            obtain ⟨hi_214, hw⟩ := hw
            refine g_sld C GS hi_214 dL_law_1103 ?_
            obtain ⟨hk_217, hw⟩ := hw
            refine g_cV C dL_law_1104 (met_X6_sampled C.st hw) (gc_X6_sampled _ (Nat.le_of_ble_eq_true rfl) (Nat.le_of_ble_eq_true rfl)) tw1296 tw1297 tw1298 (ci := 6) rfl (by decide) hk_217 rfl (Nat.le_of_ble_eq_true rfl) (c2 := c + 3) (s2 := s + 18) rfl rfl (by omega) (by omega) rfl (kI (fun r_215 M_216 hw => ?_)) tNo
            refine g_istore C dL_law_1107 (Nat.le_of_ble_eq_true rfl) (loc' := [(7, .int r_215), (6, .int r_210), (0, .ref b), (1, gR E 1), (2, gR E 40), (3, gR E 60), (4, gR E 61), (5, .int x5_1)]) rfl ?_
            refine g_aload_n C dL_law_1109 4 rfl rfl ?_
            refine g_cV C dL_law_1110 (met_X6_thrown C.st hw) (gc_X6_thrown _ (Nat.le_of_ble_eq_true rfl) (Nat.le_of_ble_eq_true rfl)) tw1120 tw1121 tw1122 (ci := 6) rfl (by decide) hk_217 rfl (Nat.le_of_ble_eq_true rfl) (c2 := c + 3) (s2 := s + 18) rfl rfl (by omega) (by omega) rfl (kIp (fun r_218 hw => ?_)) tNo
            refine g_iload C (j := 0) dL_law_1113 1 rfl ?_
            refine g_icmp_eq C dL_law_1115 (tgt := 1120) (by decide) (fun c1115 => ?_) (fun c1115 => ?_)
            · have hw := hw.1 c1115
              refine g_iload C (j := 0) dL_law_1120 1 rfl ?_
              refine g_if_ne C dL_law_1122 (tgt := 1137) (by decide) (fun c1122 => ?_) (fun c1122 => ?_)
              · have hw := hw.1 c1122
                refine g_goto C dL_law_1137 (tgt := 2442) (by decide) ?_
                obtain ⟨x5_220, ex5_220⟩ : ∃ y : Int32, y = x5_1 + 6 := ⟨_, rfl⟩
                have hw := hw x5_220 ex5_220
                refine g_iinc C (j := 0) dL_law_2442 7 rfl (v := x5_220) (by rw [ex5_220]; rfl) (Nat.le_of_ble_eq_true rfl) (loc' := [(5, .int x5_220), (7, .int r_215), (6, .int r_210), (0, .ref b), (1, gR E 1), (2, gR E 40), (3, gR E 60), (4, gR E 61)]) rfl ?_
                refine g_goto C dL_law_2445 (tgt := 28) (by decide) ?_
                refine g_sub [3, 4, 5, 6, 7, 0] rfl ?_
                exact ih28 _ _ _ _ (by omega) (by omega) hw
              · have hw := hw.2 c1122
                refine g_aload_n C dL_law_1125 5 rfl rfl ?_
                refine g_iconst C dL_law_1126 (v := 0) rfl ?_
                obtain ⟨hk_221, hw⟩ := hw
                refine g_laload C hk_221 (i := 0) (vp_lit rfl) dL_law_1127 ?_
                refine g_iload C (j := 0) dL_law_1128 0 rfl ?_
                refine g_i2l C dL_law_1130 ?_
                refine g_lc_eq C dL_law_1131 dL_law_1132 (tgt := 1137) (by decide) (fun c1132 => ?_) (fun c1132 => ?_)
                · have hw := hw.1 c1132
                  refine g_goto C dL_law_1137 (tgt := 2442) (by decide) ?_
                  obtain ⟨x5_222, ex5_222⟩ : ∃ y : Int32, y = x5_1 + 6 := ⟨_, rfl⟩
                  have hw := hw x5_222 ex5_222
                  refine g_iinc C (j := 0) dL_law_2442 7 rfl (v := x5_222) (by rw [ex5_222]; rfl) (Nat.le_of_ble_eq_true rfl) (loc' := [(5, .int x5_222), (7, .int r_215), (6, .int r_210), (0, .ref b), (1, gR E 1), (2, gR E 40), (3, gR E 60), (4, gR E 61)]) rfl ?_
                  refine g_goto C dL_law_2445 (tgt := 28) (by decide) ?_
                  refine g_sub [3, 4, 5, 6, 7, 0] rfl ?_
                  exact ih28 _ _ _ _ (by omega) (by omega) hw
                · have hw := hw.2 c1132
                  refine g_iconst C dL_law_1135 (v := 0) rfl ?_
                  exact False.elim hw
            · have hw := hw.2 c1115
              refine g_iconst C dL_law_1118 (v := 0) rfl ?_
              exact False.elim hw
          · have hw := hw.2.2.2.2.2.2.2.2.2.2.2.2.2.1 c45
            refine g_tableIn C dL_law_45 (by rw [c45]; decide) (by rw [c45]; decide) (off := 1095) (by rw [c45]; rfl) (tgt := 1140) (by decide) ?_
            refine g_aload_n C dL_law_1140 1 rfl rfl ?_
            refine g_aload_n C dL_law_1141 0 rfl rfl ?_
            refine g_iload C (j := 0) dL_law_1142 5 rfl ?_
            refine g_iconst C dL_law_1144 (v := 1) rfl ?_
            refine g_iadd C dL_law_1145 ?_
            obtain ⟨hi_223, hw⟩ := hw
            refine g_sld C GS hi_223 dL_law_1146 ?_
            refine g_aload_n C dL_law_1147 0 rfl rfl ?_
            refine g_iload C (j := 0) dL_law_1148 5 rfl ?_
            refine g_iconst C dL_law_1150 (v := 2) rfl ?_
            refine g_iadd C dL_law_1151 ?_
            obtain ⟨hi_224, hw⟩ := hw
            refine g_sld C GS hi_224 dL_law_1152 ?_
            refine g_aload_n C dL_law_1153 3 rfl rfl ?_
            refine g_cS C dL_law_1154 (met_L_mix C.st hw) (gc_L_mix _ (Nat.le_of_ble_eq_true rfl) (Nat.le_of_ble_eq_true rfl)) (Or.inl tw676) tw677 rfl (Nat.le_of_ble_eq_true rfl) (c2 := c + 3) (s2 := s + 18) rfl rfl (by omega) (by omega) rfl (kI (fun r_225 M_226 hw => ?_)) tNo
            refine g_istore C dL_law_1157 (Nat.le_of_ble_eq_true rfl) (loc' := [(6, .int r_225), (0, .ref b), (1, gR E 1), (2, gR E 40), (3, gR E 60), (4, gR E 61), (5, .int x5_1)]) rfl ?_
            refine g_aload_n C dL_law_1159 3 rfl rfl ?_
            refine g_aload_n C dL_law_1160 1 rfl rfl ?_
            refine g_iload C (j := 0) dL_law_1161 6 rfl ?_
            refine g_iconst C dL_law_1163 (v := 1) rfl ?_
            refine g_iadd C dL_law_1164 ?_
            obtain ⟨hi_227, hw⟩ := hw
            refine g_sld C GS hi_227 dL_law_1165 ?_
            refine g_aload_n C dL_law_1166 1 rfl rfl ?_
            refine g_iload C (j := 0) dL_law_1167 6 rfl ?_
            refine g_iconst C dL_law_1169 (v := 2) rfl ?_
            refine g_iadd C dL_law_1170 ?_
            obtain ⟨hi_228, hw⟩ := hw
            refine g_sld C GS hi_228 dL_law_1171 ?_
            obtain ⟨hk_231, hw⟩ := hw
            refine g_cV C dL_law_1172 (met_X6_mix C.st hw) (gc_X6_mix _ (Nat.le_of_ble_eq_true rfl) (Nat.le_of_ble_eq_true rfl)) tw1301 tw1302 tw1303 (ci := 6) rfl (by decide) hk_231 rfl (Nat.le_of_ble_eq_true rfl) (c2 := c + 3) (s2 := s + 18) rfl rfl (by omega) (by omega) rfl (kL (fun r_229 M_230 hw => ?_)) tNo
            refine g_lstore C dL_law_1175 (Nat.le_of_ble_eq_true rfl) (loc' := [(7, .long r_229), (6, .int r_225), (0, .ref b), (1, gR E 1), (2, gR E 40), (3, gR E 60), (4, gR E 61), (5, .int x5_1)]) rfl ?_
            refine g_aload_n C dL_law_1177 4 rfl rfl ?_
            refine g_cV C dL_law_1178 (met_X6_thrown C.st hw) (gc_X6_thrown _ (Nat.le_of_ble_eq_true rfl) (Nat.le_of_ble_eq_true rfl)) tw1120 tw1121 tw1122 (ci := 6) rfl (by decide) hk_231 rfl (Nat.le_of_ble_eq_true rfl) (c2 := c + 3) (s2 := s + 18) rfl rfl (by omega) (by omega) rfl (kIp (fun r_232 hw => ?_)) tNo
            refine g_iload C (j := 0) dL_law_1181 1 rfl ?_
            refine g_icmp_eq C dL_law_1183 (tgt := 1188) (by decide) (fun c1183 => ?_) (fun c1183 => ?_)
            · have hw := hw.1 c1183
              refine g_iload C (j := 0) dL_law_1188 1 rfl ?_
              refine g_if_ne C dL_law_1190 (tgt := 1204) (by decide) (fun c1190 => ?_) (fun c1190 => ?_)
              · have hw := hw.1 c1190
                refine g_goto C dL_law_1204 (tgt := 2442) (by decide) ?_
                obtain ⟨x5_234, ex5_234⟩ : ∃ y : Int32, y = x5_1 + 6 := ⟨_, rfl⟩
                have hw := hw x5_234 ex5_234
                refine g_iinc C (j := 0) dL_law_2442 7 rfl (v := x5_234) (by rw [ex5_234]; rfl) (Nat.le_of_ble_eq_true rfl) (loc' := [(5, .int x5_234), (7, .long r_229), (6, .int r_225), (0, .ref b), (1, gR E 1), (2, gR E 40), (3, gR E 60), (4, gR E 61)]) rfl ?_
                refine g_goto C dL_law_2445 (tgt := 28) (by decide) ?_
                refine g_sub [3, 4, 5, 6, 7, 0] rfl ?_
                exact ih28 _ _ _ _ (by omega) (by omega) hw
              · have hw := hw.2 c1190
                refine g_aload_n C dL_law_1193 5 rfl rfl ?_
                refine g_iconst C dL_law_1194 (v := 0) rfl ?_
                obtain ⟨hk_235, hw⟩ := hw
                refine g_laload C hk_235 (i := 0) (vp_lit rfl) dL_law_1195 ?_
                refine g_lload C (j := 0) dL_law_1196 0 rfl ?_
                refine g_lc_eq C dL_law_1198 dL_law_1199 (tgt := 1204) (by decide) (fun c1199 => ?_) (fun c1199 => ?_)
                · have hw := hw.1 c1199
                  refine g_goto C dL_law_1204 (tgt := 2442) (by decide) ?_
                  obtain ⟨x5_236, ex5_236⟩ : ∃ y : Int32, y = x5_1 + 6 := ⟨_, rfl⟩
                  have hw := hw x5_236 ex5_236
                  refine g_iinc C (j := 0) dL_law_2442 7 rfl (v := x5_236) (by rw [ex5_236]; rfl) (Nat.le_of_ble_eq_true rfl) (loc' := [(5, .int x5_236), (7, .long r_229), (6, .int r_225), (0, .ref b), (1, gR E 1), (2, gR E 40), (3, gR E 60), (4, gR E 61)]) rfl ?_
                  refine g_goto C dL_law_2445 (tgt := 28) (by decide) ?_
                  refine g_sub [3, 4, 5, 6, 7, 0] rfl ?_
                  exact ih28 _ _ _ _ (by omega) (by omega) hw
                · have hw := hw.2 c1199
                  refine g_iconst C dL_law_1202 (v := 0) rfl ?_
                  exact False.elim hw
            · have hw := hw.2 c1183
              refine g_iconst C dL_law_1186 (v := 0) rfl ?_
              exact False.elim hw
          · have hw := hw.2.2.2.2.2.2.2.2.2.2.2.2.2.2.1 c45
            refine g_tableIn C dL_law_45 (by rw [c45]; decide) (by rw [c45]; decide) (off := 1162) (by rw [c45]; rfl) (tgt := 1207) (by decide) ?_
            refine g_aload_n C dL_law_1207 1 rfl rfl ?_
            refine g_aload_n C dL_law_1208 0 rfl rfl ?_
            refine g_iload C (j := 0) dL_law_1209 5 rfl ?_
            refine g_iconst C dL_law_1211 (v := 1) rfl ?_
            refine g_iadd C dL_law_1212 ?_
            obtain ⟨hi_237, hw⟩ := hw
            refine g_sld C GS hi_237 dL_law_1213 ?_
            refine g_aload_n C dL_law_1214 3 rfl rfl ?_
            refine g_cS C dL_law_1215 (met_L_commonKey C.st hw) (gc_L_commonKey _ (Nat.le_of_ble_eq_true rfl) (Nat.le_of_ble_eq_true rfl)) (Or.inl tw684) tw685 rfl (Nat.le_of_ble_eq_true rfl) (c2 := c + 3) (s2 := s + 18) rfl rfl (by omega) (by omega) rfl (kI (fun r_238 M_239 hw => ?_)) tNo
            refine g_istore C dL_law_1218 (Nat.le_of_ble_eq_true rfl) (loc' := [(6, .int r_238), (0, .ref b), (1, gR E 1), (2, gR E 40), (3, gR E 60), (4, gR E 61), (5, .int x5_1)]) rfl ?_
            refine g_aload_n C dL_law_1220 3 rfl rfl ?_
            refine g_aload_n C dL_law_1221 1 rfl rfl ?_
            refine g_iload C (j := 0) dL_law_1222 6 rfl ?_
            refine g_iconst C dL_law_1224 (v := 1) rfl ?_
            refine g_iadd C dL_law_1225 ?_
            obtain ⟨hi_240, hw⟩ := hw
            refine g_sld C GS hi_240 dL_law_1226 ?_
            obtain ⟨hk_243, hw⟩ := hw
            refine g_cV C dL_law_1227 (met_X6_commonKey C.st hw) (gc_X6_commonKey _ (Nat.le_of_ble_eq_true rfl) (Nat.le_of_ble_eq_true rfl)) tw1305 tw1306 tw1307 (ci := 6) rfl (by decide) hk_243 rfl (Nat.le_of_ble_eq_true rfl) (c2 := c + 3) (s2 := s + 18) rfl rfl (by omega) (by omega) rfl (kI (fun r_241 M_242 hw => ?_)) tNo
            refine g_istore C dL_law_1230 (Nat.le_of_ble_eq_true rfl) (loc' := [(7, .int r_241), (6, .int r_238), (0, .ref b), (1, gR E 1), (2, gR E 40), (3, gR E 60), (4, gR E 61), (5, .int x5_1)]) rfl ?_
            refine g_aload_n C dL_law_1232 4 rfl rfl ?_
            refine g_cV C dL_law_1233 (met_X6_thrown C.st hw) (gc_X6_thrown _ (Nat.le_of_ble_eq_true rfl) (Nat.le_of_ble_eq_true rfl)) tw1120 tw1121 tw1122 (ci := 6) rfl (by decide) hk_243 rfl (Nat.le_of_ble_eq_true rfl) (c2 := c + 3) (s2 := s + 18) rfl rfl (by omega) (by omega) rfl (kIp (fun r_244 hw => ?_)) tNo
            refine g_iload C (j := 0) dL_law_1236 1 rfl ?_
            refine g_icmp_eq C dL_law_1238 (tgt := 1243) (by decide) (fun c1238 => ?_) (fun c1238 => ?_)
            · have hw := hw.1 c1238
              refine g_iload C (j := 0) dL_law_1243 1 rfl ?_
              refine g_if_ne C dL_law_1245 (tgt := 1260) (by decide) (fun c1245 => ?_) (fun c1245 => ?_)
              · have hw := hw.1 c1245
                refine g_goto C dL_law_1260 (tgt := 2442) (by decide) ?_
                obtain ⟨x5_246, ex5_246⟩ : ∃ y : Int32, y = x5_1 + 6 := ⟨_, rfl⟩
                have hw := hw x5_246 ex5_246
                refine g_iinc C (j := 0) dL_law_2442 7 rfl (v := x5_246) (by rw [ex5_246]; rfl) (Nat.le_of_ble_eq_true rfl) (loc' := [(5, .int x5_246), (7, .int r_241), (6, .int r_238), (0, .ref b), (1, gR E 1), (2, gR E 40), (3, gR E 60), (4, gR E 61)]) rfl ?_
                refine g_goto C dL_law_2445 (tgt := 28) (by decide) ?_
                refine g_sub [3, 4, 5, 6, 7, 0] rfl ?_
                exact ih28 _ _ _ _ (by omega) (by omega) hw
              · have hw := hw.2 c1245
                refine g_aload_n C dL_law_1248 5 rfl rfl ?_
                refine g_iconst C dL_law_1249 (v := 0) rfl ?_
                obtain ⟨hk_247, hw⟩ := hw
                refine g_laload C hk_247 (i := 0) (vp_lit rfl) dL_law_1250 ?_
                refine g_iload C (j := 0) dL_law_1251 0 rfl ?_
                refine g_i2l C dL_law_1253 ?_
                refine g_lc_eq C dL_law_1254 dL_law_1255 (tgt := 1260) (by decide) (fun c1255 => ?_) (fun c1255 => ?_)
                · have hw := hw.1 c1255
                  refine g_goto C dL_law_1260 (tgt := 2442) (by decide) ?_
                  obtain ⟨x5_248, ex5_248⟩ : ∃ y : Int32, y = x5_1 + 6 := ⟨_, rfl⟩
                  have hw := hw x5_248 ex5_248
                  refine g_iinc C (j := 0) dL_law_2442 7 rfl (v := x5_248) (by rw [ex5_248]; rfl) (Nat.le_of_ble_eq_true rfl) (loc' := [(5, .int x5_248), (7, .int r_241), (6, .int r_238), (0, .ref b), (1, gR E 1), (2, gR E 40), (3, gR E 60), (4, gR E 61)]) rfl ?_
                  refine g_goto C dL_law_2445 (tgt := 28) (by decide) ?_
                  refine g_sub [3, 4, 5, 6, 7, 0] rfl ?_
                  exact ih28 _ _ _ _ (by omega) (by omega) hw
                · have hw := hw.2 c1255
                  refine g_iconst C dL_law_1258 (v := 0) rfl ?_
                  exact False.elim hw
            · have hw := hw.2 c1238
              refine g_iconst C dL_law_1241 (v := 0) rfl ?_
              exact False.elim hw
          · have hw := hw.2.2.2.2.2.2.2.2.2.2.2.2.2.2.2.1 c45
            refine g_tableIn C dL_law_45 (by rw [c45]; decide) (by rw [c45]; decide) (off := 1218) (by rw [c45]; rfl) (tgt := 1263) (by decide) ?_
            refine g_aload_n C dL_law_1263 1 rfl rfl ?_
            refine g_aload_n C dL_law_1264 0 rfl rfl ?_
            refine g_iload C (j := 0) dL_law_1265 5 rfl ?_
            refine g_iconst C dL_law_1267 (v := 1) rfl ?_
            refine g_iadd C dL_law_1268 ?_
            obtain ⟨hi_249, hw⟩ := hw
            refine g_sld C GS hi_249 dL_law_1269 ?_
            refine g_aload_n C dL_law_1270 0 rfl rfl ?_
            refine g_iload C (j := 0) dL_law_1271 5 rfl ?_
            refine g_iconst C dL_law_1273 (v := 2) rfl ?_
            refine g_iadd C dL_law_1274 ?_
            obtain ⟨hi_250, hw⟩ := hw
            refine g_sld C GS hi_250 dL_law_1275 ?_
            refine g_aload_n C dL_law_1276 3 rfl rfl ?_
            refine g_cS C dL_law_1277 (met_L_reason C.st hw) (gc_L_reason _ (Nat.le_of_ble_eq_true rfl) (Nat.le_of_ble_eq_true rfl)) (Or.inl tw720) tw721 rfl (Nat.le_of_ble_eq_true rfl) (c2 := c + 3) (s2 := s + 18) rfl rfl (by omega) (by omega) rfl (kI (fun r_251 M_252 hw => ?_)) tNo
            refine g_istore C dL_law_1280 (Nat.le_of_ble_eq_true rfl) (loc' := [(6, .int r_251), (0, .ref b), (1, gR E 1), (2, gR E 40), (3, gR E 60), (4, gR E 61), (5, .int x5_1)]) rfl ?_
            refine g_aload_n C dL_law_1282 3 rfl rfl ?_
            refine g_aload_n C dL_law_1283 1 rfl rfl ?_
            refine g_iload C (j := 0) dL_law_1284 6 rfl ?_
            refine g_iconst C dL_law_1286 (v := 1) rfl ?_
            refine g_iadd C dL_law_1287 ?_
            obtain ⟨hi_253, hw⟩ := hw
            refine g_sld C GS hi_253 dL_law_1288 ?_
            refine g_aload_n C dL_law_1289 1 rfl rfl ?_
            refine g_iload C (j := 0) dL_law_1290 6 rfl ?_
            refine g_iconst C dL_law_1292 (v := 2) rfl ?_
            refine g_iadd C dL_law_1293 ?_
            obtain ⟨hi_254, hw⟩ := hw
            refine g_sld C GS hi_254 dL_law_1294 ?_
            obtain ⟨hk_257, hw⟩ := hw
            refine g_cV C dL_law_1295 (met_X6_reason C.st hw) (gc_X6_reason _ (Nat.le_of_ble_eq_true rfl) (Nat.le_of_ble_eq_true rfl)) tw1309 tw1310 tw1311 (ci := 6) rfl (by decide) hk_257 rfl (Nat.le_of_ble_eq_true rfl) (c2 := c + 3) (s2 := s + 18) rfl rfl (by omega) (by omega) rfl (kI (fun r_255 M_256 hw => ?_)) tNo
            refine g_istore C dL_law_1298 (Nat.le_of_ble_eq_true rfl) (loc' := [(7, .int r_255), (6, .int r_251), (0, .ref b), (1, gR E 1), (2, gR E 40), (3, gR E 60), (4, gR E 61), (5, .int x5_1)]) rfl ?_
            refine g_aload_n C dL_law_1300 4 rfl rfl ?_
            refine g_cV C dL_law_1301 (met_X6_thrown C.st hw) (gc_X6_thrown _ (Nat.le_of_ble_eq_true rfl) (Nat.le_of_ble_eq_true rfl)) tw1120 tw1121 tw1122 (ci := 6) rfl (by decide) hk_257 rfl (Nat.le_of_ble_eq_true rfl) (c2 := c + 3) (s2 := s + 18) rfl rfl (by omega) (by omega) rfl (kIp (fun r_258 hw => ?_)) tNo
            refine g_iload C (j := 0) dL_law_1304 1 rfl ?_
            refine g_icmp_eq C dL_law_1306 (tgt := 1311) (by decide) (fun c1306 => ?_) (fun c1306 => ?_)
            · have hw := hw.1 c1306
              refine g_iload C (j := 0) dL_law_1311 1 rfl ?_
              refine g_if_ne C dL_law_1313 (tgt := 1328) (by decide) (fun c1313 => ?_) (fun c1313 => ?_)
              · have hw := hw.1 c1313
                refine g_goto C dL_law_1328 (tgt := 2442) (by decide) ?_
                obtain ⟨x5_260, ex5_260⟩ : ∃ y : Int32, y = x5_1 + 6 := ⟨_, rfl⟩
                have hw := hw x5_260 ex5_260
                refine g_iinc C (j := 0) dL_law_2442 7 rfl (v := x5_260) (by rw [ex5_260]; rfl) (Nat.le_of_ble_eq_true rfl) (loc' := [(5, .int x5_260), (7, .int r_255), (6, .int r_251), (0, .ref b), (1, gR E 1), (2, gR E 40), (3, gR E 60), (4, gR E 61)]) rfl ?_
                refine g_goto C dL_law_2445 (tgt := 28) (by decide) ?_
                refine g_sub [3, 4, 5, 6, 7, 0] rfl ?_
                exact ih28 _ _ _ _ (by omega) (by omega) hw
              · have hw := hw.2 c1313
                refine g_aload_n C dL_law_1316 5 rfl rfl ?_
                refine g_iconst C dL_law_1317 (v := 0) rfl ?_
                obtain ⟨hk_261, hw⟩ := hw
                refine g_laload C hk_261 (i := 0) (vp_lit rfl) dL_law_1318 ?_
                refine g_iload C (j := 0) dL_law_1319 0 rfl ?_
                refine g_i2l C dL_law_1321 ?_
                refine g_lc_eq C dL_law_1322 dL_law_1323 (tgt := 1328) (by decide) (fun c1323 => ?_) (fun c1323 => ?_)
                · have hw := hw.1 c1323
                  refine g_goto C dL_law_1328 (tgt := 2442) (by decide) ?_
                  obtain ⟨x5_262, ex5_262⟩ : ∃ y : Int32, y = x5_1 + 6 := ⟨_, rfl⟩
                  have hw := hw x5_262 ex5_262
                  refine g_iinc C (j := 0) dL_law_2442 7 rfl (v := x5_262) (by rw [ex5_262]; rfl) (Nat.le_of_ble_eq_true rfl) (loc' := [(5, .int x5_262), (7, .int r_255), (6, .int r_251), (0, .ref b), (1, gR E 1), (2, gR E 40), (3, gR E 60), (4, gR E 61)]) rfl ?_
                  refine g_goto C dL_law_2445 (tgt := 28) (by decide) ?_
                  refine g_sub [3, 4, 5, 6, 7, 0] rfl ?_
                  exact ih28 _ _ _ _ (by omega) (by omega) hw
                · have hw := hw.2 c1323
                  refine g_iconst C dL_law_1326 (v := 0) rfl ?_
                  exact False.elim hw
            · have hw := hw.2 c1306
              refine g_iconst C dL_law_1309 (v := 0) rfl ?_
              exact False.elim hw
          · have hw := hw.2.2.2.2.2.2.2.2.2.2.2.2.2.2.2.2.1 c45
            refine g_tableIn C dL_law_45 (by rw [c45]; decide) (by rw [c45]; decide) (off := 1286) (by rw [c45]; rfl) (tgt := 1331) (by decide) ?_
            refine g_aload_n C dL_law_1331 1 rfl rfl ?_
            refine g_aload_n C dL_law_1332 0 rfl rfl ?_
            refine g_iload C (j := 0) dL_law_1333 5 rfl ?_
            refine g_iconst C dL_law_1335 (v := 1) rfl ?_
            refine g_iadd C dL_law_1336 ?_
            obtain ⟨hi_263, hw⟩ := hw
            refine g_sld C GS hi_263 dL_law_1337 ?_
            refine g_aload_n C dL_law_1338 0 rfl rfl ?_
            refine g_iload C (j := 0) dL_law_1339 5 rfl ?_
            refine g_iconst C dL_law_1341 (v := 2) rfl ?_
            refine g_iadd C dL_law_1342 ?_
            obtain ⟨hi_264, hw⟩ := hw
            refine g_sld C GS hi_264 dL_law_1343 ?_
            refine g_aload_n C dL_law_1344 3 rfl rfl ?_
            refine g_cS C dL_law_1345 (met_L_needed C.st hw) (gc_L_needed _ (Nat.le_of_ble_eq_true rfl) (Nat.le_of_ble_eq_true rfl)) (Or.inl tw732) tw733 rfl (Nat.le_of_ble_eq_true rfl) (c2 := c + 4) (s2 := s + 24) rfl rfl (by omega) (by omega) rfl (kI (fun r_265 M_266 hw => ?_)) tNo
            refine g_istore C dL_law_1348 (Nat.le_of_ble_eq_true rfl) (loc' := [(6, .int r_265), (0, .ref b), (1, gR E 1), (2, gR E 40), (3, gR E 60), (4, gR E 61), (5, .int x5_1)]) rfl ?_
            refine g_aload_n C dL_law_1350 3 rfl rfl ?_
            refine g_aload_n C dL_law_1351 1 rfl rfl ?_
            refine g_iload C (j := 0) dL_law_1352 6 rfl ?_
            refine g_iconst C dL_law_1354 (v := 1) rfl ?_
            refine g_iadd C dL_law_1355 ?_
            obtain ⟨hi_267, hw⟩ := hw
            refine g_sld C GS hi_267 dL_law_1356 ?_
            refine g_aload_n C dL_law_1357 1 rfl rfl ?_
            refine g_iload C (j := 0) dL_law_1358 6 rfl ?_
            refine g_iconst C dL_law_1360 (v := 2) rfl ?_
            refine g_iadd C dL_law_1361 ?_
            obtain ⟨hi_268, hw⟩ := hw
            refine g_sld C GS hi_268 dL_law_1362 ?_
            obtain ⟨hk_271, hw⟩ := hw
            refine g_cV C dL_law_1363 (met_X6_needed C.st hw) (gc_X6_needed _ (Nat.le_of_ble_eq_true rfl) (Nat.le_of_ble_eq_true rfl)) tw1313 tw1314 tw1315 (ci := 6) rfl (by decide) hk_271 rfl (Nat.le_of_ble_eq_true rfl) (c2 := c + 4) (s2 := s + 24) rfl rfl (by omega) (by omega) rfl (kI (fun r_269 M_270 hw => ?_)) tNo
            refine g_istore C dL_law_1366 (Nat.le_of_ble_eq_true rfl) (loc' := [(7, .int r_269), (6, .int r_265), (0, .ref b), (1, gR E 1), (2, gR E 40), (3, gR E 60), (4, gR E 61), (5, .int x5_1)]) rfl ?_
            refine g_aload_n C dL_law_1368 4 rfl rfl ?_
            refine g_cV C dL_law_1369 (met_X6_thrown C.st hw) (gc_X6_thrown _ (Nat.le_of_ble_eq_true rfl) (Nat.le_of_ble_eq_true rfl)) tw1120 tw1121 tw1122 (ci := 6) rfl (by decide) hk_271 rfl (Nat.le_of_ble_eq_true rfl) (c2 := c + 4) (s2 := s + 24) rfl rfl (by omega) (by omega) rfl (kIp (fun r_272 hw => ?_)) tNo
            refine g_iload C (j := 0) dL_law_1372 1 rfl ?_
            refine g_icmp_eq C dL_law_1374 (tgt := 1379) (by decide) (fun c1374 => ?_) (fun c1374 => ?_)
            · have hw := hw.1 c1374
              refine g_iload C (j := 0) dL_law_1379 1 rfl ?_
              refine g_if_ne C dL_law_1381 (tgt := 1396) (by decide) (fun c1381 => ?_) (fun c1381 => ?_)
              · have hw := hw.1 c1381
                refine g_goto C dL_law_1396 (tgt := 2442) (by decide) ?_
                obtain ⟨x5_274, ex5_274⟩ : ∃ y : Int32, y = x5_1 + 6 := ⟨_, rfl⟩
                have hw := hw x5_274 ex5_274
                refine g_iinc C (j := 0) dL_law_2442 7 rfl (v := x5_274) (by rw [ex5_274]; rfl) (Nat.le_of_ble_eq_true rfl) (loc' := [(5, .int x5_274), (7, .int r_269), (6, .int r_265), (0, .ref b), (1, gR E 1), (2, gR E 40), (3, gR E 60), (4, gR E 61)]) rfl ?_
                refine g_goto C dL_law_2445 (tgt := 28) (by decide) ?_
                refine g_sub [3, 4, 5, 6, 7, 0] rfl ?_
                exact ih28 _ _ _ _ (by omega) (by omega) hw
              · have hw := hw.2 c1381
                refine g_aload_n C dL_law_1384 5 rfl rfl ?_
                refine g_iconst C dL_law_1385 (v := 0) rfl ?_
                obtain ⟨hk_275, hw⟩ := hw
                refine g_laload C hk_275 (i := 0) (vp_lit rfl) dL_law_1386 ?_
                refine g_iload C (j := 0) dL_law_1387 0 rfl ?_
                refine g_i2l C dL_law_1389 ?_
                refine g_lc_eq C dL_law_1390 dL_law_1391 (tgt := 1396) (by decide) (fun c1391 => ?_) (fun c1391 => ?_)
                · have hw := hw.1 c1391
                  refine g_goto C dL_law_1396 (tgt := 2442) (by decide) ?_
                  obtain ⟨x5_276, ex5_276⟩ : ∃ y : Int32, y = x5_1 + 6 := ⟨_, rfl⟩
                  have hw := hw x5_276 ex5_276
                  refine g_iinc C (j := 0) dL_law_2442 7 rfl (v := x5_276) (by rw [ex5_276]; rfl) (Nat.le_of_ble_eq_true rfl) (loc' := [(5, .int x5_276), (7, .int r_269), (6, .int r_265), (0, .ref b), (1, gR E 1), (2, gR E 40), (3, gR E 60), (4, gR E 61)]) rfl ?_
                  refine g_goto C dL_law_2445 (tgt := 28) (by decide) ?_
                  refine g_sub [3, 4, 5, 6, 7, 0] rfl ?_
                  exact ih28 _ _ _ _ (by omega) (by omega) hw
                · have hw := hw.2 c1391
                  refine g_iconst C dL_law_1394 (v := 0) rfl ?_
                  exact False.elim hw
            · have hw := hw.2 c1374
              refine g_iconst C dL_law_1377 (v := 0) rfl ?_
              exact False.elim hw
          · have hw := hw.2.2.2.2.2.2.2.2.2.2.2.2.2.2.2.2.2.1 c45
            refine g_tableIn C dL_law_45 (by rw [c45]; decide) (by rw [c45]; decide) (off := 1354) (by rw [c45]; rfl) (tgt := 1399) (by decide) ?_
            refine g_aload_n C dL_law_1399 1 rfl rfl ?_
            refine g_aload_n C dL_law_1400 0 rfl rfl ?_
            refine g_iload C (j := 0) dL_law_1401 5 rfl ?_
            refine g_iconst C dL_law_1403 (v := 1) rfl ?_
            refine g_iadd C dL_law_1404 ?_
            obtain ⟨hi_277, hw⟩ := hw
            refine g_sld C GS hi_277 dL_law_1405 ?_
            refine g_aload_n C dL_law_1406 0 rfl rfl ?_
            refine g_iload C (j := 0) dL_law_1407 5 rfl ?_
            refine g_iconst C dL_law_1409 (v := 2) rfl ?_
            refine g_iadd C dL_law_1410 ?_
            obtain ⟨hi_278, hw⟩ := hw
            refine g_sld C GS hi_278 dL_law_1411 ?_
            refine g_aload_n C dL_law_1412 3 rfl rfl ?_
            refine g_cS C dL_law_1413 (met_L_margin C.st hw) (gc_L_margin _ (Nat.le_of_ble_eq_true rfl) (Nat.le_of_ble_eq_true rfl)) (Or.inl tw740) tw741 rfl (Nat.le_of_ble_eq_true rfl) (c2 := c + 4) (s2 := s + 24) rfl rfl (by omega) (by omega) rfl (kI (fun r_279 M_280 hw => ?_)) tNo
            refine g_istore C dL_law_1416 (Nat.le_of_ble_eq_true rfl) (loc' := [(6, .int r_279), (0, .ref b), (1, gR E 1), (2, gR E 40), (3, gR E 60), (4, gR E 61), (5, .int x5_1)]) rfl ?_
            refine g_aload_n C dL_law_1418 3 rfl rfl ?_
            refine g_aload_n C dL_law_1419 1 rfl rfl ?_
            refine g_iload C (j := 0) dL_law_1420 6 rfl ?_
            refine g_iconst C dL_law_1422 (v := 1) rfl ?_
            refine g_iadd C dL_law_1423 ?_
            obtain ⟨hi_281, hw⟩ := hw
            refine g_sld C GS hi_281 dL_law_1424 ?_
            refine g_aload_n C dL_law_1425 1 rfl rfl ?_
            refine g_iload C (j := 0) dL_law_1426 6 rfl ?_
            refine g_iconst C dL_law_1428 (v := 2) rfl ?_
            refine g_iadd C dL_law_1429 ?_
            obtain ⟨hi_282, hw⟩ := hw
            refine g_sld C GS hi_282 dL_law_1430 ?_
            obtain ⟨hk_285, hw⟩ := hw
            refine g_cV C dL_law_1431 (met_X6_margin C.st hw) (gc_X6_margin _ (Nat.le_of_ble_eq_true rfl) (Nat.le_of_ble_eq_true rfl)) tw1321 tw1322 tw1323 (ci := 6) rfl (by decide) hk_285 rfl (Nat.le_of_ble_eq_true rfl) (c2 := c + 4) (s2 := s + 24) rfl rfl (by omega) (by omega) rfl (kI (fun r_283 M_284 hw => ?_)) tNo
            refine g_istore C dL_law_1434 (Nat.le_of_ble_eq_true rfl) (loc' := [(7, .int r_283), (6, .int r_279), (0, .ref b), (1, gR E 1), (2, gR E 40), (3, gR E 60), (4, gR E 61), (5, .int x5_1)]) rfl ?_
            refine g_aload_n C dL_law_1436 4 rfl rfl ?_
            refine g_cV C dL_law_1437 (met_X6_thrown C.st hw) (gc_X6_thrown _ (Nat.le_of_ble_eq_true rfl) (Nat.le_of_ble_eq_true rfl)) tw1120 tw1121 tw1122 (ci := 6) rfl (by decide) hk_285 rfl (Nat.le_of_ble_eq_true rfl) (c2 := c + 4) (s2 := s + 24) rfl rfl (by omega) (by omega) rfl (kIp (fun r_286 hw => ?_)) tNo
            refine g_iload C (j := 0) dL_law_1440 1 rfl ?_
            refine g_icmp_eq C dL_law_1442 (tgt := 1447) (by decide) (fun c1442 => ?_) (fun c1442 => ?_)
            · have hw := hw.1 c1442
              refine g_iload C (j := 0) dL_law_1447 1 rfl ?_
              refine g_if_ne C dL_law_1449 (tgt := 1464) (by decide) (fun c1449 => ?_) (fun c1449 => ?_)
              · have hw := hw.1 c1449
                refine g_goto C dL_law_1464 (tgt := 2442) (by decide) ?_
                obtain ⟨x5_288, ex5_288⟩ : ∃ y : Int32, y = x5_1 + 6 := ⟨_, rfl⟩
                have hw := hw x5_288 ex5_288
                refine g_iinc C (j := 0) dL_law_2442 7 rfl (v := x5_288) (by rw [ex5_288]; rfl) (Nat.le_of_ble_eq_true rfl) (loc' := [(5, .int x5_288), (7, .int r_283), (6, .int r_279), (0, .ref b), (1, gR E 1), (2, gR E 40), (3, gR E 60), (4, gR E 61)]) rfl ?_
                refine g_goto C dL_law_2445 (tgt := 28) (by decide) ?_
                refine g_sub [3, 4, 5, 6, 7, 0] rfl ?_
                exact ih28 _ _ _ _ (by omega) (by omega) hw
              · have hw := hw.2 c1449
                refine g_aload_n C dL_law_1452 5 rfl rfl ?_
                refine g_iconst C dL_law_1453 (v := 0) rfl ?_
                obtain ⟨hk_289, hw⟩ := hw
                refine g_laload C hk_289 (i := 0) (vp_lit rfl) dL_law_1454 ?_
                refine g_iload C (j := 0) dL_law_1455 0 rfl ?_
                refine g_i2l C dL_law_1457 ?_
                refine g_lc_eq C dL_law_1458 dL_law_1459 (tgt := 1464) (by decide) (fun c1459 => ?_) (fun c1459 => ?_)
                · have hw := hw.1 c1459
                  refine g_goto C dL_law_1464 (tgt := 2442) (by decide) ?_
                  obtain ⟨x5_290, ex5_290⟩ : ∃ y : Int32, y = x5_1 + 6 := ⟨_, rfl⟩
                  have hw := hw x5_290 ex5_290
                  refine g_iinc C (j := 0) dL_law_2442 7 rfl (v := x5_290) (by rw [ex5_290]; rfl) (Nat.le_of_ble_eq_true rfl) (loc' := [(5, .int x5_290), (7, .int r_283), (6, .int r_279), (0, .ref b), (1, gR E 1), (2, gR E 40), (3, gR E 60), (4, gR E 61)]) rfl ?_
                  refine g_goto C dL_law_2445 (tgt := 28) (by decide) ?_
                  refine g_sub [3, 4, 5, 6, 7, 0] rfl ?_
                  exact ih28 _ _ _ _ (by omega) (by omega) hw
                · have hw := hw.2 c1459
                  refine g_iconst C dL_law_1462 (v := 0) rfl ?_
                  exact False.elim hw
            · have hw := hw.2 c1442
              refine g_iconst C dL_law_1445 (v := 0) rfl ?_
              exact False.elim hw
          · have hw := hw.2.2.2.2.2.2.2.2.2.2.2.2.2.2.2.2.2.2.1 c45
            refine g_tableIn C dL_law_45 (by rw [c45]; decide) (by rw [c45]; decide) (off := 1422) (by rw [c45]; rfl) (tgt := 1467) (by decide) ?_
            refine g_aload_n C dL_law_1467 1 rfl rfl ?_
            refine g_aload_n C dL_law_1468 0 rfl rfl ?_
            refine g_iload C (j := 0) dL_law_1469 5 rfl ?_
            refine g_iconst C dL_law_1471 (v := 1) rfl ?_
            refine g_iadd C dL_law_1472 ?_
            obtain ⟨hi_291, hw⟩ := hw
            refine g_sld C GS hi_291 dL_law_1473 ?_
            refine g_aload_n C dL_law_1474 0 rfl rfl ?_
            refine g_iload C (j := 0) dL_law_1475 5 rfl ?_
            refine g_iconst C dL_law_1477 (v := 2) rfl ?_
            refine g_iadd C dL_law_1478 ?_
            obtain ⟨hi_292, hw⟩ := hw
            refine g_sld C GS hi_292 dL_law_1479 ?_
            refine g_aload_n C dL_law_1480 0 rfl rfl ?_
            refine g_iload C (j := 0) dL_law_1481 5 rfl ?_
            refine g_iconst C dL_law_1483 (v := 3) rfl ?_
            refine g_iadd C dL_law_1484 ?_
            obtain ⟨hi_293, hw⟩ := hw
            refine g_sld C GS hi_293 dL_law_1485 ?_
            refine g_aload_n C dL_law_1486 3 rfl rfl ?_
            refine g_cS C dL_law_1487 (met_L_stratum C.st hw) (gc_L_stratum _ (Nat.le_of_ble_eq_true rfl) (Nat.le_of_ble_eq_true rfl)) (Or.inl tw748) tw749 rfl (Nat.le_of_ble_eq_true rfl) (c2 := c + 4) (s2 := s + 24) rfl rfl (by omega) (by omega) rfl (kI (fun r_294 M_295 hw => ?_)) tNo
            refine g_istore C dL_law_1490 (Nat.le_of_ble_eq_true rfl) (loc' := [(6, .int r_294), (0, .ref b), (1, gR E 1), (2, gR E 40), (3, gR E 60), (4, gR E 61), (5, .int x5_1)]) rfl ?_
            refine g_aload_n C dL_law_1492 3 rfl rfl ?_
            refine g_aload_n C dL_law_1493 1 rfl rfl ?_
            refine g_iload C (j := 0) dL_law_1494 6 rfl ?_
            refine g_iconst C dL_law_1496 (v := 1) rfl ?_
            refine g_iadd C dL_law_1497 ?_
            obtain ⟨hi_296, hw⟩ := hw
            refine g_sld C GS hi_296 dL_law_1498 ?_
            refine g_aload_n C dL_law_1499 1 rfl rfl ?_
            refine g_iload C (j := 0) dL_law_1500 6 rfl ?_
            refine g_iconst C dL_law_1502 (v := 2) rfl ?_
            refine g_iadd C dL_law_1503 ?_
            obtain ⟨hi_297, hw⟩ := hw
            refine g_sld C GS hi_297 dL_law_1504 ?_
            refine g_aload_n C dL_law_1505 1 rfl rfl ?_
            refine g_iload C (j := 0) dL_law_1506 6 rfl ?_
            refine g_iconst C dL_law_1508 (v := 3) rfl ?_
            refine g_iadd C dL_law_1509 ?_
            obtain ⟨hi_298, hw⟩ := hw
            refine g_sld C GS hi_298 dL_law_1510 ?_
            obtain ⟨hk_301, hw⟩ := hw
            refine g_cV C dL_law_1511 (met_X6_stratum C.st hw) (gc_X6_stratum _ (Nat.le_of_ble_eq_true rfl) (Nat.le_of_ble_eq_true rfl)) tw1325 tw1326 tw1327 (ci := 6) rfl (by decide) hk_301 rfl (Nat.le_of_ble_eq_true rfl) (c2 := c + 4) (s2 := s + 24) rfl rfl (by omega) (by omega) rfl (kI (fun r_299 M_300 hw => ?_)) tNo
            refine g_istore C dL_law_1514 (Nat.le_of_ble_eq_true rfl) (loc' := [(7, .int r_299), (6, .int r_294), (0, .ref b), (1, gR E 1), (2, gR E 40), (3, gR E 60), (4, gR E 61), (5, .int x5_1)]) rfl ?_
            refine g_aload_n C dL_law_1516 4 rfl rfl ?_
            refine g_cV C dL_law_1517 (met_X6_thrown C.st hw) (gc_X6_thrown _ (Nat.le_of_ble_eq_true rfl) (Nat.le_of_ble_eq_true rfl)) tw1120 tw1121 tw1122 (ci := 6) rfl (by decide) hk_301 rfl (Nat.le_of_ble_eq_true rfl) (c2 := c + 4) (s2 := s + 24) rfl rfl (by omega) (by omega) rfl (kIp (fun r_302 hw => ?_)) tNo
            refine g_iload C (j := 0) dL_law_1520 1 rfl ?_
            refine g_icmp_eq C dL_law_1522 (tgt := 1527) (by decide) (fun c1522 => ?_) (fun c1522 => ?_)
            · have hw := hw.1 c1522
              refine g_iload C (j := 0) dL_law_1527 1 rfl ?_
              refine g_if_ne C dL_law_1529 (tgt := 1544) (by decide) (fun c1529 => ?_) (fun c1529 => ?_)
              · have hw := hw.1 c1529
                refine g_goto C dL_law_1544 (tgt := 2442) (by decide) ?_
                obtain ⟨x5_304, ex5_304⟩ : ∃ y : Int32, y = x5_1 + 6 := ⟨_, rfl⟩
                have hw := hw x5_304 ex5_304
                refine g_iinc C (j := 0) dL_law_2442 7 rfl (v := x5_304) (by rw [ex5_304]; rfl) (Nat.le_of_ble_eq_true rfl) (loc' := [(5, .int x5_304), (7, .int r_299), (6, .int r_294), (0, .ref b), (1, gR E 1), (2, gR E 40), (3, gR E 60), (4, gR E 61)]) rfl ?_
                refine g_goto C dL_law_2445 (tgt := 28) (by decide) ?_
                refine g_sub [3, 4, 5, 6, 7, 0] rfl ?_
                exact ih28 _ _ _ _ (by omega) (by omega) hw
              · have hw := hw.2 c1529
                refine g_aload_n C dL_law_1532 5 rfl rfl ?_
                refine g_iconst C dL_law_1533 (v := 0) rfl ?_
                obtain ⟨hk_305, hw⟩ := hw
                refine g_laload C hk_305 (i := 0) (vp_lit rfl) dL_law_1534 ?_
                refine g_iload C (j := 0) dL_law_1535 0 rfl ?_
                refine g_i2l C dL_law_1537 ?_
                refine g_lc_eq C dL_law_1538 dL_law_1539 (tgt := 1544) (by decide) (fun c1539 => ?_) (fun c1539 => ?_)
                · have hw := hw.1 c1539
                  refine g_goto C dL_law_1544 (tgt := 2442) (by decide) ?_
                  obtain ⟨x5_306, ex5_306⟩ : ∃ y : Int32, y = x5_1 + 6 := ⟨_, rfl⟩
                  have hw := hw x5_306 ex5_306
                  refine g_iinc C (j := 0) dL_law_2442 7 rfl (v := x5_306) (by rw [ex5_306]; rfl) (Nat.le_of_ble_eq_true rfl) (loc' := [(5, .int x5_306), (7, .int r_299), (6, .int r_294), (0, .ref b), (1, gR E 1), (2, gR E 40), (3, gR E 60), (4, gR E 61)]) rfl ?_
                  refine g_goto C dL_law_2445 (tgt := 28) (by decide) ?_
                  refine g_sub [3, 4, 5, 6, 7, 0] rfl ?_
                  exact ih28 _ _ _ _ (by omega) (by omega) hw
                · have hw := hw.2 c1539
                  refine g_iconst C dL_law_1542 (v := 0) rfl ?_
                  exact False.elim hw
            · have hw := hw.2 c1522
              refine g_iconst C dL_law_1525 (v := 0) rfl ?_
              exact False.elim hw
          · have hw := hw.2.2.2.2.2.2.2.2.2.2.2.2.2.2.2.2.2.2.2.1 c45
            refine g_tableIn C dL_law_45 (by rw [c45]; decide) (by rw [c45]; decide) (off := 1502) (by rw [c45]; rfl) (tgt := 1547) (by decide) ?_
            refine g_aload_n C dL_law_1547 1 rfl rfl ?_
            refine g_aload_n C dL_law_1548 0 rfl rfl ?_
            refine g_iload C (j := 0) dL_law_1549 5 rfl ?_
            refine g_iconst C dL_law_1551 (v := 1) rfl ?_
            refine g_iadd C dL_law_1552 ?_
            obtain ⟨hi_307, hw⟩ := hw
            refine g_sld C GS hi_307 dL_law_1553 ?_
            refine g_aload_n C dL_law_1554 0 rfl rfl ?_
            refine g_iload C (j := 0) dL_law_1555 5 rfl ?_
            refine g_iconst C dL_law_1557 (v := 2) rfl ?_
            refine g_iadd C dL_law_1558 ?_
            obtain ⟨hi_308, hw⟩ := hw
            refine g_sld C GS hi_308 dL_law_1559 ?_
            refine g_aload_n C dL_law_1560 0 rfl rfl ?_
            refine g_iload C (j := 0) dL_law_1561 5 rfl ?_
            refine g_iconst C dL_law_1563 (v := 3) rfl ?_
            refine g_iadd C dL_law_1564 ?_
            obtain ⟨hi_309, hw⟩ := hw
            refine g_sld C GS hi_309 dL_law_1565 ?_
            refine g_aload_n C dL_law_1566 0 rfl rfl ?_
            refine g_iload C (j := 0) dL_law_1567 5 rfl ?_
            refine g_iconst C dL_law_1569 (v := 4) rfl ?_
            refine g_iadd C dL_law_1570 ?_
            obtain ⟨hi_310, hw⟩ := hw
            refine g_sld C GS hi_310 dL_law_1571 ?_
            refine g_if_eq C dL_law_1572 (tgt := 1579) (by decide) (fun c1572 => ?_) (fun c1572 => ?_)
            · have hw := hw.1 c1572
              refine g_iconst C dL_law_1579 (v := 0) rfl ?_
              refine g_aload_n C dL_law_1580 3 rfl rfl ?_
              refine g_cS C dL_law_1581 (met_L_estimateKeys C.st hw) (gc_L_estimateKeys _ (Nat.le_of_ble_eq_true rfl) (Nat.le_of_ble_eq_true rfl)) (Or.inl tw755) tw756 rfl (Nat.le_of_ble_eq_true rfl) (c2 := c + 2) (s2 := s + 12) rfl rfl (by omega) (by omega) rfl (kI (fun r_311 M_312 hw => ?_)) tNo
              refine g_istore C dL_law_1584 (Nat.le_of_ble_eq_true rfl) (loc' := [(6, .int r_311), (0, .ref b), (1, gR E 1), (2, gR E 40), (3, gR E 60), (4, gR E 61), (5, .int x5_1)]) rfl ?_
              refine g_aload_n C dL_law_1586 3 rfl rfl ?_
              refine g_aload_n C dL_law_1587 1 rfl rfl ?_
              refine g_iload C (j := 0) dL_law_1588 6 rfl ?_
              refine g_iconst C dL_law_1590 (v := 1) rfl ?_
              refine g_iadd C dL_law_1591 ?_
              obtain ⟨hi_313, hw⟩ := hw
              refine g_sld C GS hi_313 dL_law_1592 ?_
              refine g_aload_n C dL_law_1593 1 rfl rfl ?_
              refine g_iload C (j := 0) dL_law_1594 6 rfl ?_
              refine g_iconst C dL_law_1596 (v := 2) rfl ?_
              refine g_iadd C dL_law_1597 ?_
              obtain ⟨hi_314, hw⟩ := hw
              refine g_sld C GS hi_314 dL_law_1598 ?_
              refine g_aload_n C dL_law_1599 1 rfl rfl ?_
              refine g_iload C (j := 0) dL_law_1600 6 rfl ?_
              refine g_iconst C dL_law_1602 (v := 3) rfl ?_
              refine g_iadd C dL_law_1603 ?_
              obtain ⟨hi_315, hw⟩ := hw
              refine g_sld C GS hi_315 dL_law_1604 ?_
              refine g_aload_n C dL_law_1605 1 rfl rfl ?_
              refine g_iload C (j := 0) dL_law_1606 6 rfl ?_
              refine g_iconst C dL_law_1608 (v := 4) rfl ?_
              refine g_iadd C dL_law_1609 ?_
              obtain ⟨hi_316, hw⟩ := hw
              refine g_sld C GS hi_316 dL_law_1610 ?_
              refine g_if_eq C dL_law_1611 (tgt := 1618) (by decide) (fun c1611 => ?_) (fun c1611 => ?_)
              · have hw := hw.1 c1611
                refine g_iconst C dL_law_1618 (v := 0) rfl ?_
                obtain ⟨hk_319, hw⟩ := hw
                refine g_cV C dL_law_1619 (met_X6_estimateKeys C.st hw) (gc_X6_estimateKeys _ (Nat.le_of_ble_eq_true rfl) (Nat.le_of_ble_eq_true rfl)) tw1329 tw1330 tw1331 (ci := 6) rfl (by decide) hk_319 rfl (Nat.le_of_ble_eq_true rfl) (c2 := c + 2) (s2 := s + 12) rfl rfl (by omega) (by omega) rfl (kL (fun r_317 M_318 hw => ?_)) tNo
                refine g_lstore C dL_law_1622 (Nat.le_of_ble_eq_true rfl) (loc' := [(7, .long r_317), (6, .int r_311), (0, .ref b), (1, gR E 1), (2, gR E 40), (3, gR E 60), (4, gR E 61), (5, .int x5_1)]) rfl ?_
                refine g_aload_n C dL_law_1624 4 rfl rfl ?_
                refine g_cV C dL_law_1625 (met_X6_thrown C.st hw) (gc_X6_thrown _ (Nat.le_of_ble_eq_true rfl) (Nat.le_of_ble_eq_true rfl)) tw1120 tw1121 tw1122 (ci := 6) rfl (by decide) hk_319 rfl (Nat.le_of_ble_eq_true rfl) (c2 := c + 2) (s2 := s + 12) rfl rfl (by omega) (by omega) rfl (kIp (fun r_320 hw => ?_)) tNo
                refine g_iload C (j := 0) dL_law_1628 1 rfl ?_
                refine g_icmp_eq C dL_law_1630 (tgt := 1635) (by decide) (fun c1630 => ?_) (fun c1630 => ?_)
                · have hw := hw.1 c1630
                  refine g_iload C (j := 0) dL_law_1635 1 rfl ?_
                  refine g_if_ne C dL_law_1637 (tgt := 1651) (by decide) (fun c1637 => ?_) (fun c1637 => ?_)
                  · have hw := hw.1 c1637
                    refine g_goto C dL_law_1651 (tgt := 2442) (by decide) ?_
                    obtain ⟨x5_322, ex5_322⟩ : ∃ y : Int32, y = x5_1 + 6 := ⟨_, rfl⟩
                    have hw := hw x5_322 ex5_322
                    refine g_iinc C (j := 0) dL_law_2442 7 rfl (v := x5_322) (by rw [ex5_322]; rfl) (Nat.le_of_ble_eq_true rfl) (loc' := [(5, .int x5_322), (7, .long r_317), (6, .int r_311), (0, .ref b), (1, gR E 1), (2, gR E 40), (3, gR E 60), (4, gR E 61)]) rfl ?_
                    refine g_goto C dL_law_2445 (tgt := 28) (by decide) ?_
                    refine g_sub [3, 4, 5, 6, 7, 0] rfl ?_
                    exact ih28 _ _ _ _ (by omega) (by omega) hw
                  · have hw := hw.2 c1637
                    refine g_aload_n C dL_law_1640 5 rfl rfl ?_
                    refine g_iconst C dL_law_1641 (v := 0) rfl ?_
                    obtain ⟨hk_323, hw⟩ := hw
                    refine g_laload C hk_323 (i := 0) (vp_lit rfl) dL_law_1642 ?_
                    refine g_lload C (j := 0) dL_law_1643 0 rfl ?_
                    refine g_lc_eq C dL_law_1645 dL_law_1646 (tgt := 1651) (by decide) (fun c1646 => ?_) (fun c1646 => ?_)
                    · have hw := hw.1 c1646
                      refine g_goto C dL_law_1651 (tgt := 2442) (by decide) ?_
                      obtain ⟨x5_324, ex5_324⟩ : ∃ y : Int32, y = x5_1 + 6 := ⟨_, rfl⟩
                      have hw := hw x5_324 ex5_324
                      refine g_iinc C (j := 0) dL_law_2442 7 rfl (v := x5_324) (by rw [ex5_324]; rfl) (Nat.le_of_ble_eq_true rfl) (loc' := [(5, .int x5_324), (7, .long r_317), (6, .int r_311), (0, .ref b), (1, gR E 1), (2, gR E 40), (3, gR E 60), (4, gR E 61)]) rfl ?_
                      refine g_goto C dL_law_2445 (tgt := 28) (by decide) ?_
                      refine g_sub [3, 4, 5, 6, 7, 0] rfl ?_
                      exact ih28 _ _ _ _ (by omega) (by omega) hw
                    · have hw := hw.2 c1646
                      refine g_iconst C dL_law_1649 (v := 0) rfl ?_
                      exact False.elim hw
                · have hw := hw.2 c1630
                  refine g_iconst C dL_law_1633 (v := 0) rfl ?_
                  exact False.elim hw
              · have hw := hw.2 c1611
                refine g_iconst C dL_law_1614 (v := 1) rfl ?_
                refine g_goto C dL_law_1615 (tgt := 1619) (by decide) ?_
                obtain ⟨hk_327, hw⟩ := hw
                refine g_cV C dL_law_1619 (met_X6_estimateKeys C.st hw) (gc_X6_estimateKeys _ (Nat.le_of_ble_eq_true rfl) (Nat.le_of_ble_eq_true rfl)) tw1329 tw1330 tw1331 (ci := 6) rfl (by decide) hk_327 rfl (Nat.le_of_ble_eq_true rfl) (c2 := c + 2) (s2 := s + 12) rfl rfl (by omega) (by omega) rfl (kL (fun r_325 M_326 hw => ?_)) tNo
                refine g_lstore C dL_law_1622 (Nat.le_of_ble_eq_true rfl) (loc' := [(7, .long r_325), (6, .int r_311), (0, .ref b), (1, gR E 1), (2, gR E 40), (3, gR E 60), (4, gR E 61), (5, .int x5_1)]) rfl ?_
                refine g_aload_n C dL_law_1624 4 rfl rfl ?_
                refine g_cV C dL_law_1625 (met_X6_thrown C.st hw) (gc_X6_thrown _ (Nat.le_of_ble_eq_true rfl) (Nat.le_of_ble_eq_true rfl)) tw1120 tw1121 tw1122 (ci := 6) rfl (by decide) hk_327 rfl (Nat.le_of_ble_eq_true rfl) (c2 := c + 2) (s2 := s + 12) rfl rfl (by omega) (by omega) rfl (kIp (fun r_328 hw => ?_)) tNo
                refine g_iload C (j := 0) dL_law_1628 1 rfl ?_
                refine g_icmp_eq C dL_law_1630 (tgt := 1635) (by decide) (fun c1630 => ?_) (fun c1630 => ?_)
                · have hw := hw.1 c1630
                  refine g_iload C (j := 0) dL_law_1635 1 rfl ?_
                  refine g_if_ne C dL_law_1637 (tgt := 1651) (by decide) (fun c1637 => ?_) (fun c1637 => ?_)
                  · have hw := hw.1 c1637
                    refine g_goto C dL_law_1651 (tgt := 2442) (by decide) ?_
                    obtain ⟨x5_330, ex5_330⟩ : ∃ y : Int32, y = x5_1 + 6 := ⟨_, rfl⟩
                    have hw := hw x5_330 ex5_330
                    refine g_iinc C (j := 0) dL_law_2442 7 rfl (v := x5_330) (by rw [ex5_330]; rfl) (Nat.le_of_ble_eq_true rfl) (loc' := [(5, .int x5_330), (7, .long r_325), (6, .int r_311), (0, .ref b), (1, gR E 1), (2, gR E 40), (3, gR E 60), (4, gR E 61)]) rfl ?_
                    refine g_goto C dL_law_2445 (tgt := 28) (by decide) ?_
                    refine g_sub [3, 4, 5, 6, 7, 0] rfl ?_
                    exact ih28 _ _ _ _ (by omega) (by omega) hw
                  · have hw := hw.2 c1637
                    refine g_aload_n C dL_law_1640 5 rfl rfl ?_
                    refine g_iconst C dL_law_1641 (v := 0) rfl ?_
                    obtain ⟨hk_331, hw⟩ := hw
                    refine g_laload C hk_331 (i := 0) (vp_lit rfl) dL_law_1642 ?_
                    refine g_lload C (j := 0) dL_law_1643 0 rfl ?_
                    refine g_lc_eq C dL_law_1645 dL_law_1646 (tgt := 1651) (by decide) (fun c1646 => ?_) (fun c1646 => ?_)
                    · have hw := hw.1 c1646
                      refine g_goto C dL_law_1651 (tgt := 2442) (by decide) ?_
                      obtain ⟨x5_332, ex5_332⟩ : ∃ y : Int32, y = x5_1 + 6 := ⟨_, rfl⟩
                      have hw := hw x5_332 ex5_332
                      refine g_iinc C (j := 0) dL_law_2442 7 rfl (v := x5_332) (by rw [ex5_332]; rfl) (Nat.le_of_ble_eq_true rfl) (loc' := [(5, .int x5_332), (7, .long r_325), (6, .int r_311), (0, .ref b), (1, gR E 1), (2, gR E 40), (3, gR E 60), (4, gR E 61)]) rfl ?_
                      refine g_goto C dL_law_2445 (tgt := 28) (by decide) ?_
                      refine g_sub [3, 4, 5, 6, 7, 0] rfl ?_
                      exact ih28 _ _ _ _ (by omega) (by omega) hw
                    · have hw := hw.2 c1646
                      refine g_iconst C dL_law_1649 (v := 0) rfl ?_
                      exact False.elim hw
                · have hw := hw.2 c1630
                  refine g_iconst C dL_law_1633 (v := 0) rfl ?_
                  exact False.elim hw
            · have hw := hw.2 c1572
              refine g_iconst C dL_law_1575 (v := 1) rfl ?_
              refine g_goto C dL_law_1576 (tgt := 1580) (by decide) ?_
              refine g_aload_n C dL_law_1580 3 rfl rfl ?_
              refine g_cS C dL_law_1581 (met_L_estimateKeys C.st hw) (gc_L_estimateKeys _ (Nat.le_of_ble_eq_true rfl) (Nat.le_of_ble_eq_true rfl)) (Or.inl tw755) tw756 rfl (Nat.le_of_ble_eq_true rfl) (c2 := c + 2) (s2 := s + 12) rfl rfl (by omega) (by omega) rfl (kI (fun r_333 M_334 hw => ?_)) tNo
              refine g_istore C dL_law_1584 (Nat.le_of_ble_eq_true rfl) (loc' := [(6, .int r_333), (0, .ref b), (1, gR E 1), (2, gR E 40), (3, gR E 60), (4, gR E 61), (5, .int x5_1)]) rfl ?_
              refine g_aload_n C dL_law_1586 3 rfl rfl ?_
              refine g_aload_n C dL_law_1587 1 rfl rfl ?_
              refine g_iload C (j := 0) dL_law_1588 6 rfl ?_
              refine g_iconst C dL_law_1590 (v := 1) rfl ?_
              refine g_iadd C dL_law_1591 ?_
              obtain ⟨hi_335, hw⟩ := hw
              refine g_sld C GS hi_335 dL_law_1592 ?_
              refine g_aload_n C dL_law_1593 1 rfl rfl ?_
              refine g_iload C (j := 0) dL_law_1594 6 rfl ?_
              refine g_iconst C dL_law_1596 (v := 2) rfl ?_
              refine g_iadd C dL_law_1597 ?_
              obtain ⟨hi_336, hw⟩ := hw
              refine g_sld C GS hi_336 dL_law_1598 ?_
              refine g_aload_n C dL_law_1599 1 rfl rfl ?_
              refine g_iload C (j := 0) dL_law_1600 6 rfl ?_
              refine g_iconst C dL_law_1602 (v := 3) rfl ?_
              refine g_iadd C dL_law_1603 ?_
              obtain ⟨hi_337, hw⟩ := hw
              refine g_sld C GS hi_337 dL_law_1604 ?_
              refine g_aload_n C dL_law_1605 1 rfl rfl ?_
              refine g_iload C (j := 0) dL_law_1606 6 rfl ?_
              refine g_iconst C dL_law_1608 (v := 4) rfl ?_
              refine g_iadd C dL_law_1609 ?_
              obtain ⟨hi_338, hw⟩ := hw
              refine g_sld C GS hi_338 dL_law_1610 ?_
              refine g_if_eq C dL_law_1611 (tgt := 1618) (by decide) (fun c1611 => ?_) (fun c1611 => ?_)
              · have hw := hw.1 c1611
                refine g_iconst C dL_law_1618 (v := 0) rfl ?_
                obtain ⟨hk_341, hw⟩ := hw
                refine g_cV C dL_law_1619 (met_X6_estimateKeys C.st hw) (gc_X6_estimateKeys _ (Nat.le_of_ble_eq_true rfl) (Nat.le_of_ble_eq_true rfl)) tw1329 tw1330 tw1331 (ci := 6) rfl (by decide) hk_341 rfl (Nat.le_of_ble_eq_true rfl) (c2 := c + 2) (s2 := s + 12) rfl rfl (by omega) (by omega) rfl (kL (fun r_339 M_340 hw => ?_)) tNo
                refine g_lstore C dL_law_1622 (Nat.le_of_ble_eq_true rfl) (loc' := [(7, .long r_339), (6, .int r_333), (0, .ref b), (1, gR E 1), (2, gR E 40), (3, gR E 60), (4, gR E 61), (5, .int x5_1)]) rfl ?_
                refine g_aload_n C dL_law_1624 4 rfl rfl ?_
                refine g_cV C dL_law_1625 (met_X6_thrown C.st hw) (gc_X6_thrown _ (Nat.le_of_ble_eq_true rfl) (Nat.le_of_ble_eq_true rfl)) tw1120 tw1121 tw1122 (ci := 6) rfl (by decide) hk_341 rfl (Nat.le_of_ble_eq_true rfl) (c2 := c + 2) (s2 := s + 12) rfl rfl (by omega) (by omega) rfl (kIp (fun r_342 hw => ?_)) tNo
                refine g_iload C (j := 0) dL_law_1628 1 rfl ?_
                refine g_icmp_eq C dL_law_1630 (tgt := 1635) (by decide) (fun c1630 => ?_) (fun c1630 => ?_)
                · have hw := hw.1 c1630
                  refine g_iload C (j := 0) dL_law_1635 1 rfl ?_
                  refine g_if_ne C dL_law_1637 (tgt := 1651) (by decide) (fun c1637 => ?_) (fun c1637 => ?_)
                  · have hw := hw.1 c1637
                    refine g_goto C dL_law_1651 (tgt := 2442) (by decide) ?_
                    obtain ⟨x5_344, ex5_344⟩ : ∃ y : Int32, y = x5_1 + 6 := ⟨_, rfl⟩
                    have hw := hw x5_344 ex5_344
                    refine g_iinc C (j := 0) dL_law_2442 7 rfl (v := x5_344) (by rw [ex5_344]; rfl) (Nat.le_of_ble_eq_true rfl) (loc' := [(5, .int x5_344), (7, .long r_339), (6, .int r_333), (0, .ref b), (1, gR E 1), (2, gR E 40), (3, gR E 60), (4, gR E 61)]) rfl ?_
                    refine g_goto C dL_law_2445 (tgt := 28) (by decide) ?_
                    refine g_sub [3, 4, 5, 6, 7, 0] rfl ?_
                    exact ih28 _ _ _ _ (by omega) (by omega) hw
                  · have hw := hw.2 c1637
                    refine g_aload_n C dL_law_1640 5 rfl rfl ?_
                    refine g_iconst C dL_law_1641 (v := 0) rfl ?_
                    obtain ⟨hk_345, hw⟩ := hw
                    refine g_laload C hk_345 (i := 0) (vp_lit rfl) dL_law_1642 ?_
                    refine g_lload C (j := 0) dL_law_1643 0 rfl ?_
                    refine g_lc_eq C dL_law_1645 dL_law_1646 (tgt := 1651) (by decide) (fun c1646 => ?_) (fun c1646 => ?_)
                    · have hw := hw.1 c1646
                      refine g_goto C dL_law_1651 (tgt := 2442) (by decide) ?_
                      obtain ⟨x5_346, ex5_346⟩ : ∃ y : Int32, y = x5_1 + 6 := ⟨_, rfl⟩
                      have hw := hw x5_346 ex5_346
                      refine g_iinc C (j := 0) dL_law_2442 7 rfl (v := x5_346) (by rw [ex5_346]; rfl) (Nat.le_of_ble_eq_true rfl) (loc' := [(5, .int x5_346), (7, .long r_339), (6, .int r_333), (0, .ref b), (1, gR E 1), (2, gR E 40), (3, gR E 60), (4, gR E 61)]) rfl ?_
                      refine g_goto C dL_law_2445 (tgt := 28) (by decide) ?_
                      refine g_sub [3, 4, 5, 6, 7, 0] rfl ?_
                      exact ih28 _ _ _ _ (by omega) (by omega) hw
                    · have hw := hw.2 c1646
                      refine g_iconst C dL_law_1649 (v := 0) rfl ?_
                      exact False.elim hw
                · have hw := hw.2 c1630
                  refine g_iconst C dL_law_1633 (v := 0) rfl ?_
                  exact False.elim hw
              · have hw := hw.2 c1611
                refine g_iconst C dL_law_1614 (v := 1) rfl ?_
                refine g_goto C dL_law_1615 (tgt := 1619) (by decide) ?_
                obtain ⟨hk_349, hw⟩ := hw
                refine g_cV C dL_law_1619 (met_X6_estimateKeys C.st hw) (gc_X6_estimateKeys _ (Nat.le_of_ble_eq_true rfl) (Nat.le_of_ble_eq_true rfl)) tw1329 tw1330 tw1331 (ci := 6) rfl (by decide) hk_349 rfl (Nat.le_of_ble_eq_true rfl) (c2 := c + 2) (s2 := s + 12) rfl rfl (by omega) (by omega) rfl (kL (fun r_347 M_348 hw => ?_)) tNo
                refine g_lstore C dL_law_1622 (Nat.le_of_ble_eq_true rfl) (loc' := [(7, .long r_347), (6, .int r_333), (0, .ref b), (1, gR E 1), (2, gR E 40), (3, gR E 60), (4, gR E 61), (5, .int x5_1)]) rfl ?_
                refine g_aload_n C dL_law_1624 4 rfl rfl ?_
                refine g_cV C dL_law_1625 (met_X6_thrown C.st hw) (gc_X6_thrown _ (Nat.le_of_ble_eq_true rfl) (Nat.le_of_ble_eq_true rfl)) tw1120 tw1121 tw1122 (ci := 6) rfl (by decide) hk_349 rfl (Nat.le_of_ble_eq_true rfl) (c2 := c + 2) (s2 := s + 12) rfl rfl (by omega) (by omega) rfl (kIp (fun r_350 hw => ?_)) tNo
                refine g_iload C (j := 0) dL_law_1628 1 rfl ?_
                refine g_icmp_eq C dL_law_1630 (tgt := 1635) (by decide) (fun c1630 => ?_) (fun c1630 => ?_)
                · have hw := hw.1 c1630
                  refine g_iload C (j := 0) dL_law_1635 1 rfl ?_
                  refine g_if_ne C dL_law_1637 (tgt := 1651) (by decide) (fun c1637 => ?_) (fun c1637 => ?_)
                  · have hw := hw.1 c1637
                    refine g_goto C dL_law_1651 (tgt := 2442) (by decide) ?_
                    obtain ⟨x5_352, ex5_352⟩ : ∃ y : Int32, y = x5_1 + 6 := ⟨_, rfl⟩
                    have hw := hw x5_352 ex5_352
                    refine g_iinc C (j := 0) dL_law_2442 7 rfl (v := x5_352) (by rw [ex5_352]; rfl) (Nat.le_of_ble_eq_true rfl) (loc' := [(5, .int x5_352), (7, .long r_347), (6, .int r_333), (0, .ref b), (1, gR E 1), (2, gR E 40), (3, gR E 60), (4, gR E 61)]) rfl ?_
                    refine g_goto C dL_law_2445 (tgt := 28) (by decide) ?_
                    refine g_sub [3, 4, 5, 6, 7, 0] rfl ?_
                    exact ih28 _ _ _ _ (by omega) (by omega) hw
                  · have hw := hw.2 c1637
                    refine g_aload_n C dL_law_1640 5 rfl rfl ?_
                    refine g_iconst C dL_law_1641 (v := 0) rfl ?_
                    obtain ⟨hk_353, hw⟩ := hw
                    refine g_laload C hk_353 (i := 0) (vp_lit rfl) dL_law_1642 ?_
                    refine g_lload C (j := 0) dL_law_1643 0 rfl ?_
                    refine g_lc_eq C dL_law_1645 dL_law_1646 (tgt := 1651) (by decide) (fun c1646 => ?_) (fun c1646 => ?_)
                    · have hw := hw.1 c1646
                      refine g_goto C dL_law_1651 (tgt := 2442) (by decide) ?_
                      obtain ⟨x5_354, ex5_354⟩ : ∃ y : Int32, y = x5_1 + 6 := ⟨_, rfl⟩
                      have hw := hw x5_354 ex5_354
                      refine g_iinc C (j := 0) dL_law_2442 7 rfl (v := x5_354) (by rw [ex5_354]; rfl) (Nat.le_of_ble_eq_true rfl) (loc' := [(5, .int x5_354), (7, .long r_347), (6, .int r_333), (0, .ref b), (1, gR E 1), (2, gR E 40), (3, gR E 60), (4, gR E 61)]) rfl ?_
                      refine g_goto C dL_law_2445 (tgt := 28) (by decide) ?_
                      refine g_sub [3, 4, 5, 6, 7, 0] rfl ?_
                      exact ih28 _ _ _ _ (by omega) (by omega) hw
                    · have hw := hw.2 c1646
                      refine g_iconst C dL_law_1649 (v := 0) rfl ?_
                      exact False.elim hw
                · have hw := hw.2 c1630
                  refine g_iconst C dL_law_1633 (v := 0) rfl ?_
                  exact False.elim hw
          · have hw := hw.2.2.2.2.2.2.2.2.2.2.2.2.2.2.2.2.2.2.2.2.1 c45
            refine g_tableIn C dL_law_45 (by rw [c45]; decide) (by rw [c45]; decide) (off := 1609) (by rw [c45]; rfl) (tgt := 1654) (by decide) ?_
            refine g_aload_n C dL_law_1654 1 rfl rfl ?_
            refine g_aload_n C dL_law_1655 0 rfl rfl ?_
            refine g_iload C (j := 0) dL_law_1656 5 rfl ?_
            refine g_iconst C dL_law_1658 (v := 1) rfl ?_
            refine g_iadd C dL_law_1659 ?_
            obtain ⟨hi_355, hw⟩ := hw
            refine g_sld C GS hi_355 dL_law_1660 ?_
            refine g_aload_n C dL_law_1661 0 rfl rfl ?_
            refine g_iload C (j := 0) dL_law_1662 5 rfl ?_
            refine g_iconst C dL_law_1664 (v := 2) rfl ?_
            refine g_iadd C dL_law_1665 ?_
            obtain ⟨hi_356, hw⟩ := hw
            refine g_sld C GS hi_356 dL_law_1666 ?_
            refine g_aload_n C dL_law_1667 3 rfl rfl ?_
            refine g_cS C dL_law_1668 (met_L_estimate C.st hw) (gc_L_estimate _ (Nat.le_of_ble_eq_true rfl) (Nat.le_of_ble_eq_true rfl)) (Or.inl tw796) tw797 rfl (Nat.le_of_ble_eq_true rfl) (c2 := c + 3) (s2 := s + 18) rfl rfl (by omega) (by omega) rfl (kI (fun r_357 M_358 hw => ?_)) tNo
            refine g_istore C dL_law_1671 (Nat.le_of_ble_eq_true rfl) (loc' := [(6, .int r_357), (0, .ref b), (1, gR E 1), (2, gR E 40), (3, gR E 60), (4, gR E 61), (5, .int x5_1)]) rfl ?_
            refine g_aload_n C dL_law_1673 3 rfl rfl ?_
            refine g_aload_n C dL_law_1674 1 rfl rfl ?_
            refine g_iload C (j := 0) dL_law_1675 6 rfl ?_
            refine g_iconst C dL_law_1677 (v := 1) rfl ?_
            refine g_iadd C dL_law_1678 ?_
            obtain ⟨hi_359, hw⟩ := hw
            refine g_sld C GS hi_359 dL_law_1679 ?_
            refine g_aload_n C dL_law_1680 1 rfl rfl ?_
            refine g_iload C (j := 0) dL_law_1681 6 rfl ?_
            refine g_iconst C dL_law_1683 (v := 2) rfl ?_
            refine g_iadd C dL_law_1684 ?_
            obtain ⟨hi_360, hw⟩ := hw
            refine g_sld C GS hi_360 dL_law_1685 ?_
            obtain ⟨hk_363, hw⟩ := hw
            refine g_cV C dL_law_1686 (met_X6_estimate C.st hw) (gc_X6_estimate _ (Nat.le_of_ble_eq_true rfl) (Nat.le_of_ble_eq_true rfl)) tw1367 tw1368 tw1369 (ci := 6) rfl (by decide) hk_363 rfl (Nat.le_of_ble_eq_true rfl) (c2 := c + 3) (s2 := s + 18) rfl rfl (by omega) (by omega) rfl (kL (fun r_361 M_362 hw => ?_)) tNo
            refine g_lstore C dL_law_1689 (Nat.le_of_ble_eq_true rfl) (loc' := [(7, .long r_361), (6, .int r_357), (0, .ref b), (1, gR E 1), (2, gR E 40), (3, gR E 60), (4, gR E 61), (5, .int x5_1)]) rfl ?_
            refine g_aload_n C dL_law_1691 4 rfl rfl ?_
            refine g_cV C dL_law_1692 (met_X6_thrown C.st hw) (gc_X6_thrown _ (Nat.le_of_ble_eq_true rfl) (Nat.le_of_ble_eq_true rfl)) tw1120 tw1121 tw1122 (ci := 6) rfl (by decide) hk_363 rfl (Nat.le_of_ble_eq_true rfl) (c2 := c + 3) (s2 := s + 18) rfl rfl (by omega) (by omega) rfl (kIp (fun r_364 hw => ?_)) tNo
            refine g_iload C (j := 0) dL_law_1695 1 rfl ?_
            refine g_icmp_eq C dL_law_1697 (tgt := 1702) (by decide) (fun c1697 => ?_) (fun c1697 => ?_)
            · have hw := hw.1 c1697
              refine g_iload C (j := 0) dL_law_1702 1 rfl ?_
              refine g_if_ne C dL_law_1704 (tgt := 1718) (by decide) (fun c1704 => ?_) (fun c1704 => ?_)
              · have hw := hw.1 c1704
                refine g_goto C dL_law_1718 (tgt := 2442) (by decide) ?_
                obtain ⟨x5_366, ex5_366⟩ : ∃ y : Int32, y = x5_1 + 6 := ⟨_, rfl⟩
                have hw := hw x5_366 ex5_366
                refine g_iinc C (j := 0) dL_law_2442 7 rfl (v := x5_366) (by rw [ex5_366]; rfl) (Nat.le_of_ble_eq_true rfl) (loc' := [(5, .int x5_366), (7, .long r_361), (6, .int r_357), (0, .ref b), (1, gR E 1), (2, gR E 40), (3, gR E 60), (4, gR E 61)]) rfl ?_
                refine g_goto C dL_law_2445 (tgt := 28) (by decide) ?_
                refine g_sub [3, 4, 5, 6, 7, 0] rfl ?_
                exact ih28 _ _ _ _ (by omega) (by omega) hw
              · have hw := hw.2 c1704
                refine g_aload_n C dL_law_1707 5 rfl rfl ?_
                refine g_iconst C dL_law_1708 (v := 0) rfl ?_
                obtain ⟨hk_367, hw⟩ := hw
                refine g_laload C hk_367 (i := 0) (vp_lit rfl) dL_law_1709 ?_
                refine g_lload C (j := 0) dL_law_1710 0 rfl ?_
                refine g_lc_eq C dL_law_1712 dL_law_1713 (tgt := 1718) (by decide) (fun c1713 => ?_) (fun c1713 => ?_)
                · have hw := hw.1 c1713
                  refine g_goto C dL_law_1718 (tgt := 2442) (by decide) ?_
                  obtain ⟨x5_368, ex5_368⟩ : ∃ y : Int32, y = x5_1 + 6 := ⟨_, rfl⟩
                  have hw := hw x5_368 ex5_368
                  refine g_iinc C (j := 0) dL_law_2442 7 rfl (v := x5_368) (by rw [ex5_368]; rfl) (Nat.le_of_ble_eq_true rfl) (loc' := [(5, .int x5_368), (7, .long r_361), (6, .int r_357), (0, .ref b), (1, gR E 1), (2, gR E 40), (3, gR E 60), (4, gR E 61)]) rfl ?_
                  refine g_goto C dL_law_2445 (tgt := 28) (by decide) ?_
                  refine g_sub [3, 4, 5, 6, 7, 0] rfl ?_
                  exact ih28 _ _ _ _ (by omega) (by omega) hw
                · have hw := hw.2 c1713
                  refine g_iconst C dL_law_1716 (v := 0) rfl ?_
                  exact False.elim hw
            · have hw := hw.2 c1697
              refine g_iconst C dL_law_1700 (v := 0) rfl ?_
              exact False.elim hw
          · have hw := hw.2.2.2.2.2.2.2.2.2.2.2.2.2.2.2.2.2.2.2.2.2.1 c45
            refine g_tableIn C dL_law_45 (by rw [c45]; decide) (by rw [c45]; decide) (off := 1676) (by rw [c45]; rfl) (tgt := 1721) (by decide) ?_
            refine g_aload_n C dL_law_1721 1 rfl rfl ?_
            refine g_aload_n C dL_law_1722 0 rfl rfl ?_
            refine g_iload C (j := 0) dL_law_1723 5 rfl ?_
            refine g_iconst C dL_law_1725 (v := 1) rfl ?_
            refine g_iadd C dL_law_1726 ?_
            obtain ⟨hi_369, hw⟩ := hw
            refine g_sld C GS hi_369 dL_law_1727 ?_
            refine g_aload_n C dL_law_1728 0 rfl rfl ?_
            refine g_iload C (j := 0) dL_law_1729 5 rfl ?_
            refine g_iconst C dL_law_1731 (v := 2) rfl ?_
            refine g_iadd C dL_law_1732 ?_
            obtain ⟨hi_370, hw⟩ := hw
            refine g_sld C GS hi_370 dL_law_1733 ?_
            refine g_aload_n C dL_law_1734 3 rfl rfl ?_
            refine g_cS C dL_law_1735 (met_L_truth C.st hw) (gc_L_truth _ (Nat.le_of_ble_eq_true rfl) (Nat.le_of_ble_eq_true rfl)) (Or.inl tw804) tw805 rfl (Nat.le_of_ble_eq_true rfl) (c2 := c + 3) (s2 := s + 18) rfl rfl (by omega) (by omega) rfl (kI (fun r_371 M_372 hw => ?_)) tNo
            refine g_istore C dL_law_1738 (Nat.le_of_ble_eq_true rfl) (loc' := [(6, .int r_371), (0, .ref b), (1, gR E 1), (2, gR E 40), (3, gR E 60), (4, gR E 61), (5, .int x5_1)]) rfl ?_
            refine g_aload_n C dL_law_1740 3 rfl rfl ?_
            refine g_aload_n C dL_law_1741 1 rfl rfl ?_
            refine g_iload C (j := 0) dL_law_1742 6 rfl ?_
            refine g_iconst C dL_law_1744 (v := 1) rfl ?_
            refine g_iadd C dL_law_1745 ?_
            obtain ⟨hi_373, hw⟩ := hw
            refine g_sld C GS hi_373 dL_law_1746 ?_
            refine g_aload_n C dL_law_1747 1 rfl rfl ?_
            refine g_iload C (j := 0) dL_law_1748 6 rfl ?_
            refine g_iconst C dL_law_1750 (v := 2) rfl ?_
            refine g_iadd C dL_law_1751 ?_
            obtain ⟨hi_374, hw⟩ := hw
            refine g_sld C GS hi_374 dL_law_1752 ?_
            obtain ⟨hk_377, hw⟩ := hw
            refine g_cV C dL_law_1753 (met_X6_truth C.st hw) (gc_X6_truth _ (Nat.le_of_ble_eq_true rfl) (Nat.le_of_ble_eq_true rfl)) tw1371 tw1372 tw1373 (ci := 6) rfl (by decide) hk_377 rfl (Nat.le_of_ble_eq_true rfl) (c2 := c + 3) (s2 := s + 18) rfl rfl (by omega) (by omega) rfl (kL (fun r_375 M_376 hw => ?_)) tNo
            refine g_lstore C dL_law_1756 (Nat.le_of_ble_eq_true rfl) (loc' := [(7, .long r_375), (6, .int r_371), (0, .ref b), (1, gR E 1), (2, gR E 40), (3, gR E 60), (4, gR E 61), (5, .int x5_1)]) rfl ?_
            refine g_aload_n C dL_law_1758 4 rfl rfl ?_
            refine g_cV C dL_law_1759 (met_X6_thrown C.st hw) (gc_X6_thrown _ (Nat.le_of_ble_eq_true rfl) (Nat.le_of_ble_eq_true rfl)) tw1120 tw1121 tw1122 (ci := 6) rfl (by decide) hk_377 rfl (Nat.le_of_ble_eq_true rfl) (c2 := c + 3) (s2 := s + 18) rfl rfl (by omega) (by omega) rfl (kIp (fun r_378 hw => ?_)) tNo
            refine g_iload C (j := 0) dL_law_1762 1 rfl ?_
            refine g_icmp_eq C dL_law_1764 (tgt := 1769) (by decide) (fun c1764 => ?_) (fun c1764 => ?_)
            · have hw := hw.1 c1764
              refine g_iload C (j := 0) dL_law_1769 1 rfl ?_
              refine g_if_ne C dL_law_1771 (tgt := 1785) (by decide) (fun c1771 => ?_) (fun c1771 => ?_)
              · have hw := hw.1 c1771
                refine g_goto C dL_law_1785 (tgt := 2442) (by decide) ?_
                obtain ⟨x5_380, ex5_380⟩ : ∃ y : Int32, y = x5_1 + 6 := ⟨_, rfl⟩
                have hw := hw x5_380 ex5_380
                refine g_iinc C (j := 0) dL_law_2442 7 rfl (v := x5_380) (by rw [ex5_380]; rfl) (Nat.le_of_ble_eq_true rfl) (loc' := [(5, .int x5_380), (7, .long r_375), (6, .int r_371), (0, .ref b), (1, gR E 1), (2, gR E 40), (3, gR E 60), (4, gR E 61)]) rfl ?_
                refine g_goto C dL_law_2445 (tgt := 28) (by decide) ?_
                refine g_sub [3, 4, 5, 6, 7, 0] rfl ?_
                exact ih28 _ _ _ _ (by omega) (by omega) hw
              · have hw := hw.2 c1771
                refine g_aload_n C dL_law_1774 5 rfl rfl ?_
                refine g_iconst C dL_law_1775 (v := 0) rfl ?_
                obtain ⟨hk_381, hw⟩ := hw
                refine g_laload C hk_381 (i := 0) (vp_lit rfl) dL_law_1776 ?_
                refine g_lload C (j := 0) dL_law_1777 0 rfl ?_
                refine g_lc_eq C dL_law_1779 dL_law_1780 (tgt := 1785) (by decide) (fun c1780 => ?_) (fun c1780 => ?_)
                · have hw := hw.1 c1780
                  refine g_goto C dL_law_1785 (tgt := 2442) (by decide) ?_
                  obtain ⟨x5_382, ex5_382⟩ : ∃ y : Int32, y = x5_1 + 6 := ⟨_, rfl⟩
                  have hw := hw x5_382 ex5_382
                  refine g_iinc C (j := 0) dL_law_2442 7 rfl (v := x5_382) (by rw [ex5_382]; rfl) (Nat.le_of_ble_eq_true rfl) (loc' := [(5, .int x5_382), (7, .long r_375), (6, .int r_371), (0, .ref b), (1, gR E 1), (2, gR E 40), (3, gR E 60), (4, gR E 61)]) rfl ?_
                  refine g_goto C dL_law_2445 (tgt := 28) (by decide) ?_
                  refine g_sub [3, 4, 5, 6, 7, 0] rfl ?_
                  exact ih28 _ _ _ _ (by omega) (by omega) hw
                · have hw := hw.2 c1780
                  refine g_iconst C dL_law_1783 (v := 0) rfl ?_
                  exact False.elim hw
            · have hw := hw.2 c1764
              refine g_iconst C dL_law_1767 (v := 0) rfl ?_
              exact False.elim hw
          · have hw := hw.2.2.2.2.2.2.2.2.2.2.2.2.2.2.2.2.2.2.2.2.2.2.1 c45
            refine g_tableIn C dL_law_45 (by rw [c45]; decide) (by rw [c45]; decide) (off := 1743) (by rw [c45]; rfl) (tgt := 1788) (by decide) ?_
            refine g_aload_n C dL_law_1788 1 rfl rfl ?_
            refine g_aload_n C dL_law_1789 0 rfl rfl ?_
            refine g_iload C (j := 0) dL_law_1790 5 rfl ?_
            refine g_iconst C dL_law_1792 (v := 1) rfl ?_
            refine g_iadd C dL_law_1793 ?_
            obtain ⟨hi_383, hw⟩ := hw
            refine g_sld C GS hi_383 dL_law_1794 ?_
            refine g_aload_n C dL_law_1795 0 rfl rfl ?_
            refine g_iload C (j := 0) dL_law_1796 5 rfl ?_
            refine g_iconst C dL_law_1798 (v := 2) rfl ?_
            refine g_iadd C dL_law_1799 ?_
            obtain ⟨hi_384, hw⟩ := hw
            refine g_sld C GS hi_384 dL_law_1800 ?_
            refine g_aload_n C dL_law_1801 3 rfl rfl ?_
            refine g_cS C dL_law_1802 (met_L_quantile C.st hw) (gc_L_quantile _ (Nat.le_of_ble_eq_true rfl) (Nat.le_of_ble_eq_true rfl)) (Or.inl tw811) tw812 rfl (Nat.le_of_ble_eq_true rfl) (c2 := c + 4) (s2 := s + 24) rfl rfl (by omega) (by omega) rfl (kI (fun r_385 M_386 hw => ?_)) tNo
            refine g_istore C dL_law_1805 (Nat.le_of_ble_eq_true rfl) (loc' := [(6, .int r_385), (0, .ref b), (1, gR E 1), (2, gR E 40), (3, gR E 60), (4, gR E 61), (5, .int x5_1)]) rfl ?_
            refine g_aload_n C dL_law_1807 3 rfl rfl ?_
            refine g_aload_n C dL_law_1808 1 rfl rfl ?_
            refine g_iload C (j := 0) dL_law_1809 6 rfl ?_
            refine g_iconst C dL_law_1811 (v := 1) rfl ?_
            refine g_iadd C dL_law_1812 ?_
            obtain ⟨hi_387, hw⟩ := hw
            refine g_sld C GS hi_387 dL_law_1813 ?_
            refine g_aload_n C dL_law_1814 1 rfl rfl ?_
            refine g_iload C (j := 0) dL_law_1815 6 rfl ?_
            refine g_iconst C dL_law_1817 (v := 2) rfl ?_
            refine g_iadd C dL_law_1818 ?_
            obtain ⟨hi_388, hw⟩ := hw
            refine g_sld C GS hi_388 dL_law_1819 ?_
            obtain ⟨hk_391, hw⟩ := hw
            refine g_cV C dL_law_1820 (met_X6_quantile C.st hw) (gc_X6_quantile _ (Nat.le_of_ble_eq_true rfl) (Nat.le_of_ble_eq_true rfl)) tw1375 tw1376 tw1377 (ci := 6) rfl (by decide) hk_391 rfl (Nat.le_of_ble_eq_true rfl) (c2 := c + 4) (s2 := s + 24) rfl rfl (by omega) (by omega) rfl (kI (fun r_389 M_390 hw => ?_)) tNo
            refine g_istore C dL_law_1823 (Nat.le_of_ble_eq_true rfl) (loc' := [(7, .int r_389), (6, .int r_385), (0, .ref b), (1, gR E 1), (2, gR E 40), (3, gR E 60), (4, gR E 61), (5, .int x5_1)]) rfl ?_
            refine g_aload_n C dL_law_1825 4 rfl rfl ?_
            refine g_cV C dL_law_1826 (met_X6_thrown C.st hw) (gc_X6_thrown _ (Nat.le_of_ble_eq_true rfl) (Nat.le_of_ble_eq_true rfl)) tw1120 tw1121 tw1122 (ci := 6) rfl (by decide) hk_391 rfl (Nat.le_of_ble_eq_true rfl) (c2 := c + 4) (s2 := s + 24) rfl rfl (by omega) (by omega) rfl (kIp (fun r_392 hw => ?_)) tNo
            refine g_iload C (j := 0) dL_law_1829 1 rfl ?_
            refine g_icmp_eq C dL_law_1831 (tgt := 1836) (by decide) (fun c1831 => ?_) (fun c1831 => ?_)
            · have hw := hw.1 c1831
              refine g_iload C (j := 0) dL_law_1836 1 rfl ?_
              refine g_if_ne C dL_law_1838 (tgt := 1853) (by decide) (fun c1838 => ?_) (fun c1838 => ?_)
              · have hw := hw.1 c1838
                refine g_goto C dL_law_1853 (tgt := 2442) (by decide) ?_
                obtain ⟨x5_394, ex5_394⟩ : ∃ y : Int32, y = x5_1 + 6 := ⟨_, rfl⟩
                have hw := hw x5_394 ex5_394
                refine g_iinc C (j := 0) dL_law_2442 7 rfl (v := x5_394) (by rw [ex5_394]; rfl) (Nat.le_of_ble_eq_true rfl) (loc' := [(5, .int x5_394), (7, .int r_389), (6, .int r_385), (0, .ref b), (1, gR E 1), (2, gR E 40), (3, gR E 60), (4, gR E 61)]) rfl ?_
                refine g_goto C dL_law_2445 (tgt := 28) (by decide) ?_
                refine g_sub [3, 4, 5, 6, 7, 0] rfl ?_
                exact ih28 _ _ _ _ (by omega) (by omega) hw
              · have hw := hw.2 c1838
                refine g_aload_n C dL_law_1841 5 rfl rfl ?_
                refine g_iconst C dL_law_1842 (v := 0) rfl ?_
                obtain ⟨hk_395, hw⟩ := hw
                refine g_laload C hk_395 (i := 0) (vp_lit rfl) dL_law_1843 ?_
                refine g_iload C (j := 0) dL_law_1844 0 rfl ?_
                refine g_i2l C dL_law_1846 ?_
                refine g_lc_eq C dL_law_1847 dL_law_1848 (tgt := 1853) (by decide) (fun c1848 => ?_) (fun c1848 => ?_)
                · have hw := hw.1 c1848
                  refine g_goto C dL_law_1853 (tgt := 2442) (by decide) ?_
                  obtain ⟨x5_396, ex5_396⟩ : ∃ y : Int32, y = x5_1 + 6 := ⟨_, rfl⟩
                  have hw := hw x5_396 ex5_396
                  refine g_iinc C (j := 0) dL_law_2442 7 rfl (v := x5_396) (by rw [ex5_396]; rfl) (Nat.le_of_ble_eq_true rfl) (loc' := [(5, .int x5_396), (7, .int r_389), (6, .int r_385), (0, .ref b), (1, gR E 1), (2, gR E 40), (3, gR E 60), (4, gR E 61)]) rfl ?_
                  refine g_goto C dL_law_2445 (tgt := 28) (by decide) ?_
                  refine g_sub [3, 4, 5, 6, 7, 0] rfl ?_
                  exact ih28 _ _ _ _ (by omega) (by omega) hw
                · have hw := hw.2 c1848
                  refine g_iconst C dL_law_1851 (v := 0) rfl ?_
                  exact False.elim hw
            · have hw := hw.2 c1831
              refine g_iconst C dL_law_1834 (v := 0) rfl ?_
              exact False.elim hw
          · have hw := hw.2.2.2.2.2.2.2.2.2.2.2.2.2.2.2.2.2.2.2.2.2.2.2.1 c45
            refine g_tableIn C dL_law_45 (by rw [c45]; decide) (by rw [c45]; decide) (off := 1811) (by rw [c45]; rfl) (tgt := 1856) (by decide) ?_
            refine g_aload_n C dL_law_1856 1 rfl rfl ?_
            refine g_aload_n C dL_law_1857 0 rfl rfl ?_
            refine g_iload C (j := 0) dL_law_1858 5 rfl ?_
            refine g_iconst C dL_law_1860 (v := 1) rfl ?_
            refine g_iadd C dL_law_1861 ?_
            obtain ⟨hi_397, hw⟩ := hw
            refine g_sld C GS hi_397 dL_law_1862 ?_
            refine g_aload_n C dL_law_1863 0 rfl rfl ?_
            refine g_iload C (j := 0) dL_law_1864 5 rfl ?_
            refine g_iconst C dL_law_1866 (v := 2) rfl ?_
            refine g_iadd C dL_law_1867 ?_
            obtain ⟨hi_398, hw⟩ := hw
            refine g_sld C GS hi_398 dL_law_1868 ?_
            refine g_aload_n C dL_law_1869 0 rfl rfl ?_
            refine g_iload C (j := 0) dL_law_1870 5 rfl ?_
            refine g_iconst C dL_law_1872 (v := 3) rfl ?_
            refine g_iadd C dL_law_1873 ?_
            obtain ⟨hi_399, hw⟩ := hw
            refine g_sld C GS hi_399 dL_law_1874 ?_
            refine g_aload C (j := 0) dL_law_1875 4 rfl ?_
            refine g_cS C dL_law_1877 (met_L_resampled C.st hw) (gc_L_resampled _ (Nat.le_of_ble_eq_true rfl) (Nat.le_of_ble_eq_true rfl)) (Or.inl tw824) tw825 rfl (Nat.le_of_ble_eq_true rfl) (c2 := c + 4) (s2 := s + 24) rfl rfl (by omega) (by omega) rfl (kI (fun r_400 M_401 hw => ?_)) tNo
            refine g_istore C dL_law_1880 (Nat.le_of_ble_eq_true rfl) (loc' := [(6, .int r_400), (0, .ref b), (1, gR E 1), (2, gR E 40), (3, gR E 60), (4, gR E 61), (5, .int x5_1)]) rfl ?_
            refine g_aload_n C dL_law_1882 3 rfl rfl ?_
            refine g_aload_n C dL_law_1883 1 rfl rfl ?_
            refine g_iload C (j := 0) dL_law_1884 6 rfl ?_
            refine g_iconst C dL_law_1886 (v := 1) rfl ?_
            refine g_iadd C dL_law_1887 ?_
            obtain ⟨hi_402, hw⟩ := hw
            refine g_sld C GS hi_402 dL_law_1888 ?_
            refine g_aload_n C dL_law_1889 1 rfl rfl ?_
            refine g_iload C (j := 0) dL_law_1890 6 rfl ?_
            refine g_iconst C dL_law_1892 (v := 2) rfl ?_
            refine g_iadd C dL_law_1893 ?_
            obtain ⟨hi_403, hw⟩ := hw
            refine g_sld C GS hi_403 dL_law_1894 ?_
            refine g_aload_n C dL_law_1895 1 rfl rfl ?_
            refine g_iload C (j := 0) dL_law_1896 6 rfl ?_
            refine g_iconst C dL_law_1898 (v := 3) rfl ?_
            refine g_iadd C dL_law_1899 ?_
            obtain ⟨hi_404, hw⟩ := hw
            refine g_sld C GS hi_404 dL_law_1900 ?_
            obtain ⟨hk_407, hw⟩ := hw
            refine g_cV C dL_law_1901 (met_X6_resampled C.st hw) (gc_X6_resampled _ (Nat.le_of_ble_eq_true rfl) (Nat.le_of_ble_eq_true rfl)) tw1380 tw1381 tw1382 (ci := 6) rfl (by decide) hk_407 rfl (Nat.le_of_ble_eq_true rfl) (c2 := c + 4) (s2 := s + 24) rfl rfl (by omega) (by omega) rfl (kD (fun r_405 M_406 hw => ?_)) tNo
            refine g_dstore C dL_law_1904 (Nat.le_of_ble_eq_true rfl) (loc' := [(7, .double r_405), (6, .int r_400), (0, .ref b), (1, gR E 1), (2, gR E 40), (3, gR E 60), (4, gR E 61), (5, .int x5_1)]) rfl ?_
            refine g_aload_n C dL_law_1906 4 rfl rfl ?_
            refine g_cV C dL_law_1907 (met_X6_thrown C.st hw) (gc_X6_thrown _ (Nat.le_of_ble_eq_true rfl) (Nat.le_of_ble_eq_true rfl)) tw1120 tw1121 tw1122 (ci := 6) rfl (by decide) hk_407 rfl (Nat.le_of_ble_eq_true rfl) (c2 := c + 4) (s2 := s + 24) rfl rfl (by omega) (by omega) rfl (kIp (fun r_408 hw => ?_)) tNo
            refine g_iload C (j := 0) dL_law_1910 1 rfl ?_
            refine g_icmp_eq C dL_law_1912 (tgt := 1917) (by decide) (fun c1912 => ?_) (fun c1912 => ?_)
            · have hw := hw.1 c1912
              refine g_iload C (j := 0) dL_law_1917 1 rfl ?_
              refine g_if_ne C dL_law_1919 (tgt := 1954) (by decide) (fun c1919 => ?_) (fun c1919 => ?_)
              · have hw := hw.1 c1919
                refine g_goto C dL_law_1954 (tgt := 2442) (by decide) ?_
                obtain ⟨x5_410, ex5_410⟩ : ∃ y : Int32, y = x5_1 + 6 := ⟨_, rfl⟩
                have hw := hw x5_410 ex5_410
                refine g_iinc C (j := 0) dL_law_2442 7 rfl (v := x5_410) (by rw [ex5_410]; rfl) (Nat.le_of_ble_eq_true rfl) (loc' := [(5, .int x5_410), (7, .double r_405), (6, .int r_400), (0, .ref b), (1, gR E 1), (2, gR E 40), (3, gR E 60), (4, gR E 61)]) rfl ?_
                refine g_goto C dL_law_2445 (tgt := 28) (by decide) ?_
                refine g_sub [3, 4, 5, 6, 7, 0] rfl ?_
                exact ih28 _ _ _ _ (by omega) (by omega) hw
              · have hw := hw.2 c1919
                refine g_aload C (j := 0) dL_law_1922 6 rfl ?_
                refine g_iconst C dL_law_1924 (v := 0) rfl ?_
                obtain ⟨hk_411, hw⟩ := hw
                refine g_daload C hk_411 (i := 0) (vp_lit rfl) dL_law_1925 ?_
                refine g_dload C (j := 0) dL_law_1926 0 rfl ?_
                refine g_dcmp C dL_law_1928 ?_
                refine g_if_eq C dL_law_1929 (tgt := 1954) (by decide) (fun c1929 => ?_) (fun c1929 => ?_)
                · have hw := hw.1 c1929
                  refine g_goto C dL_law_1954 (tgt := 2442) (by decide) ?_
                  obtain ⟨x5_412, ex5_412⟩ : ∃ y : Int32, y = x5_1 + 6 := ⟨_, rfl⟩
                  have hw := hw x5_412 ex5_412
                  refine g_iinc C (j := 0) dL_law_2442 7 rfl (v := x5_412) (by rw [ex5_412]; rfl) (Nat.le_of_ble_eq_true rfl) (loc' := [(5, .int x5_412), (7, .double r_405), (6, .int r_400), (0, .ref b), (1, gR E 1), (2, gR E 40), (3, gR E 60), (4, gR E 61)]) rfl ?_
                  refine g_goto C dL_law_2445 (tgt := 28) (by decide) ?_
                  refine g_sub [3, 4, 5, 6, 7, 0] rfl ?_
                  exact ih28 _ _ _ _ (by omega) (by omega) hw
                · have hw := hw.2 c1929
                  refine g_aload C (j := 0) dL_law_1932 6 rfl ?_
                  refine g_iconst C dL_law_1934 (v := 0) rfl ?_
                  refine g_daload C hk_411 (i := 0) (vp_lit rfl) dL_law_1935 ?_
                  refine g_aload C (j := 0) dL_law_1936 6 rfl ?_
                  refine g_iconst C dL_law_1938 (v := 0) rfl ?_
                  refine g_daload C hk_411 (i := 0) (vp_lit rfl) dL_law_1939 ?_
                  refine g_dcmp C dL_law_1940 ?_
                  refine g_if_eq C dL_law_1941 (tgt := 1952) (by decide) (fun c1941 => ?_) (fun c1941 => ?_)
                  · have hw := hw.1 c1941
                    refine g_iconst C dL_law_1952 (v := 0) rfl ?_
                    exact False.elim hw
                  · have hw := hw.2 c1941
                    refine g_dload C (j := 0) dL_law_1944 0 rfl ?_
                    refine g_dload C (j := 0) dL_law_1946 0 rfl ?_
                    refine g_dcmp C dL_law_1948 ?_
                    refine g_if_ne C dL_law_1949 (tgt := 1954) (by decide) (fun c1949 => ?_) (fun c1949 => ?_)
                    · have hw := hw.1 c1949
                      refine g_goto C dL_law_1954 (tgt := 2442) (by decide) ?_
                      obtain ⟨x5_413, ex5_413⟩ : ∃ y : Int32, y = x5_1 + 6 := ⟨_, rfl⟩
                      have hw := hw x5_413 ex5_413
                      refine g_iinc C (j := 0) dL_law_2442 7 rfl (v := x5_413) (by rw [ex5_413]; rfl) (Nat.le_of_ble_eq_true rfl) (loc' := [(5, .int x5_413), (7, .double r_405), (6, .int r_400), (0, .ref b), (1, gR E 1), (2, gR E 40), (3, gR E 60), (4, gR E 61)]) rfl ?_
                      refine g_goto C dL_law_2445 (tgt := 28) (by decide) ?_
                      refine g_sub [3, 4, 5, 6, 7, 0] rfl ?_
                      exact ih28 _ _ _ _ (by omega) (by omega) hw
                    · have hw := hw.2 c1949
                      refine g_iconst C dL_law_1952 (v := 0) rfl ?_
                      exact False.elim hw
            · have hw := hw.2 c1912
              refine g_iconst C dL_law_1915 (v := 0) rfl ?_
              exact False.elim hw
          · have hw := hw.2.2.2.2.2.2.2.2.2.2.2.2.2.2.2.2.2.2.2.2.2.2.2.2.1 c45
            refine g_tableIn C dL_law_45 (by rw [c45]; decide) (by rw [c45]; decide) (off := 1912) (by rw [c45]; rfl) (tgt := 1957) (by decide) ?_
            refine g_aload_n C dL_law_1957 1 rfl rfl ?_
            refine g_aload_n C dL_law_1958 0 rfl rfl ?_
            refine g_iload C (j := 0) dL_law_1959 5 rfl ?_
            refine g_iconst C dL_law_1961 (v := 1) rfl ?_
            refine g_iadd C dL_law_1962 ?_
            obtain ⟨hi_414, hw⟩ := hw
            refine g_sld C GS hi_414 dL_law_1963 ?_
            refine g_aload_n C dL_law_1964 0 rfl rfl ?_
            refine g_iload C (j := 0) dL_law_1965 5 rfl ?_
            refine g_iconst C dL_law_1967 (v := 2) rfl ?_
            refine g_iadd C dL_law_1968 ?_
            obtain ⟨hi_415, hw⟩ := hw
            refine g_sld C GS hi_415 dL_law_1969 ?_
            refine g_aload C (j := 0) dL_law_1970 4 rfl ?_
            refine g_cS C dL_law_1972 (met_L_distance C.st hw) (gc_L_distance _ (Nat.le_of_ble_eq_true rfl) (Nat.le_of_ble_eq_true rfl)) (Or.inl tw832) tw833 rfl (Nat.le_of_ble_eq_true rfl) (c2 := c + 6) (s2 := s + 36) rfl rfl (by omega) (by omega) rfl (kI (fun r_416 M_417 hw => ?_)) tNo
            refine g_istore C dL_law_1975 (Nat.le_of_ble_eq_true rfl) (loc' := [(6, .int r_416), (0, .ref b), (1, gR E 1), (2, gR E 40), (3, gR E 60), (4, gR E 61), (5, .int x5_1)]) rfl ?_
            refine g_aload_n C dL_law_1977 3 rfl rfl ?_
            refine g_aload_n C dL_law_1978 1 rfl rfl ?_
            refine g_iload C (j := 0) dL_law_1979 6 rfl ?_
            refine g_iconst C dL_law_1981 (v := 1) rfl ?_
            refine g_iadd C dL_law_1982 ?_
            obtain ⟨hi_418, hw⟩ := hw
            refine g_sld C GS hi_418 dL_law_1983 ?_
            refine g_aload_n C dL_law_1984 1 rfl rfl ?_
            refine g_iload C (j := 0) dL_law_1985 6 rfl ?_
            refine g_iconst C dL_law_1987 (v := 2) rfl ?_
            refine g_iadd C dL_law_1988 ?_
            obtain ⟨hi_419, hw⟩ := hw
            refine g_sld C GS hi_419 dL_law_1989 ?_
            obtain ⟨hk_422, hw⟩ := hw
            refine g_cV C dL_law_1990 (met_X6_distance C.st hw) (gc_X6_distance _ (Nat.le_of_ble_eq_true rfl) (Nat.le_of_ble_eq_true rfl)) tw1384 tw1385 tw1386 (ci := 6) rfl (by decide) hk_422 rfl (Nat.le_of_ble_eq_true rfl) (c2 := c + 6) (s2 := s + 36) rfl rfl (by omega) (by omega) rfl (kF (fun r_420 M_421 hw => ?_)) tNo
            refine g_fstore C dL_law_1993 (Nat.le_of_ble_eq_true rfl) (loc' := [(7, .float r_420), (6, .int r_416), (0, .ref b), (1, gR E 1), (2, gR E 40), (3, gR E 60), (4, gR E 61), (5, .int x5_1)]) rfl ?_
            refine g_aload_n C dL_law_1995 4 rfl rfl ?_
            refine g_cV C dL_law_1996 (met_X6_thrown C.st hw) (gc_X6_thrown _ (Nat.le_of_ble_eq_true rfl) (Nat.le_of_ble_eq_true rfl)) tw1120 tw1121 tw1122 (ci := 6) rfl (by decide) hk_422 rfl (Nat.le_of_ble_eq_true rfl) (c2 := c + 6) (s2 := s + 36) rfl rfl (by omega) (by omega) rfl (kIp (fun r_423 hw => ?_)) tNo
            refine g_iload C (j := 0) dL_law_1999 1 rfl ?_
            refine g_icmp_eq C dL_law_2001 (tgt := 2006) (by decide) (fun c2001 => ?_) (fun c2001 => ?_)
            · have hw := hw.1 c2001
              refine g_iload C (j := 0) dL_law_2006 1 rfl ?_
              refine g_if_ne C dL_law_2008 (tgt := 2044) (by decide) (fun c2008 => ?_) (fun c2008 => ?_)
              · have hw := hw.1 c2008
                refine g_goto C dL_law_2044 (tgt := 2442) (by decide) ?_
                obtain ⟨x5_425, ex5_425⟩ : ∃ y : Int32, y = x5_1 + 6 := ⟨_, rfl⟩
                have hw := hw x5_425 ex5_425
                refine g_iinc C (j := 0) dL_law_2442 7 rfl (v := x5_425) (by rw [ex5_425]; rfl) (Nat.le_of_ble_eq_true rfl) (loc' := [(5, .int x5_425), (7, .float r_420), (6, .int r_416), (0, .ref b), (1, gR E 1), (2, gR E 40), (3, gR E 60), (4, gR E 61)]) rfl ?_
                refine g_goto C dL_law_2445 (tgt := 28) (by decide) ?_
                refine g_sub [3, 4, 5, 6, 7, 0] rfl ?_
                exact ih28 _ _ _ _ (by omega) (by omega) hw
              · have hw := hw.2 c2008
                refine g_aload C (j := 0) dL_law_2011 6 rfl ?_
                refine g_iconst C dL_law_2013 (v := 0) rfl ?_
                obtain ⟨hk_426, hw⟩ := hw
                refine g_daload C hk_426 (i := 0) (vp_lit rfl) dL_law_2014 ?_
                refine g_fload C (j := 0) dL_law_2015 0 rfl ?_
                refine g_f2d C dL_law_2017 (fun f_427 ef_427 => ?_)
                have hw := hw f_427 ef_427
                refine g_dcmp C dL_law_2018 ?_
                refine g_if_eq C dL_law_2019 (tgt := 2044) (by decide) (fun c2019 => ?_) (fun c2019 => ?_)
                · have hw := hw.1 c2019
                  refine g_goto C dL_law_2044 (tgt := 2442) (by decide) ?_
                  obtain ⟨x5_428, ex5_428⟩ : ∃ y : Int32, y = x5_1 + 6 := ⟨_, rfl⟩
                  have hw := hw x5_428 ex5_428
                  refine g_iinc C (j := 0) dL_law_2442 7 rfl (v := x5_428) (by rw [ex5_428]; rfl) (Nat.le_of_ble_eq_true rfl) (loc' := [(5, .int x5_428), (7, .float r_420), (6, .int r_416), (0, .ref b), (1, gR E 1), (2, gR E 40), (3, gR E 60), (4, gR E 61)]) rfl ?_
                  refine g_goto C dL_law_2445 (tgt := 28) (by decide) ?_
                  refine g_sub [3, 4, 5, 6, 7, 0] rfl ?_
                  exact ih28 _ _ _ _ (by omega) (by omega) hw
                · have hw := hw.2 c2019
                  refine g_aload C (j := 0) dL_law_2022 6 rfl ?_
                  refine g_iconst C dL_law_2024 (v := 0) rfl ?_
                  refine g_daload C hk_426 (i := 0) (vp_lit rfl) dL_law_2025 ?_
                  refine g_aload C (j := 0) dL_law_2026 6 rfl ?_
                  refine g_iconst C dL_law_2028 (v := 0) rfl ?_
                  refine g_daload C hk_426 (i := 0) (vp_lit rfl) dL_law_2029 ?_
                  refine g_dcmp C dL_law_2030 ?_
                  refine g_if_eq C dL_law_2031 (tgt := 2042) (by decide) (fun c2031 => ?_) (fun c2031 => ?_)
                  · have hw := hw.1 c2031
                    refine g_iconst C dL_law_2042 (v := 0) rfl ?_
                    exact False.elim hw
                  · have hw := hw.2 c2031
                    refine g_fload C (j := 0) dL_law_2034 0 rfl ?_
                    refine g_fload C (j := 0) dL_law_2036 0 rfl ?_
                    refine g_fcmp C dL_law_2038 ?_
                    refine g_if_ne C dL_law_2039 (tgt := 2044) (by decide) (fun c2039 => ?_) (fun c2039 => ?_)
                    · have hw := hw.1 c2039
                      refine g_goto C dL_law_2044 (tgt := 2442) (by decide) ?_
                      obtain ⟨x5_429, ex5_429⟩ : ∃ y : Int32, y = x5_1 + 6 := ⟨_, rfl⟩
                      have hw := hw x5_429 ex5_429
                      refine g_iinc C (j := 0) dL_law_2442 7 rfl (v := x5_429) (by rw [ex5_429]; rfl) (Nat.le_of_ble_eq_true rfl) (loc' := [(5, .int x5_429), (7, .float r_420), (6, .int r_416), (0, .ref b), (1, gR E 1), (2, gR E 40), (3, gR E 60), (4, gR E 61)]) rfl ?_
                      refine g_goto C dL_law_2445 (tgt := 28) (by decide) ?_
                      refine g_sub [3, 4, 5, 6, 7, 0] rfl ?_
                      exact ih28 _ _ _ _ (by omega) (by omega) hw
                    · have hw := hw.2 c2039
                      refine g_iconst C dL_law_2042 (v := 0) rfl ?_
                      exact False.elim hw
            · have hw := hw.2 c2001
              refine g_iconst C dL_law_2004 (v := 0) rfl ?_
              exact False.elim hw
          · have hw := hw.2.2.2.2.2.2.2.2.2.2.2.2.2.2.2.2.2.2.2.2.2.2.2.2.2.1 c45
            refine g_tableIn C dL_law_45 (by rw [c45]; decide) (by rw [c45]; decide) (off := 2002) (by rw [c45]; rfl) (tgt := 2047) (by decide) ?_
            refine g_aload_n C dL_law_2047 1 rfl rfl ?_
            refine g_aload_n C dL_law_2048 0 rfl rfl ?_
            refine g_iload C (j := 0) dL_law_2049 5 rfl ?_
            refine g_iconst C dL_law_2051 (v := 1) rfl ?_
            refine g_iadd C dL_law_2052 ?_
            obtain ⟨hi_430, hw⟩ := hw
            refine g_sld C GS hi_430 dL_law_2053 ?_
            refine g_aload_n C dL_law_2054 0 rfl rfl ?_
            refine g_iload C (j := 0) dL_law_2055 5 rfl ?_
            refine g_iconst C dL_law_2057 (v := 2) rfl ?_
            refine g_iadd C dL_law_2058 ?_
            obtain ⟨hi_431, hw⟩ := hw
            refine g_sld C GS hi_431 dL_law_2059 ?_
            refine g_aload_n C dL_law_2060 3 rfl rfl ?_
            refine g_cS C dL_law_2061 (met_L_common C.st hw) (gc_L_common _ (Nat.le_of_ble_eq_true rfl) (Nat.le_of_ble_eq_true rfl)) (Or.inl tw851) tw852 rfl (Nat.le_of_ble_eq_true rfl) (c2 := c + 4) (s2 := s + 24) rfl rfl (by omega) (by omega) rfl (kI (fun r_432 M_433 hw => ?_)) tNo
            refine g_istore C dL_law_2064 (Nat.le_of_ble_eq_true rfl) (loc' := [(6, .int r_432), (0, .ref b), (1, gR E 1), (2, gR E 40), (3, gR E 60), (4, gR E 61), (5, .int x5_1)]) rfl ?_
            refine g_aload_n C dL_law_2066 3 rfl rfl ?_
            refine g_aload_n C dL_law_2067 1 rfl rfl ?_
            refine g_iload C (j := 0) dL_law_2068 6 rfl ?_
            refine g_iconst C dL_law_2070 (v := 1) rfl ?_
            refine g_iadd C dL_law_2071 ?_
            obtain ⟨hi_434, hw⟩ := hw
            refine g_sld C GS hi_434 dL_law_2072 ?_
            refine g_aload_n C dL_law_2073 1 rfl rfl ?_
            refine g_iload C (j := 0) dL_law_2074 6 rfl ?_
            refine g_iconst C dL_law_2076 (v := 2) rfl ?_
            refine g_iadd C dL_law_2077 ?_
            obtain ⟨hi_435, hw⟩ := hw
            refine g_sld C GS hi_435 dL_law_2078 ?_
            obtain ⟨hk_438, hw⟩ := hw
            refine g_cV C dL_law_2079 (met_X6_common C.st hw) (gc_X6_common _ (Nat.le_of_ble_eq_true rfl) (Nat.le_of_ble_eq_true rfl)) tw1396 tw1397 tw1398 (ci := 6) rfl (by decide) hk_438 rfl (Nat.le_of_ble_eq_true rfl) (c2 := c + 4) (s2 := s + 24) rfl rfl (by omega) (by omega) rfl (kI (fun r_436 M_437 hw => ?_)) tNo
            refine g_istore C dL_law_2082 (Nat.le_of_ble_eq_true rfl) (loc' := [(7, .int r_436), (6, .int r_432), (0, .ref b), (1, gR E 1), (2, gR E 40), (3, gR E 60), (4, gR E 61), (5, .int x5_1)]) rfl ?_
            refine g_aload_n C dL_law_2084 4 rfl rfl ?_
            refine g_cV C dL_law_2085 (met_X6_thrown C.st hw) (gc_X6_thrown _ (Nat.le_of_ble_eq_true rfl) (Nat.le_of_ble_eq_true rfl)) tw1120 tw1121 tw1122 (ci := 6) rfl (by decide) hk_438 rfl (Nat.le_of_ble_eq_true rfl) (c2 := c + 4) (s2 := s + 24) rfl rfl (by omega) (by omega) rfl (kIp (fun r_439 hw => ?_)) tNo
            refine g_iload C (j := 0) dL_law_2088 1 rfl ?_
            refine g_icmp_eq C dL_law_2090 (tgt := 2095) (by decide) (fun c2090 => ?_) (fun c2090 => ?_)
            · have hw := hw.1 c2090
              refine g_iload C (j := 0) dL_law_2095 1 rfl ?_
              refine g_if_ne C dL_law_2097 (tgt := 2112) (by decide) (fun c2097 => ?_) (fun c2097 => ?_)
              · have hw := hw.1 c2097
                refine g_goto C dL_law_2112 (tgt := 2442) (by decide) ?_
                obtain ⟨x5_441, ex5_441⟩ : ∃ y : Int32, y = x5_1 + 6 := ⟨_, rfl⟩
                have hw := hw x5_441 ex5_441
                refine g_iinc C (j := 0) dL_law_2442 7 rfl (v := x5_441) (by rw [ex5_441]; rfl) (Nat.le_of_ble_eq_true rfl) (loc' := [(5, .int x5_441), (7, .int r_436), (6, .int r_432), (0, .ref b), (1, gR E 1), (2, gR E 40), (3, gR E 60), (4, gR E 61)]) rfl ?_
                refine g_goto C dL_law_2445 (tgt := 28) (by decide) ?_
                refine g_sub [3, 4, 5, 6, 7, 0] rfl ?_
                exact ih28 _ _ _ _ (by omega) (by omega) hw
              · have hw := hw.2 c2097
                refine g_aload_n C dL_law_2100 5 rfl rfl ?_
                refine g_iconst C dL_law_2101 (v := 0) rfl ?_
                obtain ⟨hk_442, hw⟩ := hw
                refine g_laload C hk_442 (i := 0) (vp_lit rfl) dL_law_2102 ?_
                refine g_iload C (j := 0) dL_law_2103 0 rfl ?_
                refine g_i2l C dL_law_2105 ?_
                refine g_lc_eq C dL_law_2106 dL_law_2107 (tgt := 2112) (by decide) (fun c2107 => ?_) (fun c2107 => ?_)
                · have hw := hw.1 c2107
                  refine g_goto C dL_law_2112 (tgt := 2442) (by decide) ?_
                  obtain ⟨x5_443, ex5_443⟩ : ∃ y : Int32, y = x5_1 + 6 := ⟨_, rfl⟩
                  have hw := hw x5_443 ex5_443
                  refine g_iinc C (j := 0) dL_law_2442 7 rfl (v := x5_443) (by rw [ex5_443]; rfl) (Nat.le_of_ble_eq_true rfl) (loc' := [(5, .int x5_443), (7, .int r_436), (6, .int r_432), (0, .ref b), (1, gR E 1), (2, gR E 40), (3, gR E 60), (4, gR E 61)]) rfl ?_
                  refine g_goto C dL_law_2445 (tgt := 28) (by decide) ?_
                  refine g_sub [3, 4, 5, 6, 7, 0] rfl ?_
                  exact ih28 _ _ _ _ (by omega) (by omega) hw
                · have hw := hw.2 c2107
                  refine g_iconst C dL_law_2110 (v := 0) rfl ?_
                  exact False.elim hw
            · have hw := hw.2 c2090
              refine g_iconst C dL_law_2093 (v := 0) rfl ?_
              exact False.elim hw
          · have hw := hw.2.2.2.2.2.2.2.2.2.2.2.2.2.2.2.2.2.2.2.2.2.2.2.2.2.2.1 c45
            refine g_tableIn C dL_law_45 (by rw [c45]; decide) (by rw [c45]; decide) (off := 2070) (by rw [c45]; rfl) (tgt := 2115) (by decide) ?_
            refine g_aload_n C dL_law_2115 1 rfl rfl ?_
            refine g_aload_n C dL_law_2116 0 rfl rfl ?_
            refine g_iload C (j := 0) dL_law_2117 5 rfl ?_
            refine g_iconst C dL_law_2119 (v := 1) rfl ?_
            refine g_iadd C dL_law_2120 ?_
            obtain ⟨hi_444, hw⟩ := hw
            refine g_sld C GS hi_444 dL_law_2121 ?_
            refine g_i2c C dL_law_2122 ?_
            refine g_aload_n C dL_law_2123 3 rfl rfl ?_
            refine g_cS C dL_law_2124 (met_L_feed C.st hw) (gc_L_feed _ (Nat.le_of_ble_eq_true rfl) (Nat.le_of_ble_eq_true rfl)) (Or.inl tw862) tw863 rfl (Nat.le_of_ble_eq_true rfl) (c2 := c + 1) (s2 := s + 6) rfl rfl (by omega) (by omega) rfl (kI (fun r_445 M_446 hw => ?_)) tNo
            refine g_istore C dL_law_2127 (Nat.le_of_ble_eq_true rfl) (loc' := [(6, .int r_445), (0, .ref b), (1, gR E 1), (2, gR E 40), (3, gR E 60), (4, gR E 61), (5, .int x5_1)]) rfl ?_
            refine g_aload_n C dL_law_2129 3 rfl rfl ?_
            refine g_aload_n C dL_law_2130 1 rfl rfl ?_
            refine g_iload C (j := 0) dL_law_2131 6 rfl ?_
            refine g_iconst C dL_law_2133 (v := 1) rfl ?_
            refine g_iadd C dL_law_2134 ?_
            obtain ⟨hi_447, hw⟩ := hw
            refine g_sld C GS hi_447 dL_law_2135 ?_
            refine g_i2c C dL_law_2136 ?_
            obtain ⟨hk_450, hw⟩ := hw
            refine g_cV C dL_law_2137 (met_X6_feed C.st hw) (gc_X6_feed _ (Nat.le_of_ble_eq_true rfl) (Nat.le_of_ble_eq_true rfl)) tw1400 tw1401 tw1402 (ci := 6) rfl (by decide) hk_450 rfl (Nat.le_of_ble_eq_true rfl) (c2 := c + 1) (s2 := s + 6) rfl rfl (by omega) (by omega) rfl (kI (fun r_448 M_449 hw => ?_)) tNo
            refine g_istore C dL_law_2140 (Nat.le_of_ble_eq_true rfl) (loc' := [(7, .int r_448), (6, .int r_445), (0, .ref b), (1, gR E 1), (2, gR E 40), (3, gR E 60), (4, gR E 61), (5, .int x5_1)]) rfl ?_
            refine g_aload_n C dL_law_2142 4 rfl rfl ?_
            refine g_cV C dL_law_2143 (met_X6_thrown C.st hw) (gc_X6_thrown _ (Nat.le_of_ble_eq_true rfl) (Nat.le_of_ble_eq_true rfl)) tw1120 tw1121 tw1122 (ci := 6) rfl (by decide) hk_450 rfl (Nat.le_of_ble_eq_true rfl) (c2 := c + 1) (s2 := s + 6) rfl rfl (by omega) (by omega) rfl (kIp (fun r_451 hw => ?_)) tNo
            refine g_iload C (j := 0) dL_law_2146 1 rfl ?_
            refine g_icmp_eq C dL_law_2148 (tgt := 2153) (by decide) (fun c2148 => ?_) (fun c2148 => ?_)
            · have hw := hw.1 c2148
              refine g_iload C (j := 0) dL_law_2153 1 rfl ?_
              refine g_if_ne C dL_law_2155 (tgt := 2170) (by decide) (fun c2155 => ?_) (fun c2155 => ?_)
              · have hw := hw.1 c2155
                refine g_goto C dL_law_2170 (tgt := 2442) (by decide) ?_
                obtain ⟨x5_453, ex5_453⟩ : ∃ y : Int32, y = x5_1 + 6 := ⟨_, rfl⟩
                have hw := hw x5_453 ex5_453
                refine g_iinc C (j := 0) dL_law_2442 7 rfl (v := x5_453) (by rw [ex5_453]; rfl) (Nat.le_of_ble_eq_true rfl) (loc' := [(5, .int x5_453), (7, .int r_448), (6, .int r_445), (0, .ref b), (1, gR E 1), (2, gR E 40), (3, gR E 60), (4, gR E 61)]) rfl ?_
                refine g_goto C dL_law_2445 (tgt := 28) (by decide) ?_
                refine g_sub [3, 4, 5, 6, 7, 0] rfl ?_
                exact ih28 _ _ _ _ (by omega) (by omega) hw
              · have hw := hw.2 c2155
                refine g_aload_n C dL_law_2158 5 rfl rfl ?_
                refine g_iconst C dL_law_2159 (v := 0) rfl ?_
                obtain ⟨hk_454, hw⟩ := hw
                refine g_laload C hk_454 (i := 0) (vp_lit rfl) dL_law_2160 ?_
                refine g_iload C (j := 0) dL_law_2161 0 rfl ?_
                refine g_i2l C dL_law_2163 ?_
                refine g_lc_eq C dL_law_2164 dL_law_2165 (tgt := 2170) (by decide) (fun c2165 => ?_) (fun c2165 => ?_)
                · have hw := hw.1 c2165
                  refine g_goto C dL_law_2170 (tgt := 2442) (by decide) ?_
                  obtain ⟨x5_455, ex5_455⟩ : ∃ y : Int32, y = x5_1 + 6 := ⟨_, rfl⟩
                  have hw := hw x5_455 ex5_455
                  refine g_iinc C (j := 0) dL_law_2442 7 rfl (v := x5_455) (by rw [ex5_455]; rfl) (Nat.le_of_ble_eq_true rfl) (loc' := [(5, .int x5_455), (7, .int r_448), (6, .int r_445), (0, .ref b), (1, gR E 1), (2, gR E 40), (3, gR E 60), (4, gR E 61)]) rfl ?_
                  refine g_goto C dL_law_2445 (tgt := 28) (by decide) ?_
                  refine g_sub [3, 4, 5, 6, 7, 0] rfl ?_
                  exact ih28 _ _ _ _ (by omega) (by omega) hw
                · have hw := hw.2 c2165
                  refine g_iconst C dL_law_2168 (v := 0) rfl ?_
                  exact False.elim hw
            · have hw := hw.2 c2148
              refine g_iconst C dL_law_2151 (v := 0) rfl ?_
              exact False.elim hw
          · have hw := hw.2.2.2.2.2.2.2.2.2.2.2.2.2.2.2.2.2.2.2.2.2.2.2.2.2.2.2.1 c45
            refine g_tableIn C dL_law_45 (by rw [c45]; decide) (by rw [c45]; decide) (off := 2128) (by rw [c45]; rfl) (tgt := 2173) (by decide) ?_
            refine g_aload_n C dL_law_2173 1 rfl rfl ?_
            refine g_aload_n C dL_law_2174 0 rfl rfl ?_
            refine g_iload C (j := 0) dL_law_2175 5 rfl ?_
            refine g_iconst C dL_law_2177 (v := 1) rfl ?_
            refine g_iadd C dL_law_2178 ?_
            obtain ⟨hi_456, hw⟩ := hw
            refine g_sld C GS hi_456 dL_law_2179 ?_
            refine g_aload_n C dL_law_2180 3 rfl rfl ?_
            refine g_cS C dL_law_2181 (met_L_read C.st hw) (gc_L_read _ (Nat.le_of_ble_eq_true rfl) (Nat.le_of_ble_eq_true rfl)) (Or.inl tw882) tw883 rfl (Nat.le_of_ble_eq_true rfl) (c2 := c + 3) (s2 := s + 18) rfl rfl (by omega) (by omega) rfl (kI (fun r_457 M_458 hw => ?_)) tNo
            refine g_istore C dL_law_2184 (Nat.le_of_ble_eq_true rfl) (loc' := [(6, .int r_457), (0, .ref b), (1, gR E 1), (2, gR E 40), (3, gR E 60), (4, gR E 61), (5, .int x5_1)]) rfl ?_
            refine g_aload_n C dL_law_2186 3 rfl rfl ?_
            refine g_aload_n C dL_law_2187 1 rfl rfl ?_
            refine g_iload C (j := 0) dL_law_2188 6 rfl ?_
            refine g_iconst C dL_law_2190 (v := 1) rfl ?_
            refine g_iadd C dL_law_2191 ?_
            obtain ⟨hi_459, hw⟩ := hw
            refine g_sld C GS hi_459 dL_law_2192 ?_
            obtain ⟨hk_462, hw⟩ := hw
            refine g_cV C dL_law_2193 (met_X6_read C.st hw) (gc_X6_read _ (Nat.le_of_ble_eq_true rfl) (Nat.le_of_ble_eq_true rfl)) tw1404 tw1405 tw1406 (ci := 6) rfl (by decide) hk_462 rfl (Nat.le_of_ble_eq_true rfl) (c2 := c + 3) (s2 := s + 18) rfl rfl (by omega) (by omega) rfl (kI (fun r_460 M_461 hw => ?_)) tNo
            refine g_istore C dL_law_2196 (Nat.le_of_ble_eq_true rfl) (loc' := [(7, .int r_460), (6, .int r_457), (0, .ref b), (1, gR E 1), (2, gR E 40), (3, gR E 60), (4, gR E 61), (5, .int x5_1)]) rfl ?_
            refine g_aload_n C dL_law_2198 4 rfl rfl ?_
            refine g_cV C dL_law_2199 (met_X6_thrown C.st hw) (gc_X6_thrown _ (Nat.le_of_ble_eq_true rfl) (Nat.le_of_ble_eq_true rfl)) tw1120 tw1121 tw1122 (ci := 6) rfl (by decide) hk_462 rfl (Nat.le_of_ble_eq_true rfl) (c2 := c + 3) (s2 := s + 18) rfl rfl (by omega) (by omega) rfl (kIp (fun r_463 hw => ?_)) tNo
            refine g_iload C (j := 0) dL_law_2202 1 rfl ?_
            refine g_icmp_eq C dL_law_2204 (tgt := 2209) (by decide) (fun c2204 => ?_) (fun c2204 => ?_)
            · have hw := hw.1 c2204
              refine g_iload C (j := 0) dL_law_2209 1 rfl ?_
              refine g_if_ne C dL_law_2211 (tgt := 2226) (by decide) (fun c2211 => ?_) (fun c2211 => ?_)
              · have hw := hw.1 c2211
                refine g_goto C dL_law_2226 (tgt := 2442) (by decide) ?_
                obtain ⟨x5_465, ex5_465⟩ : ∃ y : Int32, y = x5_1 + 6 := ⟨_, rfl⟩
                have hw := hw x5_465 ex5_465
                refine g_iinc C (j := 0) dL_law_2442 7 rfl (v := x5_465) (by rw [ex5_465]; rfl) (Nat.le_of_ble_eq_true rfl) (loc' := [(5, .int x5_465), (7, .int r_460), (6, .int r_457), (0, .ref b), (1, gR E 1), (2, gR E 40), (3, gR E 60), (4, gR E 61)]) rfl ?_
                refine g_goto C dL_law_2445 (tgt := 28) (by decide) ?_
                refine g_sub [3, 4, 5, 6, 7, 0] rfl ?_
                exact ih28 _ _ _ _ (by omega) (by omega) hw
              · have hw := hw.2 c2211
                refine g_aload_n C dL_law_2214 5 rfl rfl ?_
                refine g_iconst C dL_law_2215 (v := 0) rfl ?_
                obtain ⟨hk_466, hw⟩ := hw
                refine g_laload C hk_466 (i := 0) (vp_lit rfl) dL_law_2216 ?_
                refine g_iload C (j := 0) dL_law_2217 0 rfl ?_
                refine g_i2l C dL_law_2219 ?_
                refine g_lc_eq C dL_law_2220 dL_law_2221 (tgt := 2226) (by decide) (fun c2221 => ?_) (fun c2221 => ?_)
                · have hw := hw.1 c2221
                  refine g_goto C dL_law_2226 (tgt := 2442) (by decide) ?_
                  obtain ⟨x5_467, ex5_467⟩ : ∃ y : Int32, y = x5_1 + 6 := ⟨_, rfl⟩
                  have hw := hw x5_467 ex5_467
                  refine g_iinc C (j := 0) dL_law_2442 7 rfl (v := x5_467) (by rw [ex5_467]; rfl) (Nat.le_of_ble_eq_true rfl) (loc' := [(5, .int x5_467), (7, .int r_460), (6, .int r_457), (0, .ref b), (1, gR E 1), (2, gR E 40), (3, gR E 60), (4, gR E 61)]) rfl ?_
                  refine g_goto C dL_law_2445 (tgt := 28) (by decide) ?_
                  refine g_sub [3, 4, 5, 6, 7, 0] rfl ?_
                  exact ih28 _ _ _ _ (by omega) (by omega) hw
                · have hw := hw.2 c2221
                  refine g_iconst C dL_law_2224 (v := 0) rfl ?_
                  exact False.elim hw
            · have hw := hw.2 c2204
              refine g_iconst C dL_law_2207 (v := 0) rfl ?_
              exact False.elim hw
          · have hw := hw.2.2.2.2.2.2.2.2.2.2.2.2.2.2.2.2.2.2.2.2.2.2.2.2.2.2.2.2.1 c45
            refine g_tableIn C dL_law_45 (by rw [c45]; decide) (by rw [c45]; decide) (off := 2184) (by rw [c45]; rfl) (tgt := 2229) (by decide) ?_
            refine g_aload_n C dL_law_2229 1 rfl rfl ?_
            refine g_aload_n C dL_law_2230 0 rfl rfl ?_
            refine g_iload C (j := 0) dL_law_2231 5 rfl ?_
            refine g_iconst C dL_law_2233 (v := 1) rfl ?_
            refine g_iadd C dL_law_2234 ?_
            obtain ⟨hi_468, hw⟩ := hw
            refine g_sld C GS hi_468 dL_law_2235 ?_
            refine g_aload_n C dL_law_2236 3 rfl rfl ?_
            refine g_cS C dL_law_2237 (met_L_write C.st hw) (gc_L_write _ (Nat.le_of_ble_eq_true rfl) (Nat.le_of_ble_eq_true rfl)) (Or.inl tw957) tw958 rfl (Nat.le_of_ble_eq_true rfl) (c2 := c + 2) (s2 := s + 12) rfl rfl (by omega) (by omega) rfl (kI (fun r_469 M_470 hw => ?_)) tNo
            refine g_istore C dL_law_2240 (Nat.le_of_ble_eq_true rfl) (loc' := [(6, .int r_469), (0, .ref b), (1, gR E 1), (2, gR E 40), (3, gR E 60), (4, gR E 61), (5, .int x5_1)]) rfl ?_
            refine g_aload_n C dL_law_2242 3 rfl rfl ?_
            refine g_aload_n C dL_law_2243 1 rfl rfl ?_
            refine g_iload C (j := 0) dL_law_2244 6 rfl ?_
            refine g_iconst C dL_law_2246 (v := 1) rfl ?_
            refine g_iadd C dL_law_2247 ?_
            obtain ⟨hi_471, hw⟩ := hw
            refine g_sld C GS hi_471 dL_law_2248 ?_
            obtain ⟨hk_474, hw⟩ := hw
            refine g_cV C dL_law_2249 (met_X6_write C.st hw) (gc_X6_write _ (Nat.le_of_ble_eq_true rfl) (Nat.le_of_ble_eq_true rfl)) tw1433 tw1434 tw1435 (ci := 6) rfl (by decide) hk_474 rfl (Nat.le_of_ble_eq_true rfl) (c2 := c + 2) (s2 := s + 12) rfl rfl (by omega) (by omega) rfl (kI (fun r_472 M_473 hw => ?_)) tNo
            refine g_istore C dL_law_2252 (Nat.le_of_ble_eq_true rfl) (loc' := [(7, .int r_472), (6, .int r_469), (0, .ref b), (1, gR E 1), (2, gR E 40), (3, gR E 60), (4, gR E 61), (5, .int x5_1)]) rfl ?_
            refine g_aload_n C dL_law_2254 4 rfl rfl ?_
            refine g_cV C dL_law_2255 (met_X6_thrown C.st hw) (gc_X6_thrown _ (Nat.le_of_ble_eq_true rfl) (Nat.le_of_ble_eq_true rfl)) tw1120 tw1121 tw1122 (ci := 6) rfl (by decide) hk_474 rfl (Nat.le_of_ble_eq_true rfl) (c2 := c + 2) (s2 := s + 12) rfl rfl (by omega) (by omega) rfl (kIp (fun r_475 hw => ?_)) tNo
            refine g_iload C (j := 0) dL_law_2258 1 rfl ?_
            refine g_icmp_eq C dL_law_2260 (tgt := 2265) (by decide) (fun c2260 => ?_) (fun c2260 => ?_)
            · have hw := hw.1 c2260
              refine g_iload C (j := 0) dL_law_2265 1 rfl ?_
              refine g_if_ne C dL_law_2267 (tgt := 2282) (by decide) (fun c2267 => ?_) (fun c2267 => ?_)
              · have hw := hw.1 c2267
                refine g_goto C dL_law_2282 (tgt := 2442) (by decide) ?_
                obtain ⟨x5_477, ex5_477⟩ : ∃ y : Int32, y = x5_1 + 6 := ⟨_, rfl⟩
                have hw := hw x5_477 ex5_477
                refine g_iinc C (j := 0) dL_law_2442 7 rfl (v := x5_477) (by rw [ex5_477]; rfl) (Nat.le_of_ble_eq_true rfl) (loc' := [(5, .int x5_477), (7, .int r_472), (6, .int r_469), (0, .ref b), (1, gR E 1), (2, gR E 40), (3, gR E 60), (4, gR E 61)]) rfl ?_
                refine g_goto C dL_law_2445 (tgt := 28) (by decide) ?_
                refine g_sub [3, 4, 5, 6, 7, 0] rfl ?_
                exact ih28 _ _ _ _ (by omega) (by omega) hw
              · have hw := hw.2 c2267
                refine g_aload_n C dL_law_2270 5 rfl rfl ?_
                refine g_iconst C dL_law_2271 (v := 0) rfl ?_
                obtain ⟨hk_478, hw⟩ := hw
                refine g_laload C hk_478 (i := 0) (vp_lit rfl) dL_law_2272 ?_
                refine g_iload C (j := 0) dL_law_2273 0 rfl ?_
                refine g_i2l C dL_law_2275 ?_
                refine g_lc_eq C dL_law_2276 dL_law_2277 (tgt := 2282) (by decide) (fun c2277 => ?_) (fun c2277 => ?_)
                · have hw := hw.1 c2277
                  refine g_goto C dL_law_2282 (tgt := 2442) (by decide) ?_
                  obtain ⟨x5_479, ex5_479⟩ : ∃ y : Int32, y = x5_1 + 6 := ⟨_, rfl⟩
                  have hw := hw x5_479 ex5_479
                  refine g_iinc C (j := 0) dL_law_2442 7 rfl (v := x5_479) (by rw [ex5_479]; rfl) (Nat.le_of_ble_eq_true rfl) (loc' := [(5, .int x5_479), (7, .int r_472), (6, .int r_469), (0, .ref b), (1, gR E 1), (2, gR E 40), (3, gR E 60), (4, gR E 61)]) rfl ?_
                  refine g_goto C dL_law_2445 (tgt := 28) (by decide) ?_
                  refine g_sub [3, 4, 5, 6, 7, 0] rfl ?_
                  exact ih28 _ _ _ _ (by omega) (by omega) hw
                · have hw := hw.2 c2277
                  refine g_iconst C dL_law_2280 (v := 0) rfl ?_
                  exact False.elim hw
            · have hw := hw.2 c2260
              refine g_iconst C dL_law_2263 (v := 0) rfl ?_
              exact False.elim hw
          · have hw := hw.2.2.2.2.2.2.2.2.2.2.2.2.2.2.2.2.2.2.2.2.2.2.2.2.2.2.2.2.2.1 c45
            refine g_tableIn C dL_law_45 (by rw [c45]; decide) (by rw [c45]; decide) (off := 2240) (by rw [c45]; rfl) (tgt := 2285) (by decide) ?_
            refine g_aload_n C dL_law_2285 1 rfl rfl ?_
            refine g_aload_n C dL_law_2286 0 rfl rfl ?_
            refine g_iload C (j := 0) dL_law_2287 5 rfl ?_
            refine g_iconst C dL_law_2289 (v := 1) rfl ?_
            refine g_iadd C dL_law_2290 ?_
            obtain ⟨hi_480, hw⟩ := hw
            refine g_sld C GS hi_480 dL_law_2291 ?_
            refine g_aload_n C dL_law_2292 3 rfl rfl ?_
            refine g_cS C dL_law_2293 (met_L_text C.st hw) (gc_L_text _ (Nat.le_of_ble_eq_true rfl) (Nat.le_of_ble_eq_true rfl)) (Or.inl tw976) tw977 rfl (Nat.le_of_ble_eq_true rfl) (c2 := c + 1) (s2 := s + 6) rfl rfl (by omega) (by omega) rfl (kI (fun r_481 M_482 hw => ?_)) tNo
            refine g_istore C dL_law_2296 (Nat.le_of_ble_eq_true rfl) (loc' := [(6, .int r_481), (0, .ref b), (1, gR E 1), (2, gR E 40), (3, gR E 60), (4, gR E 61), (5, .int x5_1)]) rfl ?_
            refine g_aload_n C dL_law_2298 3 rfl rfl ?_
            refine g_aload_n C dL_law_2299 1 rfl rfl ?_
            refine g_iload C (j := 0) dL_law_2300 6 rfl ?_
            refine g_iconst C dL_law_2302 (v := 1) rfl ?_
            refine g_iadd C dL_law_2303 ?_
            obtain ⟨hi_483, hw⟩ := hw
            refine g_sld C GS hi_483 dL_law_2304 ?_
            obtain ⟨hk_486, hw⟩ := hw
            refine g_cV C dL_law_2305 (met_X6_text C.st hw) (gc_X6_text _ (Nat.le_of_ble_eq_true rfl) (Nat.le_of_ble_eq_true rfl)) tw1446 tw1447 tw1448 (ci := 6) rfl (by decide) hk_486 rfl (Nat.le_of_ble_eq_true rfl) (c2 := c + 1) (s2 := s + 6) rfl rfl (by omega) (by omega) rfl (kI (fun r_484 M_485 hw => ?_)) tNo
            refine g_istore C dL_law_2308 (Nat.le_of_ble_eq_true rfl) (loc' := [(7, .int r_484), (6, .int r_481), (0, .ref b), (1, gR E 1), (2, gR E 40), (3, gR E 60), (4, gR E 61), (5, .int x5_1)]) rfl ?_
            refine g_aload_n C dL_law_2310 4 rfl rfl ?_
            refine g_cV C dL_law_2311 (met_X6_thrown C.st hw) (gc_X6_thrown _ (Nat.le_of_ble_eq_true rfl) (Nat.le_of_ble_eq_true rfl)) tw1120 tw1121 tw1122 (ci := 6) rfl (by decide) hk_486 rfl (Nat.le_of_ble_eq_true rfl) (c2 := c + 1) (s2 := s + 6) rfl rfl (by omega) (by omega) rfl (kIp (fun r_487 hw => ?_)) tNo
            refine g_iload C (j := 0) dL_law_2314 1 rfl ?_
            refine g_icmp_eq C dL_law_2316 (tgt := 2321) (by decide) (fun c2316 => ?_) (fun c2316 => ?_)
            · have hw := hw.1 c2316
              refine g_iload C (j := 0) dL_law_2321 1 rfl ?_
              refine g_if_ne C dL_law_2323 (tgt := 2338) (by decide) (fun c2323 => ?_) (fun c2323 => ?_)
              · have hw := hw.1 c2323
                refine g_goto C dL_law_2338 (tgt := 2442) (by decide) ?_
                obtain ⟨x5_489, ex5_489⟩ : ∃ y : Int32, y = x5_1 + 6 := ⟨_, rfl⟩
                have hw := hw x5_489 ex5_489
                refine g_iinc C (j := 0) dL_law_2442 7 rfl (v := x5_489) (by rw [ex5_489]; rfl) (Nat.le_of_ble_eq_true rfl) (loc' := [(5, .int x5_489), (7, .int r_484), (6, .int r_481), (0, .ref b), (1, gR E 1), (2, gR E 40), (3, gR E 60), (4, gR E 61)]) rfl ?_
                refine g_goto C dL_law_2445 (tgt := 28) (by decide) ?_
                refine g_sub [3, 4, 5, 6, 7, 0] rfl ?_
                exact ih28 _ _ _ _ (by omega) (by omega) hw
              · have hw := hw.2 c2323
                refine g_aload_n C dL_law_2326 5 rfl rfl ?_
                refine g_iconst C dL_law_2327 (v := 0) rfl ?_
                obtain ⟨hk_490, hw⟩ := hw
                refine g_laload C hk_490 (i := 0) (vp_lit rfl) dL_law_2328 ?_
                refine g_iload C (j := 0) dL_law_2329 0 rfl ?_
                refine g_i2l C dL_law_2331 ?_
                refine g_lc_eq C dL_law_2332 dL_law_2333 (tgt := 2338) (by decide) (fun c2333 => ?_) (fun c2333 => ?_)
                · have hw := hw.1 c2333
                  refine g_goto C dL_law_2338 (tgt := 2442) (by decide) ?_
                  obtain ⟨x5_491, ex5_491⟩ : ∃ y : Int32, y = x5_1 + 6 := ⟨_, rfl⟩
                  have hw := hw x5_491 ex5_491
                  refine g_iinc C (j := 0) dL_law_2442 7 rfl (v := x5_491) (by rw [ex5_491]; rfl) (Nat.le_of_ble_eq_true rfl) (loc' := [(5, .int x5_491), (7, .int r_484), (6, .int r_481), (0, .ref b), (1, gR E 1), (2, gR E 40), (3, gR E 60), (4, gR E 61)]) rfl ?_
                  refine g_goto C dL_law_2445 (tgt := 28) (by decide) ?_
                  refine g_sub [3, 4, 5, 6, 7, 0] rfl ?_
                  exact ih28 _ _ _ _ (by omega) (by omega) hw
                · have hw := hw.2 c2333
                  refine g_iconst C dL_law_2336 (v := 0) rfl ?_
                  exact False.elim hw
            · have hw := hw.2 c2316
              refine g_iconst C dL_law_2319 (v := 0) rfl ?_
              exact False.elim hw
          · have hw := hw.2.2.2.2.2.2.2.2.2.2.2.2.2.2.2.2.2.2.2.2.2.2.2.2.2.2.2.2.2.2.1 c45
            refine g_tableIn C dL_law_45 (by rw [c45]; decide) (by rw [c45]; decide) (off := 2296) (by rw [c45]; rfl) (tgt := 2341) (by decide) ?_
            refine g_aload_n C dL_law_2341 1 rfl rfl ?_
            refine g_aload_n C dL_law_2342 3 rfl rfl ?_
            refine g_cS C dL_law_2343 (met_L_undo C.st hw) (gc_L_undo _ (Nat.le_of_ble_eq_true rfl) (Nat.le_of_ble_eq_true rfl)) (Or.inl tw985) tw986 rfl (Nat.le_of_ble_eq_true rfl) (c2 := c + 1) (s2 := s + 6) rfl rfl (by omega) (by omega) rfl (kI (fun r_492 M_493 hw => ?_)) tNo
            refine g_istore C dL_law_2346 (Nat.le_of_ble_eq_true rfl) (loc' := [(6, .int r_492), (0, .ref b), (1, gR E 1), (2, gR E 40), (3, gR E 60), (4, gR E 61), (5, .int x5_1)]) rfl ?_
            refine g_aload_n C dL_law_2348 3 rfl rfl ?_
            obtain ⟨hk_496, hw⟩ := hw
            refine g_cV C dL_law_2349 (met_X6_undo C.st hw) (gc_X6_undo _ (Nat.le_of_ble_eq_true rfl) (Nat.le_of_ble_eq_true rfl)) tw1450 tw1451 tw1452 (ci := 6) rfl (by decide) hk_496 rfl (Nat.le_of_ble_eq_true rfl) (c2 := c + 1) (s2 := s + 6) rfl rfl (by omega) (by omega) rfl (kI (fun r_494 M_495 hw => ?_)) tNo
            refine g_istore C dL_law_2352 (Nat.le_of_ble_eq_true rfl) (loc' := [(7, .int r_494), (6, .int r_492), (0, .ref b), (1, gR E 1), (2, gR E 40), (3, gR E 60), (4, gR E 61), (5, .int x5_1)]) rfl ?_
            refine g_aload_n C dL_law_2354 4 rfl rfl ?_
            refine g_cV C dL_law_2355 (met_X6_thrown C.st hw) (gc_X6_thrown _ (Nat.le_of_ble_eq_true rfl) (Nat.le_of_ble_eq_true rfl)) tw1120 tw1121 tw1122 (ci := 6) rfl (by decide) hk_496 rfl (Nat.le_of_ble_eq_true rfl) (c2 := c + 1) (s2 := s + 6) rfl rfl (by omega) (by omega) rfl (kIp (fun r_497 hw => ?_)) tNo
            refine g_iload C (j := 0) dL_law_2358 1 rfl ?_
            refine g_icmp_eq C dL_law_2360 (tgt := 2365) (by decide) (fun c2360 => ?_) (fun c2360 => ?_)
            · have hw := hw.1 c2360
              refine g_iload C (j := 0) dL_law_2365 1 rfl ?_
              refine g_if_ne C dL_law_2367 (tgt := 2382) (by decide) (fun c2367 => ?_) (fun c2367 => ?_)
              · have hw := hw.1 c2367
                refine g_goto C dL_law_2382 (tgt := 2442) (by decide) ?_
                obtain ⟨x5_499, ex5_499⟩ : ∃ y : Int32, y = x5_1 + 6 := ⟨_, rfl⟩
                have hw := hw x5_499 ex5_499
                refine g_iinc C (j := 0) dL_law_2442 7 rfl (v := x5_499) (by rw [ex5_499]; rfl) (Nat.le_of_ble_eq_true rfl) (loc' := [(5, .int x5_499), (7, .int r_494), (6, .int r_492), (0, .ref b), (1, gR E 1), (2, gR E 40), (3, gR E 60), (4, gR E 61)]) rfl ?_
                refine g_goto C dL_law_2445 (tgt := 28) (by decide) ?_
                refine g_sub [3, 4, 5, 6, 7, 0] rfl ?_
                exact ih28 _ _ _ _ (by omega) (by omega) hw
              · have hw := hw.2 c2367
                refine g_aload_n C dL_law_2370 5 rfl rfl ?_
                refine g_iconst C dL_law_2371 (v := 0) rfl ?_
                obtain ⟨hk_500, hw⟩ := hw
                refine g_laload C hk_500 (i := 0) (vp_lit rfl) dL_law_2372 ?_
                refine g_iload C (j := 0) dL_law_2373 0 rfl ?_
                refine g_i2l C dL_law_2375 ?_
                refine g_lc_eq C dL_law_2376 dL_law_2377 (tgt := 2382) (by decide) (fun c2377 => ?_) (fun c2377 => ?_)
                · have hw := hw.1 c2377
                  refine g_goto C dL_law_2382 (tgt := 2442) (by decide) ?_
                  obtain ⟨x5_501, ex5_501⟩ : ∃ y : Int32, y = x5_1 + 6 := ⟨_, rfl⟩
                  have hw := hw x5_501 ex5_501
                  refine g_iinc C (j := 0) dL_law_2442 7 rfl (v := x5_501) (by rw [ex5_501]; rfl) (Nat.le_of_ble_eq_true rfl) (loc' := [(5, .int x5_501), (7, .int r_494), (6, .int r_492), (0, .ref b), (1, gR E 1), (2, gR E 40), (3, gR E 60), (4, gR E 61)]) rfl ?_
                  refine g_goto C dL_law_2445 (tgt := 28) (by decide) ?_
                  refine g_sub [3, 4, 5, 6, 7, 0] rfl ?_
                  exact ih28 _ _ _ _ (by omega) (by omega) hw
                · have hw := hw.2 c2377
                  refine g_iconst C dL_law_2380 (v := 0) rfl ?_
                  exact False.elim hw
            · have hw := hw.2 c2360
              refine g_iconst C dL_law_2363 (v := 0) rfl ?_
              exact False.elim hw
          · have hw := hw.2.2.2.2.2.2.2.2.2.2.2.2.2.2.2.2.2.2.2.2.2.2.2.2.2.2.2.2.2.2.2.1 c45
            refine g_tableIn C dL_law_45 (by rw [c45]; decide) (by rw [c45]; decide) (off := 2340) (by rw [c45]; rfl) (tgt := 2385) (by decide) ?_
            refine g_aload_n C dL_law_2385 1 rfl rfl ?_
            obtain ⟨hk_504, hw⟩ := hw
            refine g_cV C dL_law_2386 (met_X5_save C.st hw) (gc_X5_save _ (Nat.le_of_ble_eq_true rfl) (Nat.le_of_ble_eq_true rfl)) tw204 tw205 tw206 (ci := 5) rfl (by decide) hk_504 rfl (Nat.le_of_ble_eq_true rfl) (c2 := c + 0) (s2 := s + 0) rfl rfl (by omega) (by omega) rfl (kI (fun r_502 M_503 hw => ?_)) tNo
            refine g_aload_n C dL_law_2389 2 rfl rfl ?_
            obtain ⟨hk_507, hw⟩ := hw
            refine g_cV C dL_law_2390 (met_X6_save C.st hw) (gc_X6_save _ (Nat.le_of_ble_eq_true rfl) (Nat.le_of_ble_eq_true rfl)) tw1454 tw1455 tw1456 (ci := 6) rfl (by decide) hk_507 rfl (Nat.le_of_ble_eq_true rfl) (c2 := c + 0) (s2 := s + 0) rfl rfl (by omega) (by omega) rfl (kI (fun r_505 M_506 hw => ?_)) tNo
            refine g_icmp_eq C dL_law_2393 (tgt := 2442) (by decide) (fun c2393 => ?_) (fun c2393 => ?_)
            · have hw := hw.1 c2393
              obtain ⟨x5_508, ex5_508⟩ : ∃ y : Int32, y = x5_1 + 6 := ⟨_, rfl⟩
              have hw := hw x5_508 ex5_508
              refine g_iinc C (j := 0) dL_law_2442 5 rfl (v := x5_508) (by rw [ex5_508]; rfl) (Nat.le_of_ble_eq_true rfl) (loc' := [(5, .int x5_508), (0, .ref b), (1, gR E 1), (2, gR E 40), (3, gR E 60), (4, gR E 61)]) rfl ?_
              refine g_goto C dL_law_2445 (tgt := 28) (by decide) ?_
              refine g_sub [1, 2, 3, 4, 5, 0] rfl ?_
              exact ih28 _ _ _ _ (by omega) (by omega) hw
            · have hw := hw.2 c2393
              refine g_iconst C dL_law_2396 (v := 0) rfl ?_
              exact False.elim hw
          · have hw := hw.2.2.2.2.2.2.2.2.2.2.2.2.2.2.2.2.2.2.2.2.2.2.2.2.2.2.2.2.2.2.2.2 c45
            refine g_tableIn C dL_law_45 (by rw [c45]; decide) (by rw [c45]; decide) (off := 2353) (by rw [c45]; rfl) (tgt := 2398) (by decide) ?_
            refine g_aload_n C dL_law_2398 1 rfl rfl ?_
            refine g_aload_n C dL_law_2399 3 rfl rfl ?_
            refine g_cS C dL_law_2400 (met_L_restore C.st hw) (gc_L_restore _ (Nat.le_of_ble_eq_true rfl) (Nat.le_of_ble_eq_true rfl)) (Or.inl tw1014) tw1015 rfl (Nat.le_of_ble_eq_true rfl) (c2 := c + 1) (s2 := s + 6) rfl rfl (by omega) (by omega) rfl (kI (fun r_509 M_510 hw => ?_)) tNo
            refine g_istore C dL_law_2403 (Nat.le_of_ble_eq_true rfl) (loc' := [(6, .int r_509), (0, .ref b), (1, gR E 1), (2, gR E 40), (3, gR E 60), (4, gR E 61), (5, .int x5_1)]) rfl ?_
            refine g_aload_n C dL_law_2405 3 rfl rfl ?_
            obtain ⟨hk_513, hw⟩ := hw
            refine g_cV C dL_law_2406 (met_X6_restore C.st hw) (gc_X6_restore _ (Nat.le_of_ble_eq_true rfl) (Nat.le_of_ble_eq_true rfl)) tw1462 tw1463 tw1464 (ci := 6) rfl (by decide) hk_513 rfl (Nat.le_of_ble_eq_true rfl) (c2 := c + 1) (s2 := s + 6) rfl rfl (by omega) (by omega) rfl (kI (fun r_511 M_512 hw => ?_)) tNo
            refine g_istore C dL_law_2409 (Nat.le_of_ble_eq_true rfl) (loc' := [(7, .int r_511), (6, .int r_509), (0, .ref b), (1, gR E 1), (2, gR E 40), (3, gR E 60), (4, gR E 61), (5, .int x5_1)]) rfl ?_
            refine g_aload_n C dL_law_2411 4 rfl rfl ?_
            refine g_cV C dL_law_2412 (met_X6_thrown C.st hw) (gc_X6_thrown _ (Nat.le_of_ble_eq_true rfl) (Nat.le_of_ble_eq_true rfl)) tw1120 tw1121 tw1122 (ci := 6) rfl (by decide) hk_513 rfl (Nat.le_of_ble_eq_true rfl) (c2 := c + 1) (s2 := s + 6) rfl rfl (by omega) (by omega) rfl (kIp (fun r_514 hw => ?_)) tNo
            refine g_iload C (j := 0) dL_law_2415 1 rfl ?_
            refine g_icmp_eq C dL_law_2417 (tgt := 2422) (by decide) (fun c2417 => ?_) (fun c2417 => ?_)
            · have hw := hw.1 c2417
              refine g_iload C (j := 0) dL_law_2422 1 rfl ?_
              refine g_if_ne C dL_law_2424 (tgt := 2439) (by decide) (fun c2424 => ?_) (fun c2424 => ?_)
              · have hw := hw.1 c2424
                refine g_goto C dL_law_2439 (tgt := 2442) (by decide) ?_
                obtain ⟨x5_516, ex5_516⟩ : ∃ y : Int32, y = x5_1 + 6 := ⟨_, rfl⟩
                have hw := hw x5_516 ex5_516
                refine g_iinc C (j := 0) dL_law_2442 7 rfl (v := x5_516) (by rw [ex5_516]; rfl) (Nat.le_of_ble_eq_true rfl) (loc' := [(5, .int x5_516), (7, .int r_511), (6, .int r_509), (0, .ref b), (1, gR E 1), (2, gR E 40), (3, gR E 60), (4, gR E 61)]) rfl ?_
                refine g_goto C dL_law_2445 (tgt := 28) (by decide) ?_
                refine g_sub [3, 4, 5, 6, 7, 0] rfl ?_
                exact ih28 _ _ _ _ (by omega) (by omega) hw
              · have hw := hw.2 c2424
                refine g_aload_n C dL_law_2427 5 rfl rfl ?_
                refine g_iconst C dL_law_2428 (v := 0) rfl ?_
                obtain ⟨hk_517, hw⟩ := hw
                refine g_laload C hk_517 (i := 0) (vp_lit rfl) dL_law_2429 ?_
                refine g_iload C (j := 0) dL_law_2430 0 rfl ?_
                refine g_i2l C dL_law_2432 ?_
                refine g_lc_eq C dL_law_2433 dL_law_2434 (tgt := 2439) (by decide) (fun c2434 => ?_) (fun c2434 => ?_)
                · have hw := hw.1 c2434
                  refine g_goto C dL_law_2439 (tgt := 2442) (by decide) ?_
                  obtain ⟨x5_518, ex5_518⟩ : ∃ y : Int32, y = x5_1 + 6 := ⟨_, rfl⟩
                  have hw := hw x5_518 ex5_518
                  refine g_iinc C (j := 0) dL_law_2442 7 rfl (v := x5_518) (by rw [ex5_518]; rfl) (Nat.le_of_ble_eq_true rfl) (loc' := [(5, .int x5_518), (7, .int r_511), (6, .int r_509), (0, .ref b), (1, gR E 1), (2, gR E 40), (3, gR E 60), (4, gR E 61)]) rfl ?_
                  refine g_goto C dL_law_2445 (tgt := 28) (by decide) ?_
                  refine g_sub [3, 4, 5, 6, 7, 0] rfl ?_
                  exact ih28 _ _ _ _ (by omega) (by omega) hw
                · have hw := hw.2 c2434
                  refine g_iconst C dL_law_2437 (v := 0) rfl ?_
                  exact False.elim hw
            · have hw := hw.2 c2417
              refine g_iconst C dL_law_2420 (v := 0) rfl ?_
              exact False.elim hw
  exact hL28 n x5 M c s hc hs hw
