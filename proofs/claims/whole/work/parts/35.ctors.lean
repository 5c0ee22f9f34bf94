-- THE CONSTRUCTORS
theorem gE0_I {E : MK} {A : AS} {i n : Nat} (h : KD i = (0, n)) : gE0 E A i = .inl (E.2.1 0, n, .inl (fun _ => 0)) := by
  unfold gE0
  rw [h]; rfl
theorem gE0_C {E : MK} {A : AS} {i n : Nat} (h : KD i = (1, n)) : gE0 E A i = .inl (E.2.1 1, n, .inl (fun _ => 0)) := by
  unfold gE0
  rw [h]; rfl
theorem gE0_L {E : MK} {A : AS} {i n : Nat} (h : KD i = (2, n)) : gE0 E A i = .inl (E.2.1 2, n, .inr (.inl (fun _ => 0))) := by
  unfold gE0
  rw [h]; rfl
theorem gE0_D {E : MK} {A : AS} {i n : Nat} (h : KD i = (3, n)) : gE0 E A i = .inl (E.2.1 3, n, .inr (.inr (.inr (.inl (fun _ => 0))))) := by
  unfold gE0
  rw [h]; rfl
theorem df0 {E : MK} {A : AS} {i : Nat} (h : ∀ k, (i, k) ∉ A) : ∀ j, j < 5 → defaultValue (tyX0 j) = vp_V (gF0 E A i 0) j := by
  have h1 : ∀ k, rv0 E A i k = .null := fun k => if_neg (h k)
  have h2 : rvo E A i = .null := if_neg (h 0)
  intro j hj
  unfold gF0
  simp only [h1, h2]
  rcases (show j = 0 ∨ j = 1 ∨ j = 2 ∨ j = 3 ∨ j = 4 by omega) with rfl | rfl | rfl | rfl | rfl <;> rfl
theorem df1 {E : MK} {A : AS} {i : Nat} (h : ∀ k, (i, k) ∉ A) : ∀ j, j < 2 → defaultValue (tyX1 j) = vp_V (gF0 E A i 1) j := by
  have h1 : ∀ k, rv0 E A i k = .null := fun k => if_neg (h k)
  have h2 : rvo E A i = .null := if_neg (h 0)
  intro j hj
  unfold gF0
  simp only [h1, h2]
  rcases (show j = 0 ∨ j = 1 by omega) with rfl | rfl <;> rfl
theorem df2 {E : MK} {A : AS} {i : Nat} (h : ∀ k, (i, k) ∉ A) : ∀ j, j < 3 → defaultValue (tyX2 j) = vp_V (gF0 E A i 2) j := by
  have h1 : ∀ k, rv0 E A i k = .null := fun k => if_neg (h k)
  have h2 : rvo E A i = .null := if_neg (h 0)
  intro j hj
  unfold gF0
  simp only [h1, h2]
  rcases (show j = 0 ∨ j = 1 ∨ j = 2 by omega) with rfl | rfl | rfl <;> rfl
theorem df3 {E : MK} {A : AS} {i : Nat} (h : ∀ k, (i, k) ∉ A) : ∀ j, j < 9 → defaultValue (tyX3 j) = vp_V (gF0 E A i 3) j := by
  have h1 : ∀ k, rv0 E A i k = .null := fun k => if_neg (h k)
  have h2 : rvo E A i = .null := if_neg (h 0)
  intro j hj
  unfold gF0
  simp only [h1, h2]
  rcases (show j = 0 ∨ j = 1 ∨ j = 2 ∨ j = 3 ∨ j = 4 ∨ j = 5 ∨ j = 6 ∨ j = 7 ∨ j = 8 by omega) with rfl | rfl | rfl | rfl | rfl | rfl | rfl | rfl | rfl <;> rfl
theorem df4 {E : MK} {A : AS} {i : Nat} (h : ∀ k, (i, k) ∉ A) : ∀ j, j < 8 → defaultValue (tyX4 j) = vp_V (gF0 E A i 4) j := by
  have h1 : ∀ k, rv0 E A i k = .null := fun k => if_neg (h k)
  have h2 : rvo E A i = .null := if_neg (h 0)
  intro j hj
  unfold gF0
  simp only [h1, h2]
  rcases (show j = 0 ∨ j = 1 ∨ j = 2 ∨ j = 3 ∨ j = 4 ∨ j = 5 ∨ j = 6 ∨ j = 7 by omega) with rfl | rfl | rfl | rfl | rfl | rfl | rfl | rfl <;> rfl
theorem df5 {E : MK} {A : AS} {i : Nat} (h : ∀ k, (i, k) ∉ A) : ∀ j, j < 14 → defaultValue (tyX5 j) = vp_V (gF0 E A i 5) j := by
  have h1 : ∀ k, rv0 E A i k = .null := fun k => if_neg (h k)
  have h2 : rvo E A i = .null := if_neg (h 0)
  intro j hj
  unfold gF0
  simp only [h1, h2]
  rcases (show j = 0 ∨ j = 1 ∨ j = 2 ∨ j = 3 ∨ j = 4 ∨ j = 5 ∨ j = 6 ∨ j = 7 ∨ j = 8 ∨ j = 9 ∨ j = 10 ∨ j = 11 ∨ j = 12 ∨ j = 13 by omega) with rfl | rfl | rfl | rfl | rfl | rfl | rfl | rfl | rfl | rfl | rfl | rfl | rfl | rfl <;> rfl
theorem df6 {E : MK} {A : AS} {i : Nat} (h : ∀ k, (i, k) ∉ A) : ∀ j, j < 29 → defaultValue (tyX6 j) = vp_V (gF0 E A i 6) j := by
  have h1 : ∀ k, rv0 E A i k = .null := fun k => if_neg (h k)
  have h2 : rvo E A i = .null := if_neg (h 0)
  intro j hj
  unfold gF0
  simp only [h1, h2]
  rcases (show j = 0 ∨ j = 1 ∨ j = 2 ∨ j = 3 ∨ j = 4 ∨ j = 5 ∨ j = 6 ∨ j = 7 ∨ j = 8 ∨ j = 9 ∨ j = 10 ∨ j = 11 ∨ j = 12 ∨ j = 13 ∨ j = 14 ∨ j = 15 ∨ j = 16 ∨ j = 17 ∨ j = 18 ∨ j = 19 ∨ j = 20 ∨ j = 21 ∨ j = 22 ∨ j = 23 ∨ j = 24 ∨ j = 25 ∨ j = 26 ∨ j = 27 ∨ j = 28 by omega) with rfl | rfl | rfl | rfl | rfl | rfl | rfl | rfl | rfl | rfl | rfl | rfl | rfl | rfl | rfl | rfl | rfl | rfl | rfl | rfl | rfl | rfl | rfl | rfl | rfl | rfl | rfl | rfl | rfl <;> rfl
abbrev rmX4i : Room := { frames := 1, cells := 2, slots := 304, locals := 14 }
set_option maxRecDepth 100000 in
set_option maxHeartbeats 8000000 in
theorem hm_X4 {l : Launch} {E : MK} {A : AS} {h n p : Nat} (hk : KD h = (14, 0)) (hp : ORD[p]? = some h) (hpn : p < n) (h6 : ORD[n]? = some (RF h 6)) (h7 : ORD[n + 1]? = some (RF h 7)) (k6 : KD (RF h 6) = (0, 4)) (k7 : KD (RF h 7) = (0, 300)) : hMet l E yX4_init rmX4i [gR E h] A n ((h, 7) :: (h, 6) :: A) (n + 2) := by
  refine h_met (cc := cX4_init) (maxL := 1) (loc := [(0, gR E h)]) (by decide +kernel) rfl tw34 (Nat.le_of_ble_eq_true rfl) rfl (fun K hK hnm C => ?_)
  have C : GC0 K E cX4_init RX4 1 none rmX4i := C
  refine h_aload_n C dX4_init_0 0 rfl rfl ?_
  refine h_objInit C tw35 tw27 tw28 dX4_init_1 (Nat.le_of_ble_eq_true rfl) (Nat.le_of_ble_eq_true rfl) ?_
  refine h_aload_n C dX4_init_4 0 rfl rfl ?_
  refine h_iconst C dX4_init_5 (v := 4) rfl ?_
  refine h_newarr C (at0 := .int) (t0 := 0) (len := 4) (i := (RF h 6)) tw66 rfl (fun C9 h9 => by cases h9) h6 (gE0_I k6) (fun _ => rfl) (by decide) (by decide) (by decide) dX4_init_6 (Nat.le_of_ble_eq_true rfl) (Nat.le_of_ble_eq_true rfl) ?_
  refine h_putF C hnm (ci := 4) (T := TX4) (N := 8) (k := 6) (ty := tyX4 6) (ty0 := tyX4) (a := h) rfl inX4 tyX4_ok nmX4 (by decide) tw47 rfl rfl rfl (fun _ => rfl) (fun _ => rfl) hp (by omega) hk (Nat.le_of_ble_eq_true rfl) (by simp [gF0, rv0, rvo]) dX4_init_8 ?_
  refine h_aload_n C dX4_init_11 0 rfl rfl ?_
  refine h_sipush C dX4_init_12 (v := 300) rfl ?_
  refine h_newarr C (at0 := .int) (t0 := 0) (len := 300) (i := (RF h 7)) tw66 rfl (fun C9 h9 => by cases h9) h7 (gE0_I k7) (fun _ => rfl) (by decide) (by decide) (by decide) dX4_init_15 (Nat.le_of_ble_eq_true rfl) (Nat.le_of_ble_eq_true rfl) ?_
  refine h_putF C hnm (ci := 4) (T := TX4) (N := 8) (k := 7) (ty := tyX4 7) (ty0 := tyX4) (a := h) rfl inX4 tyX4_ok nmX4 (by decide) tw48 rfl rfl rfl (fun _ => rfl) (fun _ => rfl) hp (by omega) hk (Nat.le_of_ble_eq_true rfl) (by simp [gF0, rv0, rvo]) dX4_init_17 ?_
  exact h_ret C dX4_init_20 (Nat.le_of_ble_eq_true rfl) (Nat.le_of_ble_eq_true rfl)
abbrev rmX1i : Room := { frames := 1, cells := 1, slots := 2048, locals := 15 }
set_option maxRecDepth 100000 in
set_option maxHeartbeats 8000000 in
theorem hm_X1 {l : Launch} {E : MK} {A : AS} {i n p len : Nat} {z : Int32} (hk : KD i = (11, 0)) (hp : ORD[p]? = some i) (hpn : p < n) (h0 : ORD[n]? = some (RF i 0)) (k0 : KD (RF i 0) = (1, len)) (hz : (if z < 0 then 0 else z) = z) (hz0 : ¬ z < 0) (hzN : z.toNatClampNeg = len) (hzb : len * componentBytes .char ≤ 536870912) (hzs : 0 + len ≤ 2048) : hMet l E yX1_init rmX1i [gR E i, .int z] A n ((i, 0) :: A) (n + 1) := by
  refine h_met (cc := cX1_init) (maxL := 2) (loc := [(0, gR E i), (1, .int z)]) (by decide +kernel) rfl tw132 (Nat.le_of_ble_eq_true rfl) rfl (fun K hK hnm C => ?_)
  have C : GC0 K E cX1_init RX1 2 none rmX1i := C
  refine h_aload_n C dX1_init_0 0 rfl rfl ?_
  refine h_objInit C tw133 tw27 tw28 dX1_init_1 (Nat.le_of_ble_eq_true rfl) (Nat.le_of_ble_eq_true rfl) ?_
  refine h_aload_n C dX1_init_4 0 rfl rfl ?_
  refine h_iload_n C dX1_init_5 1 rfl rfl ?_
  refine h_iconst C dX1_init_6 (v := 0) rfl ?_
  refine h_max C (v := z) hz dX1_init_7 tw134 tw135 tw6 tw136 (Nat.le_of_ble_eq_true rfl) (Nat.le_of_ble_eq_true rfl) (Nat.le_of_ble_eq_true rfl) (Nat.le_of_ble_eq_true rfl) ?_
  refine h_newarr C (at0 := .char) (t0 := 1) (len := len) (i := (RF i 0)) tw144 rfl (fun C9 h9 => by cases h9) h0 (gE0_C k0) (fun _ => rfl) hz0 hzN hzb dX1_init_10 (Nat.le_of_ble_eq_true rfl) hzs ?_
  refine h_putF C hnm (ci := 1) (T := TX1) (N := 2) (k := 0) (ty := tyX1 0) (ty0 := tyX1) (a := i) rfl inX1 tyX1_ok nmX1 (by decide) tw137 rfl rfl rfl (fun _ => rfl) (fun _ => rfl) hp (by omega) hk (Nat.le_of_ble_eq_true rfl) (by simp [gF0, rv0, rvo]) dX1_init_12 ?_
  exact h_ret C dX1_init_15 (Nat.le_of_ble_eq_true rfl) hzs
abbrev rmX2i : Room := { frames := 1, cells := 1, slots := 60, locals := 14 }
set_option maxRecDepth 100000 in
set_option maxHeartbeats 8000000 in
theorem hm_X2 {l : Launch} {E : MK} {A : AS} {i n p : Nat} (hk : KD i = (12, 0)) (hp : ORD[p]? = some i) (hpn : p < n) (h0 : ORD[n]? = some (RF i 0)) (k0 : KD (RF i 0) = (2, 60)) : hMet l E yX2_init rmX2i [gR E i] A n ((i, 0) :: A) (n + 1) := by
  refine h_met (cc := cX2_init) (maxL := 1) (loc := [(0, gR E i)]) (by decide +kernel) rfl tw149 (Nat.le_of_ble_eq_true rfl) rfl (fun K hK hnm C => ?_)
  have C : GC0 K E cX2_init RX2 1 none rmX2i := C
  refine h_aload_n C dX2_init_0 0 rfl rfl ?_
  refine h_objInit C tw150 tw27 tw28 dX2_init_1 (Nat.le_of_ble_eq_true rfl) (Nat.le_of_ble_eq_true rfl) ?_
  refine h_aload_n C dX2_init_4 0 rfl rfl ?_
  refine h_bipush C dX2_init_5 (v := 60) rfl ?_
  refine h_newarr C (at0 := .long) (t0 := 2) (len := 60) (i := (RF i 0)) tw127 rfl (fun C9 h9 => by cases h9) h0 (gE0_L k0) (fun _ => rfl) (by decide) (by decide) (by decide) dX2_init_7 (Nat.le_of_ble_eq_true rfl) (Nat.le_of_ble_eq_true rfl) ?_
  refine h_putF C hnm (ci := 2) (T := TX2) (N := 3) (k := 0) (ty := tyX2 0) (ty0 := tyX2) (a := i) rfl inX2 tyX2_ok nmX2 (by decide) tw151 rfl rfl rfl (fun _ => rfl) (fun _ => rfl) hp (by omega) hk (Nat.le_of_ble_eq_true rfl) (by simp [gF0, rv0, rvo]) dX2_init_9 ?_
  exact h_ret C dX2_init_12 (Nat.le_of_ble_eq_true rfl) (Nat.le_of_ble_eq_true rfl)
abbrev rmX3i : Room := { frames := 2, cells := 9, slots := 672, locals := 34 }
set_option maxRecDepth 100000 in
set_option maxHeartbeats 8000000 in
theorem hm_X3 {l : Launch} {E : MK} {A : AS} {s n p : Nat} (hk : KD s = (13, 0)) (hp : ORD[p]? = some s) (hpn : p < n) (hno : ∀ k, (mO M0 s, k) ∉ A) (kq : KD (mO M0 s) = (14, 0)) (kq6 : KD (RF (mO M0 s) 6) = (0, 4)) (kq7 : KD (RF (mO M0 s) 7) = (0, 300)) (h0 : ORD[n]? = some (mO M0 s)) (h1 : ORD[n + 1]? = some (RF (mO M0 s) 6)) (h2 : ORD[n + 2]? = some (RF (mO M0 s) 7)) (h3 : ORD[n + 3]? = some (RF s 3)) (h4 : ORD[n + 4]? = some (RF s 4)) (h5 : ORD[n + 5]? = some (RF s 5)) (h6 : ORD[n + 6]? = some (RF s 6)) (h7 : ORD[n + 7]? = some (RF s 7)) (h8 : ORD[n + 8]? = some (RF s 8)) (k3 : KD (RF s 3) = (2, 60)) (k4 : KD (RF s 4) = (0, 60)) (k5 : KD (RF s 5) = (0, 60)) (k6 : KD (RF s 6) = (0, 60)) (k7 : KD (RF s 7) = (0, 60)) (k8 : KD (RF s 8) = (0, 60)) : hMet l E yX3_init rmX3i [gR E s] A n ((s, 8) :: (s, 7) :: (s, 6) :: (s, 5) :: (s, 4) :: (s, 3) :: (s, 0) :: ((mO M0 s), 7) :: ((mO M0 s), 6) :: A) (n + 9) := by
  refine h_met (cc := cX3_init) (maxL := 1) (loc := [(0, gR E s)]) (by decide +kernel) rfl tw95 (Nat.le_of_ble_eq_true rfl) rfl (fun K hK hnm C => ?_)
  have C : GC0 K E cX3_init RX3 1 none rmX3i := C
  refine h_aload_n C dX3_init_0 0 rfl rfl ?_
  refine h_objInit C tw96 tw27 tw28 dX3_init_1 (Nat.le_of_ble_eq_true rfl) (Nat.le_of_ble_eq_true rfl) ?_
  refine h_aload_n C dX3_init_4 0 rfl rfl ?_
  refine h_new C (ci := 4) (T := TX4) (N := 8) (ty := tyX4) (i := (mO M0 s)) rfl inX4 tyX4_ok tw97 tw31 tw2 h0 kq (df4 hno) dX3_init_5 (Nat.le_of_ble_eq_true rfl) (Nat.le_of_ble_eq_true rfl) ?_
  refine h_dup C dX3_init_8 rfl ?_
  refine h_call C dX3_init_9 (hm_X4 (p := n) kq h0 (by omega) h1 h2 kq6 kq7) tw34 tw2 tw33 rfl ⟨by decide, by decide, by decide⟩ (Or.inr ⟨_, List.mem_of_getElem? (i := 3) rfl⟩) rfl (Nat.le_of_ble_eq_true rfl) ⟨(Nat.le_of_ble_eq_true rfl), (Nat.le_of_ble_eq_true rfl)⟩ (c2 := 3) (s2 := 312) rfl rfl (Nat.le_of_ble_eq_true rfl) (Nat.le_of_ble_eq_true rfl) rfl ?_
  refine h_putO C (a := s) tw99 hp (by omega) hk dX3_init_12 ?_
  refine h_aload_n C dX3_init_15 0 rfl rfl ?_
  refine h_bipush C dX3_init_16 (v := 60) rfl ?_
  refine h_newarr C (at0 := .long) (t0 := 2) (len := 60) (i := (RF s 3)) tw127 rfl (fun C9 h9 => by cases h9) h3 (gE0_L k3) (fun _ => rfl) (by decide) (by decide) (by decide) dX3_init_18 (Nat.le_of_ble_eq_true rfl) (Nat.le_of_ble_eq_true rfl) ?_
  refine h_putF C hnm (ci := 3) (T := TX3) (N := 9) (k := 3) (ty := tyX3 3) (ty0 := tyX3) (a := s) rfl inX3 tyX3_ok nmX3 (by decide) tw102 rfl rfl rfl (fun _ => rfl) (fun _ => rfl) hp (by omega) hk (Nat.le_of_ble_eq_true rfl) (by simp [gF0, rv0, rvo]) dX3_init_20 ?_
  refine h_aload_n C dX3_init_23 0 rfl rfl ?_
  refine h_bipush C dX3_init_24 (v := 60) rfl ?_
  refine h_newarr C (at0 := .int) (t0 := 0) (len := 60) (i := (RF s 4)) tw66 rfl (fun C9 h9 => by cases h9) h4 (gE0_I k4) (fun _ => rfl) (by decide) (by decide) (by decide) dX3_init_26 (Nat.le_of_ble_eq_true rfl) (Nat.le_of_ble_eq_true rfl) ?_
  refine h_putF C hnm (ci := 3) (T := TX3) (N := 9) (k := 4) (ty := tyX3 4) (ty0 := tyX3) (a := s) rfl inX3 tyX3_ok nmX3 (by decide) tw103 rfl rfl rfl (fun _ => rfl) (fun _ => rfl) hp (by omega) hk (Nat.le_of_ble_eq_true rfl) (by simp [gF0, rv0, rvo]) dX3_init_28 ?_
  refine h_aload_n C dX3_init_31 0 rfl rfl ?_
  refine h_bipush C dX3_init_32 (v := 60) rfl ?_
  refine h_newarr C (at0 := .int) (t0 := 0) (len := 60) (i := (RF s 5)) tw66 rfl (fun C9 h9 => by cases h9) h5 (gE0_I k5) (fun _ => rfl) (by decide) (by decide) (by decide) dX3_init_34 (Nat.le_of_ble_eq_true rfl) (Nat.le_of_ble_eq_true rfl) ?_
  refine h_putF C hnm (ci := 3) (T := TX3) (N := 9) (k := 5) (ty := tyX3 5) (ty0 := tyX3) (a := s) rfl inX3 tyX3_ok nmX3 (by decide) tw104 rfl rfl rfl (fun _ => rfl) (fun _ => rfl) hp (by omega) hk (Nat.le_of_ble_eq_true rfl) (by simp [gF0, rv0, rvo]) dX3_init_36 ?_
  refine h_aload_n C dX3_init_39 0 rfl rfl ?_
  refine h_bipush C dX3_init_40 (v := 60) rfl ?_
  refine h_newarr C (at0 := .int) (t0 := 0) (len := 60) (i := (RF s 6)) tw66 rfl (fun C9 h9 => by cases h9) h6 (gE0_I k6) (fun _ => rfl) (by decide) (by decide) (by decide) dX3_init_42 (Nat.le_of_ble_eq_true rfl) (Nat.le_of_ble_eq_true rfl) ?_
  refine h_putF C hnm (ci := 3) (T := TX3) (N := 9) (k := 6) (ty := tyX3 6) (ty0 := tyX3) (a := s) rfl inX3 tyX3_ok nmX3 (by decide) tw105 rfl rfl rfl (fun _ => rfl) (fun _ => rfl) hp (by omega) hk (Nat.le_of_ble_eq_true rfl) (by simp [gF0, rv0, rvo]) dX3_init_44 ?_
  refine h_aload_n C dX3_init_47 0 rfl rfl ?_
  refine h_bipush C dX3_init_48 (v := 60) rfl ?_
  refine h_newarr C (at0 := .int) (t0 := 0) (len := 60) (i := (RF s 7)) tw66 rfl (fun C9 h9 => by cases h9) h7 (gE0_I k7) (fun _ => rfl) (by decide) (by decide) (by decide) dX3_init_50 (Nat.le_of_ble_eq_true rfl) (Nat.le_of_ble_eq_true rfl) ?_
  refine h_putF C hnm (ci := 3) (T := TX3) (N := 9) (k := 7) (ty := tyX3 7) (ty0 := tyX3) (a := s) rfl inX3 tyX3_ok nmX3 (by decide) tw106 rfl rfl rfl (fun _ => rfl) (fun _ => rfl) hp (by omega) hk (Nat.le_of_ble_eq_true rfl) (by simp [gF0, rv0, rvo]) dX3_init_52 ?_
  refine h_aload_n C dX3_init_55 0 rfl rfl ?_
  refine h_bipush C dX3_init_56 (v := 60) rfl ?_
  refine h_newarr C (at0 := .int) (t0 := 0) (len := 60) (i := (RF s 8)) tw66 rfl (fun C9 h9 => by cases h9) h8 (gE0_I k8) (fun _ => rfl) (by decide) (by decide) (by decide) dX3_init_58 (Nat.le_of_ble_eq_true rfl) (Nat.le_of_ble_eq_true rfl) ?_
  refine h_putF C hnm (ci := 3) (T := TX3) (N := 9) (k := 8) (ty := tyX3 8) (ty0 := tyX3) (a := s) rfl inX3 tyX3_ok nmX3 (by decide) tw107 rfl rfl rfl (fun _ => rfl) (fun _ => rfl) hp (by omega) hk (Nat.le_of_ble_eq_true rfl) (by simp [gF0, rv0, rvo]) dX3_init_60 ?_
  exact h_ret C dX3_init_63 (Nat.le_of_ble_eq_true rfl) (Nat.le_of_ble_eq_true rfl)
abbrev rmX0i : Room := { frames := 2, cells := 33, slots := 3150, locals := 34 }
set_option maxRecDepth 100000 in
set_option maxHeartbeats 8000000 in
theorem hm_X0 {l : Launch} {E : MK} {A : AS} (hA : ∀ i k, i ∈ ([5, 111, 112, 113, 114, 115, 116, 117, 118, 119, 120] : List Nat) → (i, k) ∉ A) : hMet l E yX0_init rmX0i [gR E 4] A 28 ((5, 9) :: (120, 7) :: (120, 6) :: (5, 8) :: (119, 7) :: (119, 6) :: (5, 7) :: (118, 7) :: (118, 6) :: (5, 6) :: (117, 7) :: (117, 6) :: (5, 5) :: (116, 7) :: (116, 6) :: (5, 4) :: (115, 7) :: (115, 6) :: (5, 3) :: (114, 7) :: (114, 6) :: (5, 2) :: (113, 7) :: (113, 6) :: (5, 1) :: (112, 7) :: (112, 6) :: (5, 0) :: (111, 7) :: (111, 6) :: (4, 2) :: (4, 1) :: (4, 0) :: A) 61 := by
  refine h_met (cc := cX0_init) (maxL := 2) (loc := [(0, gR E 4)]) (by decide +kernel) rfl tw71 (Nat.le_of_ble_eq_true rfl) rfl (fun K hK hnm C => ?_)
  have C : GC0 K E cX0_init RX0 2 none rmX0i := C
  refine h_aload_n C dX0_init_0 0 rfl rfl ?_
  refine h_objInit C tw72 tw27 tw28 dX0_init_1 (Nat.le_of_ble_eq_true rfl) (Nat.le_of_ble_eq_true rfl) ?_
  refine h_aload_n C dX0_init_4 0 rfl rfl ?_
  refine h_bipush C dX0_init_5 (v := 10) rfl ?_
  refine h_anew C (i := 5) (len := 10) tw73 rfl rfl (by intro k h; first | exact hA _ k (by decide) h | (simp at h; exact hA _ k (by decide) h)) (by decide) (by decide) (by decide) dX0_init_7 (Nat.le_of_ble_eq_true rfl) (Nat.le_of_ble_eq_true rfl) ?_
  refine h_putF C hnm (ci := 0) (T := TX0) (N := 5) (k := 0) (ty := tyX0 0) (ty0 := tyX0) (a := 4) rfl inX0 tyX0_ok nmX0 (by decide) tw75 rfl rfl rfl (fun _ => rfl) (fun _ => rfl) (rfl : ORD[27]? = some 4) (by decide) rfl (Nat.le_of_ble_eq_true rfl) (by simp [gF0, rv0, rvo]) dX0_init_10 ?_
  refine h_aload_n C dX0_init_13 0 rfl rfl ?_
  refine h_bipush C dX0_init_14 (v := 10) rfl ?_
  refine h_newarr C (at0 := .int) (t0 := 0) (len := 10) (i := 6) tw66 rfl (fun C9 h9 => by cases h9) rfl (gE0_I rfl) (fun _ => rfl) (by decide) (by decide) (by decide) dX0_init_16 (Nat.le_of_ble_eq_true rfl) (Nat.le_of_ble_eq_true rfl) ?_
  refine h_putF C hnm (ci := 0) (T := TX0) (N := 5) (k := 1) (ty := tyX0 1) (ty0 := tyX0) (a := 4) rfl inX0 tyX0_ok nmX0 (by decide) tw76 rfl rfl rfl (fun _ => rfl) (fun _ => rfl) (rfl : ORD[27]? = some 4) (by decide) rfl (Nat.le_of_ble_eq_true rfl) (by simp [gF0, rv0, rvo]) dX0_init_18 ?_
  refine h_aload_n C dX0_init_21 0 rfl rfl ?_
  refine h_bipush C dX0_init_22 (v := 10) rfl ?_
  refine h_newarr C (at0 := .int) (t0 := 0) (len := 10) (i := 7) tw66 rfl (fun C9 h9 => by cases h9) rfl (gE0_I rfl) (fun _ => rfl) (by decide) (by decide) (by decide) dX0_init_24 (Nat.le_of_ble_eq_true rfl) (Nat.le_of_ble_eq_true rfl) ?_
  refine h_putF C hnm (ci := 0) (T := TX0) (N := 5) (k := 2) (ty := tyX0 2) (ty0 := tyX0) (a := 4) rfl inX0 tyX0_ok nmX0 (by decide) tw77 rfl rfl rfl (fun _ => rfl) (fun _ => rfl) (rfl : ORD[27]? = some 4) (by decide) rfl (Nat.le_of_ble_eq_true rfl) (by simp [gF0, rv0, rvo]) dX0_init_26 ?_
  refine h_iconst C dX0_init_29 (v := 0) rfl ?_
  refine h_istore_n C dX0_init_30 rfl (Nat.le_of_ble_eq_true rfl) (loc' := [(1, .int 0), (0, gR E 4)]) rfl ?_
  refine h_iload_n C dX0_init_31 0 rfl rfl ?_
  refine h_bipush C dX0_init_32 (v := 10) rfl ?_
  refine h_icmp_ge C dX0_init_34 (tgt := 56) (by decide) (fun c => absurd c (by decide)) (fun _ => ?_)
  refine h_aload_n C dX0_init_37 1 rfl rfl ?_
  refine h_get C (ci := 0) (T := TX0) (N := 5) (k := 0) (a := 4) (v := gR E 5) rfl inX0 (by decide) tw75 (rfl : ORD[27]? = some 4) (by decide) rfl (by first | (simp [gF0, rv0]; done) | (simp [gF0, rv0]; rfl)) dX0_init_38 ?_
  refine h_iload_n C dX0_init_41 0 rfl rfl ?_
  refine h_new C (ci := 4) (T := TX4) (N := 8) (ty := tyX4) (i := 111) rfl inX4 tyX4_ok tw73 tw31 tw2 rfl rfl (df4 (by intro k h; first | exact hA _ k (by decide) h | (simp at h; exact hA _ k (by decide) h))) dX0_init_42 (Nat.le_of_ble_eq_true rfl) (Nat.le_of_ble_eq_true rfl) ?_
  refine h_dup C dX0_init_45 rfl ?_
  refine h_call C dX0_init_46 (hm_X4 (p := 31) rfl (rfl : ORD[31]? = some 111) (by decide) rfl rfl rfl rfl) tw34 tw2 tw33 rfl ⟨by decide, by decide, by decide⟩ (Or.inr ⟨_, List.mem_of_getElem? (i := 1) rfl⟩) rfl (Nat.le_of_ble_eq_true rfl) ⟨(Nat.le_of_ble_eq_true rfl), (Nat.le_of_ble_eq_true rfl)⟩ (c2 := 6) (s2 := 342) rfl rfl (Nat.le_of_ble_eq_true rfl) (Nat.le_of_ble_eq_true rfl) rfl ?_
  refine h_aast C (a := 5) (i := 0) (rfl : ORD[28]? = some 5) (by decide) (rfl : ORD[31]? = some 111) (by decide) rfl rfl (vp_lit rfl) dX0_init_49 ?_
  refine h_iinc C dX0_init_50 0 rfl (v := 1) (by decide) (Nat.le_of_ble_eq_true rfl) (loc' := [(1, .int 1), (0, gR E 4)]) rfl ?_
  refine h_goto C dX0_init_53 (tgt := 31) (by decide) ?_
  refine h_iload_n C dX0_init_31 0 rfl rfl ?_
  refine h_bipush C dX0_init_32 (v := 10) rfl ?_
  refine h_icmp_ge C dX0_init_34 (tgt := 56) (by decide) (fun c => absurd c (by decide)) (fun _ => ?_)
  refine h_aload_n C dX0_init_37 1 rfl rfl ?_
  refine h_get C (ci := 0) (T := TX0) (N := 5) (k := 0) (a := 4) (v := gR E 5) rfl inX0 (by decide) tw75 (rfl : ORD[27]? = some 4) (by decide) rfl (by first | (simp [gF0, rv0]; done) | (simp [gF0, rv0]; rfl)) dX0_init_38 ?_
  refine h_iload_n C dX0_init_41 0 rfl rfl ?_
  refine h_new C (ci := 4) (T := TX4) (N := 8) (ty := tyX4) (i := 112) rfl inX4 tyX4_ok tw73 tw31 tw2 rfl rfl (df4 (by intro k h; first | exact hA _ k (by decide) h | (simp at h; exact hA _ k (by decide) h))) dX0_init_42 (Nat.le_of_ble_eq_true rfl) (Nat.le_of_ble_eq_true rfl) ?_
  refine h_dup C dX0_init_45 rfl ?_
  refine h_call C dX0_init_46 (hm_X4 (p := 34) rfl (rfl : ORD[34]? = some 112) (by decide) rfl rfl rfl rfl) tw34 tw2 tw33 rfl ⟨by decide, by decide, by decide⟩ (Or.inr ⟨_, List.mem_of_getElem? (i := 1) rfl⟩) rfl (Nat.le_of_ble_eq_true rfl) ⟨(Nat.le_of_ble_eq_true rfl), (Nat.le_of_ble_eq_true rfl)⟩ (c2 := 9) (s2 := 654) rfl rfl (Nat.le_of_ble_eq_true rfl) (Nat.le_of_ble_eq_true rfl) rfl ?_
  refine h_aast C (a := 5) (i := 1) (rfl : ORD[28]? = some 5) (by decide) (rfl : ORD[34]? = some 112) (by decide) rfl rfl (vp_lit rfl) dX0_init_49 ?_
  refine h_iinc C dX0_init_50 0 rfl (v := 2) (by decide) (Nat.le_of_ble_eq_true rfl) (loc' := [(1, .int 2), (0, gR E 4)]) rfl ?_
  refine h_goto C dX0_init_53 (tgt := 31) (by decide) ?_
  refine h_iload_n C dX0_init_31 0 rfl rfl ?_
  refine h_bipush C dX0_init_32 (v := 10) rfl ?_
  refine h_icmp_ge C dX0_init_34 (tgt := 56) (by decide) (fun c => absurd c (by decide)) (fun _ => ?_)
  refine h_aload_n C dX0_init_37 1 rfl rfl ?_
  refine h_get C (ci := 0) (T := TX0) (N := 5) (k := 0) (a := 4) (v := gR E 5) rfl inX0 (by decide) tw75 (rfl : ORD[27]? = some 4) (by decide) rfl (by first | (simp [gF0, rv0]; done) | (simp [gF0, rv0]; rfl)) dX0_init_38 ?_
  refine h_iload_n C dX0_init_41 0 rfl rfl ?_
  refine h_new C (ci := 4) (T := TX4) (N := 8) (ty := tyX4) (i := 113) rfl inX4 tyX4_ok tw73 tw31 tw2 rfl rfl (df4 (by intro k h; first | exact hA _ k (by decide) h | (simp at h; exact hA _ k (by decide) h))) dX0_init_42 (Nat.le_of_ble_eq_true rfl) (Nat.le_of_ble_eq_true rfl) ?_
  refine h_dup C dX0_init_45 rfl ?_
  refine h_call C dX0_init_46 (hm_X4 (p := 37) rfl (rfl : ORD[37]? = some 113) (by decide) rfl rfl rfl rfl) tw34 tw2 tw33 rfl ⟨by decide, by decide, by decide⟩ (Or.inr ⟨_, List.mem_of_getElem? (i := 1) rfl⟩) rfl (Nat.le_of_ble_eq_true rfl) ⟨(Nat.le_of_ble_eq_true rfl), (Nat.le_of_ble_eq_true rfl)⟩ (c2 := 12) (s2 := 966) rfl rfl (Nat.le_of_ble_eq_true rfl) (Nat.le_of_ble_eq_true rfl) rfl ?_
  refine h_aast C (a := 5) (i := 2) (rfl : ORD[28]? = some 5) (by decide) (rfl : ORD[37]? = some 113) (by decide) rfl rfl (vp_lit rfl) dX0_init_49 ?_
  refine h_iinc C dX0_init_50 0 rfl (v := 3) (by decide) (Nat.le_of_ble_eq_true rfl) (loc' := [(1, .int 3), (0, gR E 4)]) rfl ?_
  refine h_goto C dX0_init_53 (tgt := 31) (by decide) ?_
  refine h_iload_n C dX0_init_31 0 rfl rfl ?_
  refine h_bipush C dX0_init_32 (v := 10) rfl ?_
  refine h_icmp_ge C dX0_init_34 (tgt := 56) (by decide) (fun c => absurd c (by decide)) (fun _ => ?_)
  refine h_aload_n C dX0_init_37 1 rfl rfl ?_
  refine h_get C (ci := 0) (T := TX0) (N := 5) (k := 0) (a := 4) (v := gR E 5) rfl inX0 (by decide) tw75 (rfl : ORD[27]? = some 4) (by decide) rfl (by first | (simp [gF0, rv0]; done) | (simp [gF0, rv0]; rfl)) dX0_init_38 ?_
  refine h_iload_n C dX0_init_41 0 rfl rfl ?_
  refine h_new C (ci := 4) (T := TX4) (N := 8) (ty := tyX4) (i := 114) rfl inX4 tyX4_ok tw73 tw31 tw2 rfl rfl (df4 (by intro k h; first | exact hA _ k (by decide) h | (simp at h; exact hA _ k (by decide) h))) dX0_init_42 (Nat.le_of_ble_eq_true rfl) (Nat.le_of_ble_eq_true rfl) ?_
  refine h_dup C dX0_init_45 rfl ?_
  refine h_call C dX0_init_46 (hm_X4 (p := 40) rfl (rfl : ORD[40]? = some 114) (by decide) rfl rfl rfl rfl) tw34 tw2 tw33 rfl ⟨by decide, by decide, by decide⟩ (Or.inr ⟨_, List.mem_of_getElem? (i := 1) rfl⟩) rfl (Nat.le_of_ble_eq_true rfl) ⟨(Nat.le_of_ble_eq_true rfl), (Nat.le_of_ble_eq_true rfl)⟩ (c2 := 15) (s2 := 1278) rfl rfl (Nat.le_of_ble_eq_true rfl) (Nat.le_of_ble_eq_true rfl) rfl ?_
  refine h_aast C (a := 5) (i := 3) (rfl : ORD[28]? = some 5) (by decide) (rfl : ORD[40]? = some 114) (by decide) rfl rfl (vp_lit rfl) dX0_init_49 ?_
  refine h_iinc C dX0_init_50 0 rfl (v := 4) (by decide) (Nat.le_of_ble_eq_true rfl) (loc' := [(1, .int 4), (0, gR E 4)]) rfl ?_
  refine h_goto C dX0_init_53 (tgt := 31) (by decide) ?_
  refine h_iload_n C dX0_init_31 0 rfl rfl ?_
  refine h_bipush C dX0_init_32 (v := 10) rfl ?_
  refine h_icmp_ge C dX0_init_34 (tgt := 56) (by decide) (fun c => absurd c (by decide)) (fun _ => ?_)
  refine h_aload_n C dX0_init_37 1 rfl rfl ?_
  refine h_get C (ci := 0) (T := TX0) (N := 5) (k := 0) (a := 4) (v := gR E 5) rfl inX0 (by decide) tw75 (rfl : ORD[27]? = some 4) (by decide) rfl (by first | (simp [gF0, rv0]; done) | (simp [gF0, rv0]; rfl)) dX0_init_38 ?_
  refine h_iload_n C dX0_init_41 0 rfl rfl ?_
  refine h_new C (ci := 4) (T := TX4) (N := 8) (ty := tyX4) (i := 115) rfl inX4 tyX4_ok tw73 tw31 tw2 rfl rfl (df4 (by intro k h; first | exact hA _ k (by decide) h | (simp at h; exact hA _ k (by decide) h))) dX0_init_42 (Nat.le_of_ble_eq_true rfl) (Nat.le_of_ble_eq_true rfl) ?_
  refine h_dup C dX0_init_45 rfl ?_
  refine h_call C dX0_init_46 (hm_X4 (p := 43) rfl (rfl : ORD[43]? = some 115) (by decide) rfl rfl rfl rfl) tw34 tw2 tw33 rfl ⟨by decide, by decide, by decide⟩ (Or.inr ⟨_, List.mem_of_getElem? (i := 1) rfl⟩) rfl (Nat.le_of_ble_eq_true rfl) ⟨(Nat.le_of_ble_eq_true rfl), (Nat.le_of_ble_eq_true rfl)⟩ (c2 := 18) (s2 := 1590) rfl rfl (Nat.le_of_ble_eq_true rfl) (Nat.le_of_ble_eq_true rfl) rfl ?_
  refine h_aast C (a := 5) (i := 4) (rfl : ORD[28]? = some 5) (by decide) (rfl : ORD[43]? = some 115) (by decide) rfl rfl (vp_lit rfl) dX0_init_49 ?_
  refine h_iinc C dX0_init_50 0 rfl (v := 5) (by decide) (Nat.le_of_ble_eq_true rfl) (loc' := [(1, .int 5), (0, gR E 4)]) rfl ?_
  refine h_goto C dX0_init_53 (tgt := 31) (by decide) ?_
  refine h_iload_n C dX0_init_31 0 rfl rfl ?_
  refine h_bipush C dX0_init_32 (v := 10) rfl ?_
  refine h_icmp_ge C dX0_init_34 (tgt := 56) (by decide) (fun c => absurd c (by decide)) (fun _ => ?_)
  refine h_aload_n C dX0_init_37 1 rfl rfl ?_
  refine h_get C (ci := 0) (T := TX0) (N := 5) (k := 0) (a := 4) (v := gR E 5) rfl inX0 (by decide) tw75 (rfl : ORD[27]? = some 4) (by decide) rfl (by first | (simp [gF0, rv0]; done) | (simp [gF0, rv0]; rfl)) dX0_init_38 ?_
  refine h_iload_n C dX0_init_41 0 rfl rfl ?_
  refine h_new C (ci := 4) (T := TX4) (N := 8) (ty := tyX4) (i := 116) rfl inX4 tyX4_ok tw73 tw31 tw2 rfl rfl (df4 (by intro k h; first | exact hA _ k (by decide) h | (simp at h; exact hA _ k (by decide) h))) dX0_init_42 (Nat.le_of_ble_eq_true rfl) (Nat.le_of_ble_eq_true rfl) ?_
  refine h_dup C dX0_init_45 rfl ?_
  refine h_call C dX0_init_46 (hm_X4 (p := 46) rfl (rfl : ORD[46]? = some 116) (by decide) rfl rfl rfl rfl) tw34 tw2 tw33 rfl ⟨by decide, by decide, by decide⟩ (Or.inr ⟨_, List.mem_of_getElem? (i := 1) rfl⟩) rfl (Nat.le_of_ble_eq_true rfl) ⟨(Nat.le_of_ble_eq_true rfl), (Nat.le_of_ble_eq_true rfl)⟩ (c2 := 21) (s2 := 1902) rfl rfl (Nat.le_of_ble_eq_true rfl) (Nat.le_of_ble_eq_true rfl) rfl ?_
  refine h_aast C (a := 5) (i := 5) (rfl : ORD[28]? = some 5) (by decide) (rfl : ORD[46]? = some 116) (by decide) rfl rfl (vp_lit rfl) dX0_init_49 ?_
  refine h_iinc C dX0_init_50 0 rfl (v := 6) (by decide) (Nat.le_of_ble_eq_true rfl) (loc' := [(1, .int 6), (0, gR E 4)]) rfl ?_
  refine h_goto C dX0_init_53 (tgt := 31) (by decide) ?_
  refine h_iload_n C dX0_init_31 0 rfl rfl ?_
  refine h_bipush C dX0_init_32 (v := 10) rfl ?_
  refine h_icmp_ge C dX0_init_34 (tgt := 56) (by decide) (fun c => absurd c (by decide)) (fun _ => ?_)
  refine h_aload_n C dX0_init_37 1 rfl rfl ?_
  refine h_get C (ci := 0) (T := TX0) (N := 5) (k := 0) (a := 4) (v := gR E 5) rfl inX0 (by decide) tw75 (rfl : ORD[27]? = some 4) (by decide) rfl (by first | (simp [gF0, rv0]; done) | (simp [gF0, rv0]; rfl)) dX0_init_38 ?_
  refine h_iload_n C dX0_init_41 0 rfl rfl ?_
  refine h_new C (ci := 4) (T := TX4) (N := 8) (ty := tyX4) (i := 117) rfl inX4 tyX4_ok tw73 tw31 tw2 rfl rfl (df4 (by intro k h; first | exact hA _ k (by decide) h | (simp at h; exact hA _ k (by decide) h))) dX0_init_42 (Nat.le_of_ble_eq_true rfl) (Nat.le_of_ble_eq_true rfl) ?_
  refine h_dup C dX0_init_45 rfl ?_
  refine h_call C dX0_init_46 (hm_X4 (p := 49) rfl (rfl : ORD[49]? = some 117) (by decide) rfl rfl rfl rfl) tw34 tw2 tw33 rfl ⟨by decide, by decide, by decide⟩ (Or.inr ⟨_, List.mem_of_getElem? (i := 1) rfl⟩) rfl (Nat.le_of_ble_eq_true rfl) ⟨(Nat.le_of_ble_eq_true rfl), (Nat.le_of_ble_eq_true rfl)⟩ (c2 := 24) (s2 := 2214) rfl rfl (Nat.le_of_ble_eq_true rfl) (Nat.le_of_ble_eq_true rfl) rfl ?_
  refine h_aast C (a := 5) (i := 6) (rfl : ORD[28]? = some 5) (by decide) (rfl : ORD[49]? = some 117) (by decide) rfl rfl (vp_lit rfl) dX0_init_49 ?_
  refine h_iinc C dX0_init_50 0 rfl (v := 7) (by decide) (Nat.le_of_ble_eq_true rfl) (loc' := [(1, .int 7), (0, gR E 4)]) rfl ?_
  refine h_goto C dX0_init_53 (tgt := 31) (by decide) ?_
  refine h_iload_n C dX0_init_31 0 rfl rfl ?_
  refine h_bipush C dX0_init_32 (v := 10) rfl ?_
  refine h_icmp_ge C dX0_init_34 (tgt := 56) (by decide) (fun c => absurd c (by decide)) (fun _ => ?_)
  refine h_aload_n C dX0_init_37 1 rfl rfl ?_
  refine h_get C (ci := 0) (T := TX0) (N := 5) (k := 0) (a := 4) (v := gR E 5) rfl inX0 (by decide) tw75 (rfl : ORD[27]? = some 4) (by decide) rfl (by first | (simp [gF0, rv0]; done) | (simp [gF0, rv0]; rfl)) dX0_init_38 ?_
  refine h_iload_n C dX0_init_41 0 rfl rfl ?_
  refine h_new C (ci := 4) (T := TX4) (N := 8) (ty := tyX4) (i := 118) rfl inX4 tyX4_ok tw73 tw31 tw2 rfl rfl (df4 (by intro k h; first | exact hA _ k (by decide) h | (simp at h; exact hA _ k (by decide) h))) dX0_init_42 (Nat.le_of_ble_eq_true rfl) (Nat.le_of_ble_eq_true rfl) ?_
  refine h_dup C dX0_init_45 rfl ?_
  refine h_call C dX0_init_46 (hm_X4 (p := 52) rfl (rfl : ORD[52]? = some 118) (by decide) rfl rfl rfl rfl) tw34 tw2 tw33 rfl ⟨by decide, by decide, by decide⟩ (Or.inr ⟨_, List.mem_of_getElem? (i := 1) rfl⟩) rfl (Nat.le_of_ble_eq_true rfl) ⟨(Nat.le_of_ble_eq_true rfl), (Nat.le_of_ble_eq_true rfl)⟩ (c2 := 27) (s2 := 2526) rfl rfl (Nat.le_of_ble_eq_true rfl) (Nat.le_of_ble_eq_true rfl) rfl ?_
  refine h_aast C (a := 5) (i := 7) (rfl : ORD[28]? = some 5) (by decide) (rfl : ORD[52]? = some 118) (by decide) rfl rfl (vp_lit rfl) dX0_init_49 ?_
  refine h_iinc C dX0_init_50 0 rfl (v := 8) (by decide) (Nat.le_of_ble_eq_true rfl) (loc' := [(1, .int 8), (0, gR E 4)]) rfl ?_
  refine h_goto C dX0_init_53 (tgt := 31) (by decide) ?_
  refine h_iload_n C dX0_init_31 0 rfl rfl ?_
  refine h_bipush C dX0_init_32 (v := 10) rfl ?_
  refine h_icmp_ge C dX0_init_34 (tgt := 56) (by decide) (fun c => absurd c (by decide)) (fun _ => ?_)
  refine h_aload_n C dX0_init_37 1 rfl rfl ?_
  refine h_get C (ci := 0) (T := TX0) (N := 5) (k := 0) (a := 4) (v := gR E 5) rfl inX0 (by decide) tw75 (rfl : ORD[27]? = some 4) (by decide) rfl (by first | (simp [gF0, rv0]; done) | (simp [gF0, rv0]; rfl)) dX0_init_38 ?_
  refine h_iload_n C dX0_init_41 0 rfl rfl ?_
  refine h_new C (ci := 4) (T := TX4) (N := 8) (ty := tyX4) (i := 119) rfl inX4 tyX4_ok tw73 tw31 tw2 rfl rfl (df4 (by intro k h; first | exact hA _ k (by decide) h | (simp at h; exact hA _ k (by decide) h))) dX0_init_42 (Nat.le_of_ble_eq_true rfl) (Nat.le_of_ble_eq_true rfl) ?_
  refine h_dup C dX0_init_45 rfl ?_
  refine h_call C dX0_init_46 (hm_X4 (p := 55) rfl (rfl : ORD[55]? = some 119) (by decide) rfl rfl rfl rfl) tw34 tw2 tw33 rfl ⟨by decide, by decide, by decide⟩ (Or.inr ⟨_, List.mem_of_getElem? (i := 1) rfl⟩) rfl (Nat.le_of_ble_eq_true rfl) ⟨(Nat.le_of_ble_eq_true rfl), (Nat.le_of_ble_eq_true rfl)⟩ (c2 := 30) (s2 := 2838) rfl rfl (Nat.le_of_ble_eq_true rfl) (Nat.le_of_ble_eq_true rfl) rfl ?_
  refine h_aast C (a := 5) (i := 8) (rfl : ORD[28]? = some 5) (by decide) (rfl : ORD[55]? = some 119) (by decide) rfl rfl (vp_lit rfl) dX0_init_49 ?_
  refine h_iinc C dX0_init_50 0 rfl (v := 9) (by decide) (Nat.le_of_ble_eq_true rfl) (loc' := [(1, .int 9), (0, gR E 4)]) rfl ?_
  refine h_goto C dX0_init_53 (tgt := 31) (by decide) ?_
  refine h_iload_n C dX0_init_31 0 rfl rfl ?_
  refine h_bipush C dX0_init_32 (v := 10) rfl ?_
  refine h_icmp_ge C dX0_init_34 (tgt := 56) (by decide) (fun c => absurd c (by decide)) (fun _ => ?_)
  refine h_aload_n C dX0_init_37 1 rfl rfl ?_
  refine h_get C (ci := 0) (T := TX0) (N := 5) (k := 0) (a := 4) (v := gR E 5) rfl inX0 (by decide) tw75 (rfl : ORD[27]? = some 4) (by decide) rfl (by first | (simp [gF0, rv0]; done) | (simp [gF0, rv0]; rfl)) dX0_init_38 ?_
  refine h_iload_n C dX0_init_41 0 rfl rfl ?_
  refine h_new C (ci := 4) (T := TX4) (N := 8) (ty := tyX4) (i := 120) rfl inX4 tyX4_ok tw73 tw31 tw2 rfl rfl (df4 (by intro k h; first | exact hA _ k (by decide) h | (simp at h; exact hA _ k (by decide) h))) dX0_init_42 (Nat.le_of_ble_eq_true rfl) (Nat.le_of_ble_eq_true rfl) ?_
  refine h_dup C dX0_init_45 rfl ?_
  refine h_call C dX0_init_46 (hm_X4 (p := 58) rfl (rfl : ORD[58]? = some 120) (by decide) rfl rfl rfl rfl) tw34 tw2 tw33 rfl ⟨by decide, by decide, by decide⟩ (Or.inr ⟨_, List.mem_of_getElem? (i := 1) rfl⟩) rfl (Nat.le_of_ble_eq_true rfl) ⟨(Nat.le_of_ble_eq_true rfl), (Nat.le_of_ble_eq_true rfl)⟩ (c2 := 33) (s2 := 3150) rfl rfl (Nat.le_of_ble_eq_true rfl) (Nat.le_of_ble_eq_true rfl) rfl ?_
  refine h_aast C (a := 5) (i := 9) (rfl : ORD[28]? = some 5) (by decide) (rfl : ORD[58]? = some 120) (by decide) rfl rfl (vp_lit rfl) dX0_init_49 ?_
  refine h_iinc C dX0_init_50 0 rfl (v := 10) (by decide) (Nat.le_of_ble_eq_true rfl) (loc' := [(1, .int 10), (0, gR E 4)]) rfl ?_
  refine h_goto C dX0_init_53 (tgt := 31) (by decide) ?_
  refine h_iload_n C dX0_init_31 0 rfl rfl ?_
  refine h_bipush C dX0_init_32 (v := 10) rfl ?_
  refine h_icmp_ge C dX0_init_34 (tgt := 56) (by decide) (fun _ => ?_) (fun c => absurd (by decide) c)
  exact h_ret C dX0_init_56 (Nat.le_of_ble_eq_true rfl) (Nat.le_of_ble_eq_true rfl)
abbrev A5 : AS := ((1, 13) :: (1, 12) :: (1, 11) :: (12, 0) :: (1, 10) :: (10, 0) :: (1, 9) :: (8, 0) :: (1, 8) :: (17, 8) :: (17, 7) :: (17, 6) :: (17, 5) :: (17, 4) :: (17, 3) :: (17, 0) :: (110, 7) :: (110, 6) :: (1, 7) :: (16, 8) :: (16, 7) :: (16, 6) :: (16, 5) :: (16, 4) :: (16, 3) :: (16, 0) :: (109, 7) :: (109, 6) :: (1, 6) :: (108, 7) :: (108, 6) :: (1, 5) :: (5, 9) :: (120, 7) :: (120, 6) :: (5, 8) :: (119, 7) :: (119, 6) :: (5, 7) :: (118, 7) :: (118, 6) :: (5, 6) :: (117, 7) :: (117, 6) :: (5, 5) :: (116, 7) :: (116, 6) :: (5, 4) :: (115, 7) :: (115, 6) :: (5, 3) :: (114, 7) :: (114, 6) :: (5, 2) :: (113, 7) :: (113, 6) :: (5, 1) :: (112, 7) :: (112, 6) :: (5, 0) :: (111, 7) :: (111, 6) :: (4, 2) :: (4, 1) :: (4, 0) :: (3, 3) :: (107, 7) :: (107, 6) :: (2, 3) :: (103, 7) :: (103, 6) :: (3, 2) :: (106, 7) :: (106, 6) :: (2, 2) :: (102, 7) :: (102, 6) :: (3, 1) :: (105, 7) :: (105, 6) :: (2, 1) :: (101, 7) :: (101, 6) :: (3, 0) :: (104, 7) :: (104, 6) :: (2, 0) :: (100, 7) :: (100, 6) :: (1, 1) :: (1, 0) :: [])
abbrev rmX5i : Room := { frames := 3, cells := 91, slots := 11504, locals := 55 }
set_option maxRecDepth 100000 in
set_option maxHeartbeats 8000000 in
theorem hm_X5 {l : Launch} {E : MK}  : hMet l E yX5_init rmX5i [gR E 1] [] 1 A5 92 := by
  refine h_met (cc := cX5_init) (maxL := 2) (loc := [(0, gR E 1)]) (by decide +kernel) rfl tw25 (Nat.le_of_ble_eq_true rfl) rfl (fun K hK hnm C => ?_)
  have C : GC0 K E cX5_init RX5 2 none rmX5i := C
  refine h_aload_n C dX5_init_0 0 rfl rfl ?_
  refine h_objInit C tw26 tw27 tw28 dX5_init_1 (Nat.le_of_ble_eq_true rfl) (Nat.le_of_ble_eq_true rfl) ?_
  refine h_aload_n C dX5_init_4 0 rfl rfl ?_
  refine h_iconst C dX5_init_5 (v := 4) rfl ?_
  refine h_anew C (i := 2) (len := 4) tw29 rfl rfl (by intro k; simp [mO, M0]) (by decide) (by decide) (by decide) dX5_init_6 (Nat.le_of_ble_eq_true rfl) (Nat.le_of_ble_eq_true rfl) ?_
  refine h_putF C hnm (ci := 5) (T := TX5) (N := 14) (k := 0) (ty := tyX5 0) (ty0 := tyX5) (a := 1) rfl inX5 tyX5_ok nmX5 (by decide) tw161 rfl rfl rfl (fun _ => rfl) (fun _ => rfl) (rfl : ORD[0]? = some 1) (by decide) rfl (Nat.le_of_ble_eq_true rfl) (by simp [gF0, rv0, rvo]) dX5_init_9 ?_
  refine h_aload_n C dX5_init_12 0 rfl rfl ?_
  refine h_iconst C dX5_init_13 (v := 4) rfl ?_
  refine h_anew C (i := 3) (len := 4) tw29 rfl rfl (by intro k; simp [mO, M0]) (by decide) (by decide) (by decide) dX5_init_14 (Nat.le_of_ble_eq_true rfl) (Nat.le_of_ble_eq_true rfl) ?_
  refine h_putF C hnm (ci := 5) (T := TX5) (N := 14) (k := 1) (ty := tyX5 1) (ty0 := tyX5) (a := 1) rfl inX5 tyX5_ok nmX5 (by decide) tw162 rfl rfl rfl (fun _ => rfl) (fun _ => rfl) (rfl : ORD[0]? = some 1) (by decide) rfl (Nat.le_of_ble_eq_true rfl) (by simp [gF0, rv0, rvo]) dX5_init_17 ?_
  refine h_iconst C dX5_init_20 (v := 0) rfl ?_
  refine h_istore_n C dX5_init_21 rfl (Nat.le_of_ble_eq_true rfl) (loc' := [(1, .int 0), (0, gR E 1)]) rfl ?_
  refine h_iload_n C dX5_init_22 0 rfl rfl ?_
  refine h_iconst C dX5_init_23 (v := 4) rfl ?_
  refine h_icmp_ge C dX5_init_24 (tgt := 59) (by decide) (fun c => absurd c (by decide)) (fun _ => ?_)
  refine h_aload_n C dX5_init_27 1 rfl rfl ?_
  refine h_get C (ci := 5) (T := TX5) (N := 14) (k := 0) (a := 1) (v := gR E 2) rfl inX5 (by decide) tw161 (rfl : ORD[0]? = some 1) (by decide) rfl (by first | (simp [gF0, rv0]; done) | (simp [gF0, rv0]; rfl)) dX5_init_28 ?_
  refine h_iload_n C dX5_init_31 0 rfl rfl ?_
  refine h_new C (ci := 4) (T := TX4) (N := 8) (ty := tyX4) (i := 100) rfl inX4 tyX4_ok tw29 tw31 tw2 rfl rfl (df4 (by intro k; simp [mO, M0])) dX5_init_32 (Nat.le_of_ble_eq_true rfl) (Nat.le_of_ble_eq_true rfl) ?_
  refine h_dup C dX5_init_35 rfl ?_
  refine h_call C dX5_init_36 (hm_X4 (p := 3) rfl (rfl : ORD[3]? = some 100) (by decide) rfl rfl rfl rfl) tw34 tw2 tw33 rfl ⟨by decide, by decide, by decide⟩ (Or.inr ⟨_, List.mem_of_getElem? (i := 0) rfl⟩) rfl (Nat.le_of_ble_eq_true rfl) ⟨(Nat.le_of_ble_eq_true rfl), (Nat.le_of_ble_eq_true rfl)⟩ (c2 := 5) (s2 := 320) rfl rfl (Nat.le_of_ble_eq_true rfl) (Nat.le_of_ble_eq_true rfl) rfl ?_
  refine h_aast C (a := 2) (i := 0) (rfl : ORD[1]? = some 2) (by decide) (rfl : ORD[3]? = some 100) (by decide) rfl rfl (vp_lit rfl) dX5_init_39 ?_
  refine h_aload_n C dX5_init_40 1 rfl rfl ?_
  refine h_get C (ci := 5) (T := TX5) (N := 14) (k := 1) (a := 1) (v := gR E 3) rfl inX5 (by decide) tw162 (rfl : ORD[0]? = some 1) (by decide) rfl (by first | (simp [gF0, rv0]; done) | (simp [gF0, rv0]; rfl)) dX5_init_41 ?_
  refine h_iload_n C dX5_init_44 0 rfl rfl ?_
  refine h_new C (ci := 4) (T := TX4) (N := 8) (ty := tyX4) (i := 104) rfl inX4 tyX4_ok tw29 tw31 tw2 rfl rfl (df4 (by intro k; simp [mO, M0])) dX5_init_45 (Nat.le_of_ble_eq_true rfl) (Nat.le_of_ble_eq_true rfl) ?_
  refine h_dup C dX5_init_48 rfl ?_
  refine h_call C dX5_init_49 (hm_X4 (p := 6) rfl (rfl : ORD[6]? = some 104) (by decide) rfl rfl rfl rfl) tw34 tw2 tw33 rfl ⟨by decide, by decide, by decide⟩ (Or.inr ⟨_, List.mem_of_getElem? (i := 0) rfl⟩) rfl (Nat.le_of_ble_eq_true rfl) ⟨(Nat.le_of_ble_eq_true rfl), (Nat.le_of_ble_eq_true rfl)⟩ (c2 := 8) (s2 := 632) rfl rfl (Nat.le_of_ble_eq_true rfl) (Nat.le_of_ble_eq_true rfl) rfl ?_
  refine h_aast C (a := 3) (i := 0) (rfl : ORD[2]? = some 3) (by decide) (rfl : ORD[6]? = some 104) (by decide) rfl rfl (vp_lit rfl) dX5_init_52 ?_
  refine h_iinc C dX5_init_53 0 rfl (v := 1) (by decide) (Nat.le_of_ble_eq_true rfl) (loc' := [(1, .int 1), (0, gR E 1)]) rfl ?_
  refine h_goto C dX5_init_56 (tgt := 22) (by decide) ?_
  refine h_iload_n C dX5_init_22 0 rfl rfl ?_
  refine h_iconst C dX5_init_23 (v := 4) rfl ?_
  refine h_icmp_ge C dX5_init_24 (tgt := 59) (by decide) (fun c => absurd c (by decide)) (fun _ => ?_)
  refine h_aload_n C dX5_init_27 1 rfl rfl ?_
  refine h_get C (ci := 5) (T := TX5) (N := 14) (k := 0) (a := 1) (v := gR E 2) rfl inX5 (by decide) tw161 (rfl : ORD[0]? = some 1) (by decide) rfl (by first | (simp [gF0, rv0]; done) | (simp [gF0, rv0]; rfl)) dX5_init_28 ?_
  refine h_iload_n C dX5_init_31 0 rfl rfl ?_
  refine h_new C (ci := 4) (T := TX4) (N := 8) (ty := tyX4) (i := 101) rfl inX4 tyX4_ok tw29 tw31 tw2 rfl rfl (df4 (by intro k; simp [mO, M0])) dX5_init_32 (Nat.le_of_ble_eq_true rfl) (Nat.le_of_ble_eq_true rfl) ?_
  refine h_dup C dX5_init_35 rfl ?_
  refine h_call C dX5_init_36 (hm_X4 (p := 9) rfl (rfl : ORD[9]? = some 101) (by decide) rfl rfl rfl rfl) tw34 tw2 tw33 rfl ⟨by decide, by decide, by decide⟩ (Or.inr ⟨_, List.mem_of_getElem? (i := 0) rfl⟩) rfl (Nat.le_of_ble_eq_true rfl) ⟨(Nat.le_of_ble_eq_true rfl), (Nat.le_of_ble_eq_true rfl)⟩ (c2 := 11) (s2 := 944) rfl rfl (Nat.le_of_ble_eq_true rfl) (Nat.le_of_ble_eq_true rfl) rfl ?_
  refine h_aast C (a := 2) (i := 1) (rfl : ORD[1]? = some 2) (by decide) (rfl : ORD[9]? = some 101) (by decide) rfl rfl (vp_lit rfl) dX5_init_39 ?_
  refine h_aload_n C dX5_init_40 1 rfl rfl ?_
  refine h_get C (ci := 5) (T := TX5) (N := 14) (k := 1) (a := 1) (v := gR E 3) rfl inX5 (by decide) tw162 (rfl : ORD[0]? = some 1) (by decide) rfl (by first | (simp [gF0, rv0]; done) | (simp [gF0, rv0]; rfl)) dX5_init_41 ?_
  refine h_iload_n C dX5_init_44 0 rfl rfl ?_
  refine h_new C (ci := 4) (T := TX4) (N := 8) (ty := tyX4) (i := 105) rfl inX4 tyX4_ok tw29 tw31 tw2 rfl rfl (df4 (by intro k; simp [mO, M0])) dX5_init_45 (Nat.le_of_ble_eq_true rfl) (Nat.le_of_ble_eq_true rfl) ?_
  refine h_dup C dX5_init_48 rfl ?_
  refine h_call C dX5_init_49 (hm_X4 (p := 12) rfl (rfl : ORD[12]? = some 105) (by decide) rfl rfl rfl rfl) tw34 tw2 tw33 rfl ⟨by decide, by decide, by decide⟩ (Or.inr ⟨_, List.mem_of_getElem? (i := 0) rfl⟩) rfl (Nat.le_of_ble_eq_true rfl) ⟨(Nat.le_of_ble_eq_true rfl), (Nat.le_of_ble_eq_true rfl)⟩ (c2 := 14) (s2 := 1256) rfl rfl (Nat.le_of_ble_eq_true rfl) (Nat.le_of_ble_eq_true rfl) rfl ?_
  refine h_aast C (a := 3) (i := 1) (rfl : ORD[2]? = some 3) (by decide) (rfl : ORD[12]? = some 105) (by decide) rfl rfl (vp_lit rfl) dX5_init_52 ?_
  refine h_iinc C dX5_init_53 0 rfl (v := 2) (by decide) (Nat.le_of_ble_eq_true rfl) (loc' := [(1, .int 2), (0, gR E 1)]) rfl ?_
  refine h_goto C dX5_init_56 (tgt := 22) (by decide) ?_
  refine h_iload_n C dX5_init_22 0 rfl rfl ?_
  refine h_iconst C dX5_init_23 (v := 4) rfl ?_
  refine h_icmp_ge C dX5_init_24 (tgt := 59) (by decide) (fun c => absurd c (by decide)) (fun _ => ?_)
  refine h_aload_n C dX5_init_27 1 rfl rfl ?_
  refine h_get C (ci := 5) (T := TX5) (N := 14) (k := 0) (a := 1) (v := gR E 2) rfl inX5 (by decide) tw161 (rfl : ORD[0]? = some 1) (by decide) rfl (by first | (simp [gF0, rv0]; done) | (simp [gF0, rv0]; rfl)) dX5_init_28 ?_
  refine h_iload_n C dX5_init_31 0 rfl rfl ?_
  refine h_new C (ci := 4) (T := TX4) (N := 8) (ty := tyX4) (i := 102) rfl inX4 tyX4_ok tw29 tw31 tw2 rfl rfl (df4 (by intro k; simp [mO, M0])) dX5_init_32 (Nat.le_of_ble_eq_true rfl) (Nat.le_of_ble_eq_true rfl) ?_
  refine h_dup C dX5_init_35 rfl ?_
  refine h_call C dX5_init_36 (hm_X4 (p := 15) rfl (rfl : ORD[15]? = some 102) (by decide) rfl rfl rfl rfl) tw34 tw2 tw33 rfl ⟨by decide, by decide, by decide⟩ (Or.inr ⟨_, List.mem_of_getElem? (i := 0) rfl⟩) rfl (Nat.le_of_ble_eq_true rfl) ⟨(Nat.le_of_ble_eq_true rfl), (Nat.le_of_ble_eq_true rfl)⟩ (c2 := 17) (s2 := 1568) rfl rfl (Nat.le_of_ble_eq_true rfl) (Nat.le_of_ble_eq_true rfl) rfl ?_
  refine h_aast C (a := 2) (i := 2) (rfl : ORD[1]? = some 2) (by decide) (rfl : ORD[15]? = some 102) (by decide) rfl rfl (vp_lit rfl) dX5_init_39 ?_
  refine h_aload_n C dX5_init_40 1 rfl rfl ?_
  refine h_get C (ci := 5) (T := TX5) (N := 14) (k := 1) (a := 1) (v := gR E 3) rfl inX5 (by decide) tw162 (rfl : ORD[0]? = some 1) (by decide) rfl (by first | (simp [gF0, rv0]; done) | (simp [gF0, rv0]; rfl)) dX5_init_41 ?_
  refine h_iload_n C dX5_init_44 0 rfl rfl ?_
  refine h_new C (ci := 4) (T := TX4) (N := 8) (ty := tyX4) (i := 106) rfl inX4 tyX4_ok tw29 tw31 tw2 rfl rfl (df4 (by intro k; simp [mO, M0])) dX5_init_45 (Nat.le_of_ble_eq_true rfl) (Nat.le_of_ble_eq_true rfl) ?_
  refine h_dup C dX5_init_48 rfl ?_
  refine h_call C dX5_init_49 (hm_X4 (p := 18) rfl (rfl : ORD[18]? = some 106) (by decide) rfl rfl rfl rfl) tw34 tw2 tw33 rfl ⟨by decide, by decide, by decide⟩ (Or.inr ⟨_, List.mem_of_getElem? (i := 0) rfl⟩) rfl (Nat.le_of_ble_eq_true rfl) ⟨(Nat.le_of_ble_eq_true rfl), (Nat.le_of_ble_eq_true rfl)⟩ (c2 := 20) (s2 := 1880) rfl rfl (Nat.le_of_ble_eq_true rfl) (Nat.le_of_ble_eq_true rfl) rfl ?_
  refine h_aast C (a := 3) (i := 2) (rfl : ORD[2]? = some 3) (by decide) (rfl : ORD[18]? = some 106) (by decide) rfl rfl (vp_lit rfl) dX5_init_52 ?_
  refine h_iinc C dX5_init_53 0 rfl (v := 3) (by decide) (Nat.le_of_ble_eq_true rfl) (loc' := [(1, .int 3), (0, gR E 1)]) rfl ?_
  refine h_goto C dX5_init_56 (tgt := 22) (by decide) ?_
  refine h_iload_n C dX5_init_22 0 rfl rfl ?_
  refine h_iconst C dX5_init_23 (v := 4) rfl ?_
  refine h_icmp_ge C dX5_init_24 (tgt := 59) (by decide) (fun c => absurd c (by decide)) (fun _ => ?_)
  refine h_aload_n C dX5_init_27 1 rfl rfl ?_
  refine h_get C (ci := 5) (T := TX5) (N := 14) (k := 0) (a := 1) (v := gR E 2) rfl inX5 (by decide) tw161 (rfl : ORD[0]? = some 1) (by decide) rfl (by first | (simp [gF0, rv0]; done) | (simp [gF0, rv0]; rfl)) dX5_init_28 ?_
  refine h_iload_n C dX5_init_31 0 rfl rfl ?_
  refine h_new C (ci := 4) (T := TX4) (N := 8) (ty := tyX4) (i := 103) rfl inX4 tyX4_ok tw29 tw31 tw2 rfl rfl (df4 (by intro k; simp [mO, M0])) dX5_init_32 (Nat.le_of_ble_eq_true rfl) (Nat.le_of_ble_eq_true rfl) ?_
  refine h_dup C dX5_init_35 rfl ?_
  refine h_call C dX5_init_36 (hm_X4 (p := 21) rfl (rfl : ORD[21]? = some 103) (by decide) rfl rfl rfl rfl) tw34 tw2 tw33 rfl ⟨by decide, by decide, by decide⟩ (Or.inr ⟨_, List.mem_of_getElem? (i := 0) rfl⟩) rfl (Nat.le_of_ble_eq_true rfl) ⟨(Nat.le_of_ble_eq_true rfl), (Nat.le_of_ble_eq_true rfl)⟩ (c2 := 23) (s2 := 2192) rfl rfl (Nat.le_of_ble_eq_true rfl) (Nat.le_of_ble_eq_true rfl) rfl ?_
  refine h_aast C (a := 2) (i := 3) (rfl : ORD[1]? = some 2) (by decide) (rfl : ORD[21]? = some 103) (by decide) rfl rfl (vp_lit rfl) dX5_init_39 ?_
  refine h_aload_n C dX5_init_40 1 rfl rfl ?_
  refine h_get C (ci := 5) (T := TX5) (N := 14) (k := 1) (a := 1) (v := gR E 3) rfl inX5 (by decide) tw162 (rfl : ORD[0]? = some 1) (by decide) rfl (by first | (simp [gF0, rv0]; done) | (simp [gF0, rv0]; rfl)) dX5_init_41 ?_
  refine h_iload_n C dX5_init_44 0 rfl rfl ?_
  refine h_new C (ci := 4) (T := TX4) (N := 8) (ty := tyX4) (i := 107) rfl inX4 tyX4_ok tw29 tw31 tw2 rfl rfl (df4 (by intro k; simp [mO, M0])) dX5_init_45 (Nat.le_of_ble_eq_true rfl) (Nat.le_of_ble_eq_true rfl) ?_
  refine h_dup C dX5_init_48 rfl ?_
  refine h_call C dX5_init_49 (hm_X4 (p := 24) rfl (rfl : ORD[24]? = some 107) (by decide) rfl rfl rfl rfl) tw34 tw2 tw33 rfl ⟨by decide, by decide, by decide⟩ (Or.inr ⟨_, List.mem_of_getElem? (i := 0) rfl⟩) rfl (Nat.le_of_ble_eq_true rfl) ⟨(Nat.le_of_ble_eq_true rfl), (Nat.le_of_ble_eq_true rfl)⟩ (c2 := 26) (s2 := 2504) rfl rfl (Nat.le_of_ble_eq_true rfl) (Nat.le_of_ble_eq_true rfl) rfl ?_
  refine h_aast C (a := 3) (i := 3) (rfl : ORD[2]? = some 3) (by decide) (rfl : ORD[24]? = some 107) (by decide) rfl rfl (vp_lit rfl) dX5_init_52 ?_
  refine h_iinc C dX5_init_53 0 rfl (v := 4) (by decide) (Nat.le_of_ble_eq_true rfl) (loc' := [(1, .int 4), (0, gR E 1)]) rfl ?_
  refine h_goto C dX5_init_56 (tgt := 22) (by decide) ?_
  refine h_iload_n C dX5_init_22 0 rfl rfl ?_
  refine h_iconst C dX5_init_23 (v := 4) rfl ?_
  refine h_icmp_ge C dX5_init_24 (tgt := 59) (by decide) (fun _ => ?_) (fun c => absurd (by decide) c)
  refine h_aload_n C dX5_init_59 1 rfl rfl ?_
  refine h_new C (ci := 0) (T := TX0) (N := 5) (ty := tyX0) (i := 4) rfl inX0 tyX0_ok tw67 tw68 tw3 rfl rfl (df0 (by intro k; simp [mO, M0])) dX5_init_60 (Nat.le_of_ble_eq_true rfl) (Nat.le_of_ble_eq_true rfl) ?_
  refine h_dup C dX5_init_63 rfl ?_
  refine h_call C dX5_init_64 (hm_X0 (by intro i k hi; simp at hi; rcases hi with rfl | rfl | rfl | rfl | rfl | rfl | rfl | rfl | rfl | rfl | rfl <;> simp)) tw71 tw3 tw70 rfl ⟨by decide, by decide, by decide⟩ (Or.inl tw69) rfl (Nat.le_of_ble_eq_true rfl) ⟨(Nat.le_of_ble_eq_true rfl), (Nat.le_of_ble_eq_true rfl)⟩ (c2 := 60) (s2 := 5659) rfl rfl (Nat.le_of_ble_eq_true rfl) (Nat.le_of_ble_eq_true rfl) rfl ?_
  refine h_putF C hnm (ci := 5) (T := TX5) (N := 14) (k := 5) (ty := tyX5 5) (ty0 := tyX5) (a := 1) rfl inX5 tyX5_ok nmX5 (by decide) tw166 rfl rfl rfl (fun _ => rfl) (fun _ => rfl) (rfl : ORD[0]? = some 1) (by decide) rfl (Nat.le_of_ble_eq_true rfl) (by simp [gF0, rv0, rvo]) dX5_init_67 ?_
  refine h_aload_n C dX5_init_70 1 rfl rfl ?_
  refine h_new C (ci := 4) (T := TX4) (N := 8) (ty := tyX4) (i := 108) rfl inX4 tyX4_ok tw29 tw31 tw2 rfl rfl (df4 (by intro k; simp [mO, M0])) dX5_init_71 (Nat.le_of_ble_eq_true rfl) (Nat.le_of_ble_eq_true rfl) ?_
  refine h_dup C dX5_init_74 rfl ?_
  refine h_call C dX5_init_75 (hm_X4 (p := 61) rfl (rfl : ORD[61]? = some 108) (by decide) rfl rfl rfl rfl) tw34 tw2 tw33 rfl ⟨by decide, by decide, by decide⟩ (Or.inr ⟨_, List.mem_of_getElem? (i := 0) rfl⟩) rfl (Nat.le_of_ble_eq_true rfl) ⟨(Nat.le_of_ble_eq_true rfl), (Nat.le_of_ble_eq_true rfl)⟩ (c2 := 63) (s2 := 5971) rfl rfl (Nat.le_of_ble_eq_true rfl) (Nat.le_of_ble_eq_true rfl) rfl ?_
  refine h_putF C hnm (ci := 5) (T := TX5) (N := 14) (k := 6) (ty := tyX5 6) (ty0 := tyX5) (a := 1) rfl inX5 tyX5_ok nmX5 (by decide) tw167 rfl rfl rfl (fun _ => rfl) (fun _ => rfl) (rfl : ORD[0]? = some 1) (by decide) rfl (Nat.le_of_ble_eq_true rfl) (by simp [gF0, rv0, rvo]) dX5_init_78 ?_
  refine h_aload_n C dX5_init_81 1 rfl rfl ?_
  refine h_new C (ci := 3) (T := TX3) (N := 9) (ty := tyX3) (i := 16) rfl inX3 tyX3_ok tw91 tw92 tw4 rfl rfl (df3 (by intro k; simp [mO, M0])) dX5_init_82 (Nat.le_of_ble_eq_true rfl) (Nat.le_of_ble_eq_true rfl) ?_
  refine h_dup C dX5_init_85 rfl ?_
  refine h_call C dX5_init_86 (hm_X3 (p := 64) rfl (rfl : ORD[64]? = some 16) (by decide) (by intro k; simp [mO, M0]) rfl rfl rfl rfl rfl rfl rfl rfl rfl rfl rfl rfl rfl rfl rfl rfl rfl rfl) tw95 tw4 tw94 rfl ⟨by decide, by decide, by decide⟩ (Or.inr ⟨_, List.mem_of_getElem? (i := 2) rfl⟩) rfl (Nat.le_of_ble_eq_true rfl) ⟨(Nat.le_of_ble_eq_true rfl), (Nat.le_of_ble_eq_true rfl)⟩ (c2 := 73) (s2 := 6652) rfl rfl (Nat.le_of_ble_eq_true rfl) (Nat.le_of_ble_eq_true rfl) rfl ?_
  refine h_putF C hnm (ci := 5) (T := TX5) (N := 14) (k := 7) (ty := tyX5 7) (ty0 := tyX5) (a := 1) rfl inX5 tyX5_ok nmX5 (by decide) tw168 rfl rfl rfl (fun _ => rfl) (fun _ => rfl) (rfl : ORD[0]? = some 1) (by decide) rfl (Nat.le_of_ble_eq_true rfl) (by simp [gF0, rv0, rvo]) dX5_init_89 ?_
  refine h_aload_n C dX5_init_92 1 rfl rfl ?_
  refine h_new C (ci := 3) (T := TX3) (N := 9) (ty := tyX3) (i := 17) rfl inX3 tyX3_ok tw91 tw92 tw4 rfl rfl (df3 (by intro k; simp [mO, M0])) dX5_init_93 (Nat.le_of_ble_eq_true rfl) (Nat.le_of_ble_eq_true rfl) ?_
  refine h_dup C dX5_init_96 rfl ?_
  refine h_call C dX5_init_97 (hm_X3 (p := 74) rfl (rfl : ORD[74]? = some 17) (by decide) (by intro k; simp [mO, M0]) rfl rfl rfl rfl rfl rfl rfl rfl rfl rfl rfl rfl rfl rfl rfl rfl rfl rfl) tw95 tw4 tw94 rfl ⟨by decide, by decide, by decide⟩ (Or.inr ⟨_, List.mem_of_getElem? (i := 2) rfl⟩) rfl (Nat.le_of_ble_eq_true rfl) ⟨(Nat.le_of_ble_eq_true rfl), (Nat.le_of_ble_eq_true rfl)⟩ (c2 := 83) (s2 := 7333) rfl rfl (Nat.le_of_ble_eq_true rfl) (Nat.le_of_ble_eq_true rfl) rfl ?_
  refine h_putF C hnm (ci := 5) (T := TX5) (N := 14) (k := 8) (ty := tyX5 8) (ty0 := tyX5) (a := 1) rfl inX5 tyX5_ok nmX5 (by decide) tw169 rfl rfl rfl (fun _ => rfl) (fun _ => rfl) (rfl : ORD[0]? = some 1) (by decide) rfl (Nat.le_of_ble_eq_true rfl) (by simp [gF0, rv0, rvo]) dX5_init_100 ?_
  refine h_aload_n C dX5_init_103 1 rfl rfl ?_
  refine h_new C (ci := 1) (T := TX1) (N := 2) (ty := tyX1) (i := 8) rfl inX1 tyX1_ok tw128 tw129 tw5 rfl rfl (df1 (by intro k; simp [mO, M0])) dX5_init_104 (Nat.le_of_ble_eq_true rfl) (Nat.le_of_ble_eq_true rfl) ?_
  refine h_dup C dX5_init_107 rfl ?_
  refine h_bipush C dX5_init_108 (v := 120) rfl ?_
  refine h_call C dX5_init_110 (hm_X1 (p := 84) (len := 120) rfl (rfl : ORD[84]? = some 8) (by decide) rfl rfl (by decide) (by decide) (by decide) (by decide) (by decide)) tw132 tw5 tw131 rfl ⟨by decide, by decide, by decide⟩ (Or.inl tw130) rfl (Nat.le_of_ble_eq_true rfl) ⟨(Nat.le_of_ble_eq_true rfl), (Nat.le_of_ble_eq_true rfl)⟩ (c2 := 85) (s2 := 9383) rfl rfl (Nat.le_of_ble_eq_true rfl) (Nat.le_of_ble_eq_true rfl) rfl ?_
  refine h_putF C hnm (ci := 5) (T := TX5) (N := 14) (k := 9) (ty := tyX5 9) (ty0 := tyX5) (a := 1) rfl inX5 tyX5_ok nmX5 (by decide) tw170 rfl rfl rfl (fun _ => rfl) (fun _ => rfl) (rfl : ORD[0]? = some 1) (by decide) rfl (Nat.le_of_ble_eq_true rfl) (by simp [gF0, rv0, rvo]) dX5_init_113 ?_
  refine h_aload_n C dX5_init_116 1 rfl rfl ?_
  refine h_new C (ci := 1) (T := TX1) (N := 2) (ty := tyX1) (i := 10) rfl inX1 tyX1_ok tw128 tw129 tw5 rfl rfl (df1 (by intro k; simp [mO, M0])) dX5_init_117 (Nat.le_of_ble_eq_true rfl) (Nat.le_of_ble_eq_true rfl) ?_
  refine h_dup C dX5_init_120 rfl ?_
  refine h_sipush C dX5_init_121 (v := 2048) rfl ?_
  refine h_call C dX5_init_124 (hm_X1 (p := 86) (len := 2048) rfl (rfl : ORD[86]? = some 10) (by decide) rfl rfl (by decide) (by decide) (by decide) (by decide) (by decide)) tw132 tw5 tw131 rfl ⟨by decide, by decide, by decide⟩ (Or.inl tw130) rfl (Nat.le_of_ble_eq_true rfl) ⟨(Nat.le_of_ble_eq_true rfl), (Nat.le_of_ble_eq_true rfl)⟩ (c2 := 87) (s2 := 11433) rfl rfl (Nat.le_of_ble_eq_true rfl) (Nat.le_of_ble_eq_true rfl) rfl ?_
  refine h_putF C hnm (ci := 5) (T := TX5) (N := 14) (k := 10) (ty := tyX5 10) (ty0 := tyX5) (a := 1) rfl inX5 tyX5_ok nmX5 (by decide) tw171 rfl rfl rfl (fun _ => rfl) (fun _ => rfl) (rfl : ORD[0]? = some 1) (by decide) rfl (Nat.le_of_ble_eq_true rfl) (by simp [gF0, rv0, rvo]) dX5_init_127 ?_
  refine h_aload_n C dX5_init_130 1 rfl rfl ?_
  refine h_new C (ci := 2) (T := TX2) (N := 3) (ty := tyX2) (i := 12) rfl inX2 tyX2_ok tw145 tw146 tw7 rfl rfl (df2 (by intro k; simp [mO, M0])) dX5_init_131 (Nat.le_of_ble_eq_true rfl) (Nat.le_of_ble_eq_true rfl) ?_
  refine h_dup C dX5_init_134 rfl ?_
  refine h_call C dX5_init_135 (hm_X2 (p := 88) rfl (rfl : ORD[88]? = some 12) (by decide) rfl rfl) tw149 tw7 tw148 rfl ⟨by decide, by decide, by decide⟩ (Or.inr ⟨_, List.mem_of_getElem? (i := 4) rfl⟩) rfl (Nat.le_of_ble_eq_true rfl) ⟨(Nat.le_of_ble_eq_true rfl), (Nat.le_of_ble_eq_true rfl)⟩ (c2 := 89) (s2 := 11496) rfl rfl (Nat.le_of_ble_eq_true rfl) (Nat.le_of_ble_eq_true rfl) rfl ?_
  refine h_putF C hnm (ci := 5) (T := TX5) (N := 14) (k := 11) (ty := tyX5 11) (ty0 := tyX5) (a := 1) rfl inX5 tyX5_ok nmX5 (by decide) tw172 rfl rfl rfl (fun _ => rfl) (fun _ => rfl) (rfl : ORD[0]? = some 1) (by decide) rfl (Nat.le_of_ble_eq_true rfl) (by simp [gF0, rv0, rvo]) dX5_init_138 ?_
  refine h_aload_n C dX5_init_141 1 rfl rfl ?_
  refine h_iconst C dX5_init_142 (v := 4) rfl ?_
  refine h_newarr C (at0 := .int) (t0 := 0) (len := 4) (i := 14) tw66 rfl (fun C9 h9 => by cases h9) rfl (gE0_I rfl) (fun _ => rfl) (by decide) (by decide) (by decide) dX5_init_143 (Nat.le_of_ble_eq_true rfl) (Nat.le_of_ble_eq_true rfl) ?_
  refine h_putF C hnm (ci := 5) (T := TX5) (N := 14) (k := 12) (ty := tyX5 12) (ty0 := tyX5) (a := 1) rfl inX5 tyX5_ok nmX5 (by decide) tw173 rfl rfl rfl (fun _ => rfl) (fun _ => rfl) (rfl : ORD[0]? = some 1) (by decide) rfl (Nat.le_of_ble_eq_true rfl) (by simp [gF0, rv0, rvo]) dX5_init_145 ?_
  refine h_aload_n C dX5_init_148 1 rfl rfl ?_
  refine h_iconst C dX5_init_149 (v := 4) rfl ?_
  refine h_newarr C (at0 := .int) (t0 := 0) (len := 4) (i := 15) tw66 rfl (fun C9 h9 => by cases h9) rfl (gE0_I rfl) (fun _ => rfl) (by decide) (by decide) (by decide) dX5_init_150 (Nat.le_of_ble_eq_true rfl) (Nat.le_of_ble_eq_true rfl) ?_
  refine h_putF C hnm (ci := 5) (T := TX5) (N := 14) (k := 13) (ty := tyX5 13) (ty0 := tyX5) (a := 1) rfl inX5 tyX5_ok nmX5 (by decide) tw174 rfl rfl rfl (fun _ => rfl) (fun _ => rfl) (rfl : ORD[0]? = some 1) (by decide) rfl (Nat.le_of_ble_eq_true rfl) (by simp [gF0, rv0, rvo]) dX5_init_152 ?_
  exact h_ret C dX5_init_155 (Nat.le_of_ble_eq_true rfl) (Nat.le_of_ble_eq_true rfl)
abbrev rmX6i : Room := { frames := 1, cells := 15, slots := 17508, locals := 14 }
set_option maxRecDepth 100000 in
set_option maxHeartbeats 8000000 in
theorem hm_X6 {l : Launch} {E : MK} {A : AS} : hMet l E yX6_init rmX6i [gR E 40] A 93 ((40, 26) :: (40, 25) :: (40, 20) :: (40, 19) :: (40, 18) :: (40, 16) :: (40, 15) :: (40, 14) :: (40, 9) :: (40, 8) :: (40, 7) :: (40, 4) :: (40, 3) :: (40, 2) :: (40, 1) :: A) 108 := by
  refine h_met (cc := cX6_init) (maxL := 1) (loc := [(0, gR E 40)]) (by decide +kernel) rfl tw1030 (Nat.le_of_ble_eq_true rfl) rfl (fun K hK hnm C => ?_)
  have C : GC0 K E cX6_init RX6 1 none rmX6i := C
  refine h_aload_n C dX6_init_0 0 rfl rfl ?_
  refine h_objInit C tw1031 tw27 tw28 dX6_init_1 (Nat.le_of_ble_eq_true rfl) (Nat.le_of_ble_eq_true rfl) ?_
  refine h_aload_n C dX6_init_4 0 rfl rfl ?_
  refine h_sipush C dX6_init_5 (v := 1241) rfl ?_
  refine h_newarr C (at0 := .int) (t0 := 0) (len := 1241) (i := 41) tw66 rfl (fun C9 h9 => by cases h9) rfl (gE0_I rfl) (fun _ => rfl) (by decide) (by decide) (by decide) dX6_init_8 (Nat.le_of_ble_eq_true rfl) (Nat.le_of_ble_eq_true rfl) ?_
  refine h_putF C hnm (ci := 6) (T := TX6) (N := 29) (k := 1) (ty := tyX6 1) (ty0 := tyX6) (a := 40) rfl inX6 tyX6_ok nmX6 (by decide) tw1033 rfl rfl rfl (fun _ => rfl) (fun _ => rfl) (rfl : ORD[92]? = some 40) (by decide) rfl (Nat.le_of_ble_eq_true rfl) (by simp [gF0, rv0, rvo]) dX6_init_10 ?_
  refine h_aload_n C dX6_init_13 0 rfl rfl ?_
  refine h_bipush C dX6_init_14 (v := 60) rfl ?_
  refine h_newarr C (at0 := .int) (t0 := 0) (len := 60) (i := 42) tw66 rfl (fun C9 h9 => by cases h9) rfl (gE0_I rfl) (fun _ => rfl) (by decide) (by decide) (by decide) dX6_init_16 (Nat.le_of_ble_eq_true rfl) (Nat.le_of_ble_eq_true rfl) ?_
  refine h_putF C hnm (ci := 6) (T := TX6) (N := 29) (k := 2) (ty := tyX6 2) (ty0 := tyX6) (a := 40) rfl inX6 tyX6_ok nmX6 (by decide) tw1034 rfl rfl rfl (fun _ => rfl) (fun _ => rfl) (rfl : ORD[92]? = some 40) (by decide) rfl (Nat.le_of_ble_eq_true rfl) (by simp [gF0, rv0, rvo]) dX6_init_18 ?_
  refine h_aload_n C dX6_init_21 0 rfl rfl ?_
  refine h_bipush C dX6_init_22 (v := 60) rfl ?_
  refine h_newarr C (at0 := .int) (t0 := 0) (len := 60) (i := 43) tw66 rfl (fun C9 h9 => by cases h9) rfl (gE0_I rfl) (fun _ => rfl) (by decide) (by decide) (by decide) dX6_init_24 (Nat.le_of_ble_eq_true rfl) (Nat.le_of_ble_eq_true rfl) ?_
  refine h_putF C hnm (ci := 6) (T := TX6) (N := 29) (k := 3) (ty := tyX6 3) (ty0 := tyX6) (a := 40) rfl inX6 tyX6_ok nmX6 (by decide) tw1035 rfl rfl rfl (fun _ => rfl) (fun _ => rfl) (rfl : ORD[92]? = some 40) (by decide) rfl (Nat.le_of_ble_eq_true rfl) (by simp [gF0, rv0, rvo]) dX6_init_26 ?_
  refine h_aload_n C dX6_init_29 0 rfl rfl ?_
  refine h_bipush C dX6_init_30 (v := 60) rfl ?_
  refine h_newarr C (at0 := .int) (t0 := 0) (len := 60) (i := 44) tw66 rfl (fun C9 h9 => by cases h9) rfl (gE0_I rfl) (fun _ => rfl) (by decide) (by decide) (by decide) dX6_init_32 (Nat.le_of_ble_eq_true rfl) (Nat.le_of_ble_eq_true rfl) ?_
  refine h_putF C hnm (ci := 6) (T := TX6) (N := 29) (k := 4) (ty := tyX6 4) (ty0 := tyX6) (a := 40) rfl inX6 tyX6_ok nmX6 (by decide) tw1036 rfl rfl rfl (fun _ => rfl) (fun _ => rfl) (rfl : ORD[92]? = some 40) (by decide) rfl (Nat.le_of_ble_eq_true rfl) (by simp [gF0, rv0, rvo]) dX6_init_34 ?_
  refine h_aload_n C dX6_init_37 0 rfl rfl ?_
  refine h_iconst C dX6_init_38 (v := 4) rfl ?_
  refine h_newarr C (at0 := .int) (t0 := 0) (len := 4) (i := 45) tw66 rfl (fun C9 h9 => by cases h9) rfl (gE0_I rfl) (fun _ => rfl) (by decide) (by decide) (by decide) dX6_init_39 (Nat.le_of_ble_eq_true rfl) (Nat.le_of_ble_eq_true rfl) ?_
  refine h_putF C hnm (ci := 6) (T := TX6) (N := 29) (k := 7) (ty := tyX6 7) (ty0 := tyX6) (a := 40) rfl inX6 tyX6_ok nmX6 (by decide) tw1039 rfl rfl rfl (fun _ => rfl) (fun _ => rfl) (rfl : ORD[92]? = some 40) (by decide) rfl (Nat.le_of_ble_eq_true rfl) (by simp [gF0, rv0, rvo]) dX6_init_41 ?_
  refine h_aload_n C dX6_init_44 0 rfl rfl ?_
  refine h_iconst C dX6_init_45 (v := 4) rfl ?_
  refine h_newarr C (at0 := .int) (t0 := 0) (len := 4) (i := 46) tw66 rfl (fun C9 h9 => by cases h9) rfl (gE0_I rfl) (fun _ => rfl) (by decide) (by decide) (by decide) dX6_init_46 (Nat.le_of_ble_eq_true rfl) (Nat.le_of_ble_eq_true rfl) ?_
  refine h_putF C hnm (ci := 6) (T := TX6) (N := 29) (k := 8) (ty := tyX6 8) (ty0 := tyX6) (a := 40) rfl inX6 tyX6_ok nmX6 (by decide) tw1040 rfl rfl rfl (fun _ => rfl) (fun _ => rfl) (rfl : ORD[92]? = some 40) (by decide) rfl (Nat.le_of_ble_eq_true rfl) (by simp [gF0, rv0, rvo]) dX6_init_48 ?_
  refine h_aload_n C dX6_init_51 0 rfl rfl ?_
  refine h_sipush C dX6_init_52 (v := 600) rfl ?_
  refine h_newarr C (at0 := .int) (t0 := 0) (len := 600) (i := 47) tw66 rfl (fun C9 h9 => by cases h9) rfl (gE0_I rfl) (fun _ => rfl) (by decide) (by decide) (by decide) dX6_init_55 (Nat.le_of_ble_eq_true rfl) (Nat.le_of_ble_eq_true rfl) ?_
  refine h_putF C hnm (ci := 6) (T := TX6) (N := 29) (k := 9) (ty := tyX6 9) (ty0 := tyX6) (a := 40) rfl inX6 tyX6_ok nmX6 (by decide) tw1041 rfl rfl rfl (fun _ => rfl) (fun _ => rfl) (rfl : ORD[92]? = some 40) (by decide) rfl (Nat.le_of_ble_eq_true rfl) (by simp [gF0, rv0, rvo]) dX6_init_57 ?_
  refine h_aload_n C dX6_init_60 0 rfl rfl ?_
  refine h_bipush C dX6_init_61 (v := 60) rfl ?_
  refine h_newarr C (at0 := .int) (t0 := 0) (len := 60) (i := 48) tw66 rfl (fun C9 h9 => by cases h9) rfl (gE0_I rfl) (fun _ => rfl) (by decide) (by decide) (by decide) dX6_init_63 (Nat.le_of_ble_eq_true rfl) (Nat.le_of_ble_eq_true rfl) ?_
  refine h_putF C hnm (ci := 6) (T := TX6) (N := 29) (k := 14) (ty := tyX6 14) (ty0 := tyX6) (a := 40) rfl inX6 tyX6_ok nmX6 (by decide) tw1046 rfl rfl rfl (fun _ => rfl) (fun _ => rfl) (rfl : ORD[92]? = some 40) (by decide) rfl (Nat.le_of_ble_eq_true rfl) (by simp [gF0, rv0, rvo]) dX6_init_65 ?_
  refine h_aload_n C dX6_init_68 0 rfl rfl ?_
  refine h_bipush C dX6_init_69 (v := 60) rfl ?_
  refine h_newarr C (at0 := .int) (t0 := 0) (len := 60) (i := 49) tw66 rfl (fun C9 h9 => by cases h9) rfl (gE0_I rfl) (fun _ => rfl) (by decide) (by decide) (by decide) dX6_init_71 (Nat.le_of_ble_eq_true rfl) (Nat.le_of_ble_eq_true rfl) ?_
  refine h_putF C hnm (ci := 6) (T := TX6) (N := 29) (k := 15) (ty := tyX6 15) (ty0 := tyX6) (a := 40) rfl inX6 tyX6_ok nmX6 (by decide) tw1047 rfl rfl rfl (fun _ => rfl) (fun _ => rfl) (rfl : ORD[92]? = some 40) (by decide) rfl (Nat.le_of_ble_eq_true rfl) (by simp [gF0, rv0, rvo]) dX6_init_73 ?_
  refine h_aload_n C dX6_init_76 0 rfl rfl ?_
  refine h_bipush C dX6_init_77 (v := 60) rfl ?_
  refine h_newarr C (at0 := .int) (t0 := 0) (len := 60) (i := 50) tw66 rfl (fun C9 h9 => by cases h9) rfl (gE0_I rfl) (fun _ => rfl) (by decide) (by decide) (by decide) dX6_init_79 (Nat.le_of_ble_eq_true rfl) (Nat.le_of_ble_eq_true rfl) ?_
  refine h_putF C hnm (ci := 6) (T := TX6) (N := 29) (k := 16) (ty := tyX6 16) (ty0 := tyX6) (a := 40) rfl inX6 tyX6_ok nmX6 (by decide) tw1048 rfl rfl rfl (fun _ => rfl) (fun _ => rfl) (rfl : ORD[92]? = some 40) (by decide) rfl (Nat.le_of_ble_eq_true rfl) (by simp [gF0, rv0, rvo]) dX6_init_81 ?_
  refine h_aload_n C dX6_init_84 0 rfl rfl ?_
  refine h_bipush C dX6_init_85 (v := 120) rfl ?_
  refine h_newarr C (at0 := .char) (t0 := 1) (len := 120) (i := 51) tw144 rfl (fun C9 h9 => by cases h9) rfl (gE0_C rfl) (fun _ => rfl) (by decide) (by decide) (by decide) dX6_init_87 (Nat.le_of_ble_eq_true rfl) (Nat.le_of_ble_eq_true rfl) ?_
  refine h_putF C hnm (ci := 6) (T := TX6) (N := 29) (k := 18) (ty := tyX6 18) (ty0 := tyX6) (a := 40) rfl inX6 tyX6_ok nmX6 (by decide) tw1050 rfl rfl rfl (fun _ => rfl) (fun _ => rfl) (rfl : ORD[92]? = some 40) (by decide) rfl (Nat.le_of_ble_eq_true rfl) (by simp [gF0, rv0, rvo]) dX6_init_89 ?_
  refine h_aload_n C dX6_init_92 0 rfl rfl ?_
  refine h_sipush C dX6_init_93 (v := 128) rfl ?_
  refine h_newarr C (at0 := .long) (t0 := 2) (len := 128) (i := 52) tw127 rfl (fun C9 h9 => by cases h9) rfl (gE0_L rfl) (fun _ => rfl) (by decide) (by decide) (by decide) dX6_init_96 (Nat.le_of_ble_eq_true rfl) (Nat.le_of_ble_eq_true rfl) ?_
  refine h_putF C hnm (ci := 6) (T := TX6) (N := 29) (k := 19) (ty := tyX6 19) (ty0 := tyX6) (a := 40) rfl inX6 tyX6_ok nmX6 (by decide) tw1051 rfl rfl rfl (fun _ => rfl) (fun _ => rfl) (rfl : ORD[92]? = some 40) (by decide) rfl (Nat.le_of_ble_eq_true rfl) (by simp [gF0, rv0, rvo]) dX6_init_98 ?_
  refine h_aload_n C dX6_init_101 0 rfl rfl ?_
  refine h_sipush C dX6_init_102 (v := 1400) rfl ?_
  refine h_newarr C (at0 := .int) (t0 := 0) (len := 1400) (i := 53) tw66 rfl (fun C9 h9 => by cases h9) rfl (gE0_I rfl) (fun _ => rfl) (by decide) (by decide) (by decide) dX6_init_105 (Nat.le_of_ble_eq_true rfl) (Nat.le_of_ble_eq_true rfl) ?_
  refine h_putF C hnm (ci := 6) (T := TX6) (N := 29) (k := 20) (ty := tyX6 20) (ty0 := tyX6) (a := 40) rfl inX6 tyX6_ok nmX6 (by decide) tw1052 rfl rfl rfl (fun _ => rfl) (fun _ => rfl) (rfl : ORD[92]? = some 40) (by decide) rfl (Nat.le_of_ble_eq_true rfl) (by simp [gF0, rv0, rvo]) dX6_init_107 ?_
  refine h_aload_n C dX6_init_110 0 rfl rfl ?_
  refine h_sipush C dX6_init_111 (v := 12410) rfl ?_
  refine h_newarr C (at0 := .int) (t0 := 0) (len := 12410) (i := 54) tw66 rfl (fun C9 h9 => by cases h9) rfl (gE0_I rfl) (fun _ => rfl) (by decide) (by decide) (by decide) dX6_init_114 (Nat.le_of_ble_eq_true rfl) (Nat.le_of_ble_eq_true rfl) ?_
  refine h_putF C hnm (ci := 6) (T := TX6) (N := 29) (k := 25) (ty := tyX6 25) (ty0 := tyX6) (a := 40) rfl inX6 tyX6_ok nmX6 (by decide) tw1057 rfl rfl rfl (fun _ => rfl) (fun _ => rfl) (rfl : ORD[92]? = some 40) (by decide) rfl (Nat.le_of_ble_eq_true rfl) (by simp [gF0, rv0, rvo]) dX6_init_116 ?_
  refine h_aload_n C dX6_init_119 0 rfl rfl ?_
  refine h_sipush C dX6_init_120 (v := 1241) rfl ?_
  refine h_newarr C (at0 := .int) (t0 := 0) (len := 1241) (i := 55) tw66 rfl (fun C9 h9 => by cases h9) rfl (gE0_I rfl) (fun _ => rfl) (by decide) (by decide) (by decide) dX6_init_123 (Nat.le_of_ble_eq_true rfl) (Nat.le_of_ble_eq_true rfl) ?_
  refine h_putF C hnm (ci := 6) (T := TX6) (N := 29) (k := 26) (ty := tyX6 26) (ty0 := tyX6) (a := 40) rfl inX6 tyX6_ok nmX6 (by decide) tw1058 rfl rfl rfl (fun _ => rfl) (fun _ => rfl) (rfl : ORD[92]? = some 40) (by decide) rfl (Nat.le_of_ble_eq_true rfl) (by simp [gF0, rv0, rvo]) dX6_init_125 ?_
  exact h_ret C dX6_init_128 (Nat.le_of_ble_eq_true rfl) (Nat.le_of_ble_eq_true rfl)
abbrev A6 : AS := ((40, 26) :: (40, 25) :: (40, 20) :: (40, 19) :: (40, 18) :: (40, 16) :: (40, 15) :: (40, 14) :: (40, 9) :: (40, 8) :: (40, 7) :: (40, 4) :: (40, 3) :: (40, 2) :: (40, 1) :: A5)
