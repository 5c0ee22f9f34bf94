-- PURE: shares, widths, the greatest of widths
theorem shr_tab : ∀ m, m < 61 → ∀ n, n < 61 → n ≤ m → 1 ≤ m → (FP.fdiv (FP.i2f (Int32.ofNat n)) (FP.i2f (Int32.ofNat m))).toNat ≤ 1065353216 := by decide +kernel
/-- a float from 0 to 1 -/
def isS (x : UInt32) : Prop := ∃ c q, NN x c q ∧ q ≤ -23
theorem isS_of {x : UInt32} (h : x.toNat ≤ 1065353216) : isS x := by
  have t1 : FP.Core.b32.tails = 2 ^ 23 := by decide
  have t2 : FP.Core.b32.exps = 256 := by decide
  have t3 : FP.Core.b32.qmin = -149 := by decide
  have hx : x = UInt32.ofNat x.toNat := by simp
  generalize x.toNat = n at h hx
  by_cases c0 : n < 2 ^ 23
  · refine ⟨n, -149, ⟨⟨by omega, by decide, by decide, Or.inl rfl⟩, ?_⟩, by decide⟩
    rw [hx]; congr 1
    unfold FP.Core.encode FP.Core.assemble
    simp only [t1]
    rw [if_pos c0, t2]; simp
  · refine ⟨2 ^ 23 + n % 2 ^ 23, ((n / 2 ^ 23 : Nat) : Int) - 150, ⟨⟨by omega, by omega, by omega, Or.inr (by omega)⟩, ?_⟩, by omega⟩
    rw [hx]; congr 1
    unfold FP.Core.encode FP.Core.assemble
    simp only [t1]
    rw [if_neg (by omega), t2, t3, show (((n / 2 ^ 23 : Nat) : Int) - 150 - -149).toNat + 1 = n / 2 ^ 23 by omega]
    simp; omega
theorem isS_num {x : UInt32} (h : isS x) : isNaN32 x = false := by
  obtain ⟨c, q, h, -⟩ := h
  rw [h.2]; exact num_of h.1
theorem zero_nn : NN 0 0 (-149) := ⟨⟨by decide, by decide, by decide, Or.inl rfl⟩, by decide +kernel⟩
theorem fsub_nn {x y : UInt32} {c d : Nat} {q r : Int} (h : NN x c q) (h2 : NN y d r) : FP.fsub x y = UInt32.ofNat (FP.Core.encode FP.Core.b32 (FP.Core.roundRatio FP.Core.b32 (FP.Core.sumSign false true (((FP.Core.inUnits c q (min q r) : Nat) : Int) - ((FP.Core.inUnits d r (min q r) : Nat) : Int))) (((FP.Core.inUnits c q (min q r) : Nat) : Int) - ((FP.Core.inUnits d r (min q r) : Nat) : Int)).natAbs 1 (min q r))) := by
  show UInt32.ofNat (FP.Core.encode FP.Core.b32 (FP.Core.round FP.Core.b32 (FP.Core.exactSum (FP.Core.decode FP.Core.b32 x.toNat) (FP.Core.negate (FP.Core.decode FP.Core.b32 y.toNat))))) = _
  rw [h.2, h2.2, dec_of h.1, dec_of h2.1]
  have e : FP.Core.sumUnits false c q true d r (min q r) = ((FP.Core.inUnits c q (min q r) : Nat) : Int) - ((FP.Core.inUnits d r (min q r) : Nat) : Int) := by
    unfold FP.Core.sumUnits FP.Core.signed
    simp; omega
  show UInt32.ofNat (FP.Core.encode FP.Core.b32 (FP.Core.roundRatio FP.Core.b32 (FP.Core.sumSign false true (FP.Core.sumUnits false c q true d r (min q r))) (FP.Core.sumUnits false c q true d r (min q r)).natAbs 1 (min q r))) = _
  rw [e]
theorem sub_lt {x y : UInt32} {c d : Nat} {q r : Int} (h : NN x c q) (h2 : NN y d r) (hq : q ≤ -23) (hr : r ≤ -23) (hl : FP.Core.inUnits d r (min q r) < FP.Core.inUnits c q (min q r)) : ∃ c' q', okD32 c' q' ∧ 1 ≤ c' ∧ FP.fsub x y = UInt32.ofNat (FP.Core.encode FP.Core.b32 (.fin false c' q')) ∧ FP.fsub y x = UInt32.ofNat (FP.Core.encode FP.Core.b32 (.fin true c' q')) := by
  have hb : FP.Core.inUnits c q (min q r) < 2 ^ (24 + (q - min q r).toNat) := by
    unfold FP.Core.inUnits
    rw [Nat.pow_add]
    exact Nat.mul_lt_mul_of_pos_right h.1.1 (Nat.two_pow_pos _)
  have g1 := h.1.2.1
  have g2 := h2.1.2.1
  have e1 := fsub_nn h h2
  have e2 := fsub_nn h2 h
  rw [show min r q = min q r from Int.min_comm r q] at e2
  generalize FP.Core.inUnits c q (min q r) = u at *
  generalize FP.Core.inUnits d r (min q r) = w at *
  obtain ⟨c', q', k1, k2, k3⟩ := round_32 (n := u - w) (t := (q - min q r).toNat) (e := min q r) (by omega) (by omega) (by omega) (by omega)
  refine ⟨c', q', k1, k2, ?_, ?_⟩
  · rw [e1]
    have s1 : FP.Core.sumSign false true ((u : Int) - (w : Int)) = false := by
      unfold FP.Core.sumSign
      rw [if_neg (by omega)]; simp; omega
    rw [s1, show ((u : Int) - (w : Int)).natAbs = u - w by omega, k3]
  · rw [e2]
    have s1 : FP.Core.sumSign false true ((w : Int) - (u : Int)) = true := by
      unfold FP.Core.sumSign
      rw [if_neg (by omega)]; simp; omega
    rw [s1, show ((w : Int) - (u : Int)).natAbs = u - w by omega, k3]
theorem sub_eq {x y : UInt32} {c d : Nat} {q r : Int} (h : NN x c q) (h2 : NN y d r) (hl : FP.Core.inUnits d r (min q r) = FP.Core.inUnits c q (min q r)) : FP.fsub x y = 0 := by
  rw [fsub_nn h h2, hl, Int.sub_self]
  have e : FP.Core.roundRatio FP.Core.b32 (FP.Core.sumSign false true 0) (Int.natAbs 0) 1 (min q r) = .fin false 0 FP.Core.b32.qmin := rfl
  rw [e]
  decide +kernel
/-- how far two shares are apart -/
def wid (x y : UInt32) : UInt32 := if 0 ≤ Op.cmpValue (FP.fcmp x y) .g then FP.fsub x y else FP.fsub y x
def isN (w : UInt32) : Prop := ∃ c q, NN w c q
theorem wid_ok {x y : UInt32} (hx : isS x) (hy : isS y) : isN (wid x y) ∧ isNaN32 (FP.fsub x y) = false ∧ isNaN32 (FP.fsub y x) = false ∧ (0 ≤ Op.cmpValue (FP.fcmp (FP.fsub x y) 0) .g → FP.fsub x y = wid x y) ∧ (¬ 0 ≤ Op.cmpValue (FP.fcmp (FP.fsub x y) 0) .g → FP.fneg (FP.fsub x y) = wid x y) := by
  obtain ⟨c, q, h, hq⟩ := hx
  obtain ⟨d, r, h2, hr⟩ := hy
  have hcmp : 0 ≤ Op.cmpValue (FP.fcmp x y) .g ↔ FP.Core.inUnits d r (min q r) ≤ FP.Core.inUnits c q (min q r) := by
    rw [cmp_nn h h2, (cmpV_le .g).2.2]; omega
  have hw : wid x y = if FP.Core.inUnits d r (min q r) ≤ FP.Core.inUnits c q (min q r) then FP.fsub x y else FP.fsub y x := by
    unfold wid
    by_cases z : 0 ≤ Op.cmpValue (FP.fcmp x y) .g
    · rw [if_pos z, if_pos (hcmp.mp z)]
    · rw [if_neg z, if_neg (fun w => z (hcmp.mpr w))]
  rw [hw]
  have z0 := zero_nn
  rcases Nat.lt_trichotomy (FP.Core.inUnits c q (min q r)) (FP.Core.inUnits d r (min q r)) with l | l | l
  · have l' := l
    rw [show min q r = min r q from Int.min_comm q r] at l'
    obtain ⟨c', q', k1, k2, k3, k4⟩ := sub_lt h2 h hr hq l'
    rw [if_neg (by omega), k3, k4]
    have hcm : FP.fcmp (UInt32.ofNat (FP.Core.encode FP.Core.b32 (.fin true c' q'))) 0 = some (compare (FP.Core.signed true (FP.Core.inUnits c' q' (min q' (-149)))) (FP.Core.signed false (FP.Core.inUnits 0 (-149) (min q' (-149))))) := by
      conv => lhs; rw [z0.2]
      exact cmp_of k1 z0.1
    have hpos : 0 < FP.Core.inUnits c' q' (min q' (-149)) := Nat.mul_pos k2 (Nat.two_pow_pos _)
    have hz : FP.Core.inUnits 0 (-149) (min q' (-149)) = 0 := by unfold FP.Core.inUnits; simp
    rw [hcm, (cmpV_le .g).2.2, hz]
    refine ⟨⟨c', q', k1, rfl⟩, num_of k1, num_of k1, fun w => ?_, fun _ => neg_of k1⟩
    unfold FP.Core.signed at w
    simp at w; omega
  · have e1 := sub_eq h h2 l.symm
    have e2 : FP.fsub y x = 0 := sub_eq h2 h (by rw [show min r q = min q r from Int.min_comm r q]; exact l)
    rw [if_pos (by omega), e1, e2]
    refine ⟨⟨0, -149, z0⟩, by decide, by decide, fun _ => rfl, fun w => absurd ?_ w⟩
    decide +kernel
  · obtain ⟨c', q', k1, k2, k3, k4⟩ := sub_lt h h2 hq hr l
    rw [if_pos (by omega), k3, k4]
    have hcm : FP.fcmp (UInt32.ofNat (FP.Core.encode FP.Core.b32 (.fin false c' q'))) 0 = some (compare (FP.Core.signed false (FP.Core.inUnits c' q' (min q' (-149)))) (FP.Core.signed false (FP.Core.inUnits 0 (-149) (min q' (-149))))) := by
      conv => lhs; rw [z0.2]
      exact cmp_of k1 z0.1
    have hz : FP.Core.inUnits 0 (-149) (min q' (-149)) = 0 := by unfold FP.Core.inUnits; simp
    rw [hcm, (cmpV_le .g).2.2, hz]
    refine ⟨⟨c', q', k1, rfl⟩, num_of k1, num_of k1, fun _ => rfl, fun w => absurd ?_ w⟩
    unfold FP.Core.signed
    simp
def vlW (w : UInt32) : Nat := match FP.Core.decode FP.Core.b32 w.toNat with | .fin _ c q => vl c q | _ => 0
theorem vlW_nn {w : UInt32} {c : Nat} {q : Int} (h : NN w c q) : vlW w = vl c q := by
  unfold vlW
  rw [h.2, dec_of h.1]
theorem vlW_inj {w z : UInt32} (h : isN w) (h2 : isN z) (e : vlW w = vlW z) : w = z := by
  obtain ⟨c, q, h⟩ := h
  obtain ⟨d, r, h2⟩ := h2
  rw [vlW_nn h, vlW_nn h2] at e
  obtain ⟨rfl, rfl⟩ := vl_inj h.1 h2.1 e
  rw [h.2, h2.2]
theorem cmpW {w z : UInt32} (h : isN w) (h2 : isN z) : (Op.cmpValue (FP.fcmp w z) .l ≤ 0 ↔ vlW w ≤ vlW z) ∧ (Op.cmpValue (FP.fcmp w z) .l < 0 ↔ vlW w < vlW z) := by
  obtain ⟨c, q, h⟩ := h
  obtain ⟨d, r, h2⟩ := h2
  rw [vlW_nn h, vlW_nn h2]
  exact nn_le h h2 .l
def mxw (g w : UInt32) : UInt32 := if Op.cmpValue (FP.fcmp w g) .l ≤ 0 then g else w
theorem mxw_v {g w : UInt32} (h : isN g) (h2 : isN w) : isN (mxw g w) ∧ vlW (mxw g w) = max (vlW g) (vlW w) := by
  unfold mxw
  by_cases c : Op.cmpValue (FP.fcmp w g) .l ≤ 0
  · rw [if_pos c]; exact ⟨h, by have := (cmpW h2 h).1.mp c; omega⟩
  · rw [if_neg c]; exact ⟨h2, by have := mt (cmpW h2 h).1.mpr c; omega⟩
theorem mxl_v : ∀ (l : List UInt32) (g : UInt32), isN g → (∀ w ∈ l, isN w) → isN (l.foldl mxw g) ∧ vlW (l.foldl mxw g) = max (vlW g) ((l.map vlW).foldl max 0)
  | [], g, h, _ => ⟨h, by simp⟩
  | w :: l, g, h, h2 => by
    obtain ⟨a, b⟩ := mxw_v h (h2 w List.mem_cons_self)
    obtain ⟨a2, b2⟩ := mxl_v l (mxw g w) a (fun z hz => h2 z (List.mem_cons_of_mem _ hz))
    refine ⟨a2, ?_⟩
    have fm : ∀ (l : List Nat) (x : Nat), l.foldl max x = max x (l.foldl max 0) := fun l => by
      induction l with
      | nil => intro x; simp
      | cons y l ih => intro x; rw [List.foldl_cons, List.foldl_cons, ih, ih (max 0 y)]; omega
    show vlW (l.foldl mxw (mxw g w)) = max (vlW g) ((l.map vlW).foldl max (max 0 (vlW w)))
    rw [b2, b, fm _ (max 0 (vlW w))]
    omega
/-- the greatest of two lists of widths -/
theorem mx_join {l1 l2 : List UInt32} (h1 : ∀ w ∈ l1, isN w) (h2 : ∀ w ∈ l2, isN w) : (Op.cmpValue (FP.fcmp (l1.foldl mxw 0) (l2.foldl mxw 0)) .l < 0 → l2.foldl mxw 0 = (l1 ++ l2).foldl mxw 0) ∧ (¬ Op.cmpValue (FP.fcmp (l1.foldl mxw 0) (l2.foldl mxw 0)) .l < 0 → l1.foldl mxw 0 = (l1 ++ l2).foldl mxw 0) := by
  have hz : isN 0 := ⟨0, -149, zero_nn⟩
  have v0 : vlW 0 = 0 := by rw [vlW_nn zero_nn]; rfl
  obtain ⟨a1, b1⟩ := mxl_v l1 0 hz h1
  obtain ⟨a2, b2⟩ := mxl_v l2 0 hz h2
  obtain ⟨a3, b3⟩ := mxl_v l2 (l1.foldl mxw 0) a1 h2
  rw [List.foldl_append, (cmpW a1 a2).2]
  refine ⟨fun c => vlW_inj a2 a3 ?_, fun c => vlW_inj a1 a3 ?_⟩
  · rw [b3]; rw [b2, v0] at c ⊢; omega
  · rw [b3]; rw [b2, v0] at c; omega
