-- PURE: floats and doubles, over the model's own words
theorem nr_1 (x : Nat) : FP.Core.nearest x 1 = x := by
  unfold FP.Core.nearest
  rw [Nat.mod_one, if_pos (by decide), Nat.div_one]
theorem nr_k (m k : Nat) : FP.Core.nearest (m * 2 ^ k) (2 ^ k) = m := by
  unfold FP.Core.nearest
  have := Nat.two_pow_pos k
  rw [Nat.mul_mod_left, if_pos (by omega), Nat.mul_div_cancel _ this]
theorem log2_b {n : Nat} (h : 1 ≤ n) : 2 ^ n.log2 ≤ n ∧ n < 2 ^ (n.log2 + 1) := ⟨Nat.log2_self_le (by omega), Nat.lt_log2_self⟩
theorem log2_k {c : Nat} (h : 1 ≤ c) (k : Nat) : (c * 2 ^ k).log2 = c.log2 + k := by
  obtain ⟨h1, h2⟩ := log2_b h
  have hk := Nat.two_pow_pos k
  refine (Nat.log2_eq_iff (by have := Nat.mul_pos h hk; omega)).mpr ⟨?_, ?_⟩
  · rw [Nat.pow_add]; exact Nat.mul_le_mul_right _ h1
  · rw [show c.log2 + k + 1 = (c.log2 + 1) + k by omega, Nat.pow_add]; exact Nat.mul_lt_mul_of_pos_right h2 hk
theorem lead_1 {n : Nat} (h : 1 ≤ n) : FP.Core.leading n 1 = (n.log2 : Int) := by
  unfold FP.Core.leading
  have e : (1 : Nat).log2 = 0 := by decide
  have h1 := (log2_b h).1
  simp only [e]
  rw [if_pos]
  · omega
  · rw [show (((n.log2 : Int) - ((0 : Nat) : Int)).toNat) = n.log2 by omega, show ((-((n.log2 : Int) - ((0 : Nat) : Int))).toNat) = 0 by omega]
    simpa using h1
/-- a whole number, scaled: exact -/
theorem round_ex (s : Bool) {c : Nat} (h : 1 ≤ c) (h2 : c < 2 ^ 53) (k : Nat) : FP.Core.roundRatio FP.Core.b64 s (c * 2 ^ k) 1 (-(k : Int)) = .fin s (c * 2 ^ (52 - c.log2)) ((c.log2 : Int) - 52) := by
  obtain ⟨l1, l2⟩ := log2_b h
  have hL : c.log2 ≤ 52 := by
    have : 2 ^ c.log2 < 2 ^ 53 := Nat.lt_of_le_of_lt l1 h2
    have := (Nat.pow_lt_pow_iff_right (by decide)).mp this
    omega
  have hk := Nat.two_pow_pos k
  have hnum : 1 ≤ c * 2 ^ k := Nat.mul_pos h hk
  have hq : FP.Core.quantum FP.Core.b64 (c * 2 ^ k) 1 (-(k : Int)) = (c.log2 : Int) - 52 := by
    unfold FP.Core.quantum
    rw [lead_1 hnum, log2_k h, show FP.Core.b64.qmin = -1074 by decide, show ((FP.Core.b64.p : Int) - 1) = 52 by decide]
    omega
  have hN : FP.Core.nearest (FP.Core.unitsNum (c * 2 ^ k) (-(k : Int)) ((c.log2 : Int) - 52)) (FP.Core.unitsDen 1 (-(k : Int)) ((c.log2 : Int) - 52)) = c * 2 ^ (52 - c.log2) := by
    unfold FP.Core.unitsNum FP.Core.unitsDen
    by_cases hc : k ≤ 52 - c.log2
    · rw [show (((c.log2 : Int) - 52) - (-(k : Int))).toNat = 0 by omega, show (-(k : Int) - ((c.log2 : Int) - 52)).toNat = 52 - c.log2 - k by omega, Nat.pow_zero, Nat.mul_one, nr_1, Nat.mul_assoc, ← Nat.pow_add, show k + (52 - c.log2 - k) = 52 - c.log2 by omega]
    · rw [show (((c.log2 : Int) - 52) - (-(k : Int))).toNat = k - (52 - c.log2) by omega, show (-(k : Int) - ((c.log2 : Int) - 52)).toNat = 0 by omega, Nat.pow_zero, Nat.mul_one, Nat.one_mul]
      have e : c * 2 ^ k = c * 2 ^ (52 - c.log2) * 2 ^ (k - (52 - c.log2)) := by rw [Nat.mul_assoc, ← Nat.pow_add, show 52 - c.log2 + (k - (52 - c.log2)) = k by omega]
      rw [e, nr_k]
  have hlt : c * 2 ^ (52 - c.log2) < 2 ^ 53 := by
    have := Nat.mul_lt_mul_of_pos_right l2 (Nat.two_pow_pos (52 - c.log2))
    rw [← Nat.pow_add, show c.log2 + 1 + (52 - c.log2) = 53 by omega] at this
    exact this
  unfold FP.Core.roundRatio
  rw [if_neg (by omega), hq]
  unfold FP.Core.roundAt FP.Core.settle
  rw [hN, if_pos (show c * 2 ^ (52 - c.log2) < 2 ^ FP.Core.b64.p from hlt)]
  unfold FP.Core.bound
  rw [if_pos (by rw [show FP.Core.b64.qmax = 971 by decide]; omega)]
theorem asm_fields (f : FP.Core.Fmt) {s : Bool} {e t : Nat} (he : e < f.exps) (ht : t < f.tails) : FP.Core.fieldT f (FP.Core.assemble f s e t) = t ∧ FP.Core.fieldE f (FP.Core.assemble f s e t) = e ∧ FP.Core.fieldS f (FP.Core.assemble f s e t) = s := by
  unfold FP.Core.fieldT FP.Core.fieldE FP.Core.fieldS FP.Core.assemble
  have h0 : 0 < f.tails := by omega
  have h1 : 0 < f.exps := by omega
  have d1 : ((s.toNat * f.exps + e) * f.tails + t) / f.tails = s.toNat * f.exps + e := by
    rw [Nat.mul_comm, Nat.mul_add_div h0, Nat.div_eq_of_lt ht, Nat.add_zero]
  have d2 : (s.toNat * f.exps + e) / f.exps = s.toNat := by
    rw [Nat.mul_comm, Nat.mul_add_div h1, Nat.div_eq_of_lt he, Nat.add_zero]
  refine ⟨?_, ?_, ?_⟩
  · rw [Nat.mul_comm, Nat.mul_add_mod, Nat.mod_eq_of_lt ht]
  · rw [d1, Nat.mul_comm, Nat.mul_add_mod, Nat.mod_eq_of_lt he]
  · rw [d1, d2]; cases s <;> rfl
/-- what an int is as a double -/
def dI (a : Int) : FP.Core.Datum := if a = 0 then .fin false 0 (-1074) else .fin (decide (a < 0)) (a.natAbs * 2 ^ (52 - a.natAbs.log2)) ((a.natAbs.log2 : Int) - 52)
theorem round_ofInt {a : Int} (h : a.natAbs < 2 ^ 53) : FP.Core.round FP.Core.b64 (FP.Core.ofInt a) = dI a := by
  unfold dI
  show FP.Core.roundRatio FP.Core.b64 (decide (a < 0)) a.natAbs 1 0 = _
  by_cases c : a = 0
  · subst c; rfl
  · rw [if_neg c]
    have := round_ex (decide (a < 0)) (c := a.natAbs) (by omega) h 0
    simpa using this
theorem enc_dI {a : Int} (h : a.natAbs < 2 ^ 53) : FP.Core.encode FP.Core.b64 (dI a) % 2 ^ 63 < 1076 * 2 ^ 52 ∧ FP.Core.encode FP.Core.b64 (dI a) < 2 ^ 64 ∧ FP.Core.decode FP.Core.b64 (FP.Core.encode FP.Core.b64 (dI a)) = dI a := by
  by_cases c : a = 0
  · subst c; decide +kernel
  · obtain ⟨l1, l2⟩ := log2_b (n := a.natAbs) (by omega)
    have hL : a.natAbs.log2 ≤ 52 := by
      have : 2 ^ a.natAbs.log2 < 2 ^ 53 := Nat.lt_of_le_of_lt l1 h
      have := (Nat.pow_lt_pow_iff_right (by decide)).mp this
      omega
    have m1 : 2 ^ 52 ≤ a.natAbs * 2 ^ (52 - a.natAbs.log2) := by
      have := Nat.mul_le_mul_right (2 ^ (52 - a.natAbs.log2)) l1
      rw [← Nat.pow_add, show a.natAbs.log2 + (52 - a.natAbs.log2) = 52 by omega] at this
      exact this
    have m2 : a.natAbs * 2 ^ (52 - a.natAbs.log2) < 2 ^ 53 := by
      have := Nat.mul_lt_mul_of_pos_right l2 (Nat.two_pow_pos (52 - a.natAbs.log2))
      rw [← Nat.pow_add, show a.natAbs.log2 + 1 + (52 - a.natAbs.log2) = 53 by omega] at this
      exact this
    unfold dI
    rw [if_neg c]
    generalize decide (a < 0) = s
    generalize a.natAbs * 2 ^ (52 - a.natAbs.log2) = m at m1 m2
    generalize a.natAbs.log2 = L at hL
    have e1 : FP.Core.encode FP.Core.b64 (.fin s m ((L : Int) - 52)) = FP.Core.assemble FP.Core.b64 s (L + 1023) (m - 2 ^ 52) := by
      unfold FP.Core.encode
      have t1 : FP.Core.b64.tails = 2 ^ 52 := by decide
      simp only [t1]
      rw [if_neg (by omega), show FP.Core.b64.qmin = -1074 by decide, show ((L : Int) - 52 - -1074).toNat + 1 = L + 1023 by omega]
    have f1 : L + 1023 < FP.Core.b64.exps := by rw [show FP.Core.b64.exps = 2048 by decide]; omega
    have f2 : m - 2 ^ 52 < FP.Core.b64.tails := by rw [show FP.Core.b64.tails = 2 ^ 52 by decide]; omega
    obtain ⟨g1, g2, g3⟩ := asm_fields FP.Core.b64 (s := s) f1 f2
    rw [e1]
    have hs : s.toNat ≤ 1 := by cases s <;> decide
    have ea : FP.Core.assemble FP.Core.b64 s (L + 1023) (m - 2 ^ 52) = s.toNat * 2 ^ 63 + ((L + 1023) * 2 ^ 52 + (m - 2 ^ 52)) := by
      unfold FP.Core.assemble
      rw [show FP.Core.b64.exps = 2048 by decide, show FP.Core.b64.tails = 2 ^ 52 by decide]
      omega
    refine ⟨by rw [ea]; omega, by rw [ea]; omega, ?_⟩
    unfold FP.Core.decode
    rw [g1, g2, g3, if_neg (by rw [show FP.Core.b64.exps = 2048 by decide]; omega), if_neg (by omega), show FP.Core.b64.tails = 2 ^ 52 by decide, show FP.Core.b64.qmin = -1074 by decide, show 2 ^ 52 + (m - 2 ^ 52) = m by omega, show (-1074 : Int) + (((L + 1023 : Nat) : Int) - 1) = (L : Int) - 52 by omega]
theorem i2d_nat {x : Int32} (h : x.toInt.natAbs < 2 ^ 53) : (FP.i2d x).toNat = FP.Core.encode FP.Core.b64 (dI x.toInt) := by
  show (UInt64.ofNat (FP.Core.encode FP.Core.b64 (FP.Core.round FP.Core.b64 (FP.Core.ofInt x.toInt)))).toNat = _
  rw [round_ofInt h]
  exact Nat.mod_eq_of_lt (enc_dI h).2.1
theorem i2d_num {x : Int32} : isNaN64 (FP.i2d x) = false := by
  have h : x.toInt.natAbs < 2 ^ 53 := by have := x.toInt_lt; have := x.le_toInt; omega
  have h1 := (enc_dI h).1
  cases hh : isNaN64 (FP.i2d x) with
  | false => rfl
  | true =>
    have h2 := isNaN64_iff.mp hh
    rw [i2d_nat h, show (0x7fffffffffffffff : Nat) = 2 ^ 63 - 1 by decide, Nat.and_two_pow_sub_one_eq_mod] at h2
    omega
theorem signed_abs (a : Int) (K : Nat) : FP.Core.signed (decide (a < 0)) (a.natAbs * 2 ^ K) = a * ((2 ^ K : Nat) : Int) := by
  unfold FP.Core.signed
  by_cases c : a < 0
  · rw [decide_eq_true c, if_pos rfl, Int.natCast_mul, ← Int.neg_mul, show (-((a.natAbs : Nat) : Int)) = a by omega]
  · rw [decide_eq_false c, if_neg (by decide), Int.natCast_mul, show (((a.natAbs : Nat) : Int)) = a by omega]
theorem dI_W {a : Int} (h : a.natAbs < 2 ^ 53) : ∃ c q, dI a = .fin (decide (a < 0)) c q ∧ q ≤ 0 ∧ c = a.natAbs * 2 ^ (-q).toNat := by
  unfold dI
  by_cases c : a = 0
  · subst c; exact ⟨0, -1074, by rw [if_pos rfl]; rfl, by decide, by simp⟩
  · rw [if_neg c]
    have l1 := (log2_b (n := a.natAbs) (by omega)).1
    have h2 : 2 ^ a.natAbs.log2 < 2 ^ 53 := Nat.lt_of_le_of_lt l1 h
    have h3 := (Nat.pow_lt_pow_iff_right (by decide)).mp h2
    exact ⟨_, _, rfl, by omega, by rw [show (-((a.natAbs.log2 : Int) - 52)).toNat = 52 - a.natAbs.log2 by omega]⟩
theorem sum_dI {a b : Int} (ha : a.natAbs < 2 ^ 52) (hb : b.natAbs < 2 ^ 52) : FP.Core.round FP.Core.b64 (FP.Core.exactSum (dI a) (dI b)) = dI (a + b) := by
  obtain ⟨c, q, e1, q0, ec⟩ := dI_W (a := a) (by omega)
  obtain ⟨d, r, e2, r0, ed⟩ := dI_W (a := b) (by omega)
  rw [e1, e2]
  obtain ⟨K, hK⟩ : ∃ K : Nat, min q r = -(K : Int) := ⟨(-(min q r)).toNat, by omega⟩
  have hV : FP.Core.sumUnits (decide (a < 0)) c q (decide (b < 0)) d r (min q r) = (a + b) * ((2 ^ K : Nat) : Int) := by
    unfold FP.Core.sumUnits FP.Core.inUnits
    rw [ec, ed, Nat.mul_assoc, Nat.mul_assoc, ← Nat.pow_add, ← Nat.pow_add, show (-q).toNat + (q - min q r).toNat = K by omega, show (-r).toNat + (r - min q r).toNat = K by omega, signed_abs, signed_abs, Int.add_mul]
  show FP.Core.roundRatio FP.Core.b64 (FP.Core.sumSign (decide (a < 0)) (decide (b < 0)) (FP.Core.sumUnits (decide (a < 0)) c q (decide (b < 0)) d r (min q r))) (FP.Core.sumUnits (decide (a < 0)) c q (decide (b < 0)) d r (min q r)).natAbs 1 (min q r) = _
  rw [hV, hK]
  have hp : 0 < (2 ^ K : Nat) := Nat.two_pow_pos K
  by_cases z : a + b = 0
  · rw [z, Int.zero_mul]
    have : FP.Core.sumSign (decide (a < 0)) (decide (b < 0)) 0 = false := by
      unfold FP.Core.sumSign
      rw [if_pos rfl, Bool.and_eq_false_iff]
      simp; omega
    rw [this]
    rfl
  · have hne : (a + b) * ((2 ^ K : Nat) : Int) ≠ 0 := Int.mul_ne_zero z (by omega)
    have hs : FP.Core.sumSign (decide (a < 0)) (decide (b < 0)) ((a + b) * ((2 ^ K : Nat) : Int)) = decide (a + b < 0) := by
      unfold FP.Core.sumSign
      rw [if_neg hne]
      congr 1
      refine propext ⟨fun w => ?_, fun w => Int.mul_neg_of_neg_of_pos w (by omega)⟩
      exact Int.not_le.mp (fun q => absurd (Int.mul_nonneg q (Int.le_of_lt (by omega : (0 : Int) < ((2 ^ K : Nat) : Int)))) (by omega))
    rw [hs, Int.natAbs_mul, Int.natAbs_natCast, round_ex _ (by omega) (by omega)]
    unfold dI
    rw [if_neg z]
theorem dadd_i2d {x y : Int32} (hx : x.toInt.natAbs < 1000000000) (hy : y.toInt.natAbs < 1000000000) : FP.dadd (FP.i2d x) (FP.i2d y) = FP.i2d (x + y) := by
  have hs : (x + y).toInt = x.toInt + y.toInt := by
    rw [Int32.toInt_add, Int.bmod_eq_of_le (by omega) (by omega)]
  show UInt64.ofNat (FP.Core.encode FP.Core.b64 (FP.Core.round FP.Core.b64 (FP.Core.exactSum (FP.Core.decode FP.Core.b64 (FP.i2d x).toNat) (FP.Core.decode FP.Core.b64 (FP.i2d y).toNat)))) = UInt64.ofNat (FP.Core.encode FP.Core.b64 (FP.Core.round FP.Core.b64 (FP.Core.ofInt (x + y).toInt)))
  rw [i2d_nat (by omega), i2d_nat (by omega), (enc_dI (by omega)).2.2, (enc_dI (by omega)).2.2, sum_dI (by omega) (by omega), round_ofInt (by omega), hs]
theorem alike64_num {f x : UInt64} (h : alike64 f x = true) (hx : isNaN64 x = false) : f = x := by
  unfold alike64 at h
  rw [hx, Bool.and_false, Bool.or_false] at h
  exact of_decide_eq_true h
theorem alike32_num {f x : UInt32} (h : alike32 f x = true) (hx : isNaN32 x = false) : f = x := by
  unfold alike32 at h
  rw [hx, Bool.and_false, Bool.or_false] at h
  exact of_decide_eq_true h
-- floats
/-- a finite float as it is written -/
def okD32 (c : Nat) (q : Int) : Prop := c < 2 ^ 24 ∧ -149 ≤ q ∧ q ≤ 100 ∧ (q = -149 ∨ 2 ^ 23 ≤ c)
theorem enc_32 {s : Bool} {c : Nat} {q : Int} (h : okD32 c q) : FP.Core.encode FP.Core.b32 (.fin s c q) = s.toNat * 2 ^ 31 + FP.Core.encode FP.Core.b32 (.fin false c q) ∧ FP.Core.encode FP.Core.b32 (.fin false c q) < 251 * 2 ^ 23 ∧ FP.Core.decode FP.Core.b32 (FP.Core.encode FP.Core.b32 (.fin s c q)) = .fin s c q := by
  obtain ⟨h1, h2, h3, h4⟩ := h
  have t1 : FP.Core.b32.tails = 2 ^ 23 := by decide
  have t2 : FP.Core.b32.exps = 256 := by decide
  have t3 : FP.Core.b32.qmin = -149 := by decide
  by_cases c0 : c < 2 ^ 23
  · have e : ∀ s, FP.Core.encode FP.Core.b32 (.fin s c q) = FP.Core.assemble FP.Core.b32 s 0 c := fun s => by
      unfold FP.Core.encode
      simp only [t1]
      rw [if_pos c0]
    have ea : ∀ s : Bool, FP.Core.assemble FP.Core.b32 s 0 c = s.toNat * 2 ^ 31 + c := fun s => by
      unfold FP.Core.assemble
      rw [t1, t2]; omega
    obtain ⟨g1, g2, g3⟩ := asm_fields FP.Core.b32 (s := s) (e := 0) (t := c) (by rw [t2]; decide) (by rw [t1]; exact c0)
    refine ⟨by rw [e, e, ea, ea]; simp, by rw [e, ea]; simp; omega, ?_⟩
    rw [e]
    unfold FP.Core.decode
    rw [g1, g2, g3, if_neg (by rw [t2]; decide), if_pos rfl, t3, show q = -149 by omega]
  · have e : ∀ s, FP.Core.encode FP.Core.b32 (.fin s c q) = FP.Core.assemble FP.Core.b32 s ((q + 149).toNat + 1) (c - 2 ^ 23) := fun s => by
      unfold FP.Core.encode
      simp only [t1]
      rw [if_neg c0, t3, show q - -149 = q + 149 by omega]
    have ea : ∀ s : Bool, FP.Core.assemble FP.Core.b32 s ((q + 149).toNat + 1) (c - 2 ^ 23) = s.toNat * 2 ^ 31 + (((q + 149).toNat + 1) * 2 ^ 23 + (c - 2 ^ 23)) := fun s => by
      unfold FP.Core.assemble
      rw [t1, t2]; omega
    obtain ⟨g1, g2, g3⟩ := asm_fields FP.Core.b32 (s := s) (e := (q + 149).toNat + 1) (t := c - 2 ^ 23) (by rw [t2]; omega) (by rw [t1]; omega)
    refine ⟨by rw [e, e, ea, ea]; simp, by rw [e, ea]; simp; omega, ?_⟩
    rw [e]
    unfold FP.Core.decode
    rw [g1, g2, g3, if_neg (by rw [t2]; omega), if_neg (by omega), t1, t3, show 2 ^ 23 + (c - 2 ^ 23) = c by omega, show (-149 : Int) + ((((q + 149).toNat + 1 : Nat) : Int) - 1) = q by omega]
/-- a number that isn't 0, rounded to a float, whatever its sign -/
theorem round_32 {n t : Nat} {e : Int} (h : 1 ≤ n) (he : -149 ≤ e) (ht : n < 2 ^ (24 + t)) (h0 : e + t ≤ 50) : ∃ c q, okD32 c q ∧ 1 ≤ c ∧ ∀ s, FP.Core.roundRatio FP.Core.b32 s n 1 e = .fin s c q := by
  obtain ⟨l1, l2⟩ := log2_b h
  have hL : n.log2 < 24 + t := (Nat.pow_lt_pow_iff_right (a := 2) (by decide)).mp (Nat.lt_of_le_of_lt l1 ht)
  have hq : FP.Core.quantum FP.Core.b32 n 1 e = max (-149) ((n.log2 : Int) + e - 23) := by
    unfold FP.Core.quantum
    rw [lead_1 h, show FP.Core.b32.qmin = -149 by decide, show ((FP.Core.b32.p : Int) - 1) = 23 by decide]
  have hset : ∀ (s : Bool) (N : Nat) (Q : Int), N < 2 ^ 24 → Q ≤ 99 → FP.Core.settle FP.Core.b32 s N Q = .fin s N Q := fun s N Q h1 h2 => by
    unfold FP.Core.settle FP.Core.bound
    rw [if_pos (show N < 2 ^ FP.Core.b32.p from h1), if_pos (by rw [show FP.Core.b32.qmax = 104 by decide]; omega)]
  by_cases hc : max (-149) ((n.log2 : Int) + e - 23) ≤ e
  · generalize hQ : max (-149) ((n.log2 : Int) + e - 23) = Q at *
    have hN : FP.Core.nearest (FP.Core.unitsNum n e Q) (FP.Core.unitsDen 1 e Q) = n * 2 ^ (e - Q).toNat := by
      unfold FP.Core.unitsNum FP.Core.unitsDen
      rw [show (Q - e).toNat = 0 by omega, Nat.pow_zero, Nat.mul_one, nr_1]
    have hlt : n * 2 ^ (e - Q).toNat < 2 ^ 24 := by
      have h9 := Nat.mul_lt_mul_of_pos_right l2 (Nat.two_pow_pos (e - Q).toNat)
      rw [← Nat.pow_add] at h9
      exact Nat.lt_of_lt_of_le h9 (Nat.pow_le_pow_right (by decide) (by omega))
    refine ⟨n * 2 ^ (e - Q).toNat, Q, ⟨hlt, by omega, by omega, ?_⟩, Nat.mul_pos h (Nat.two_pow_pos _), fun s => ?_⟩
    · by_cases z : Q = -149
      · exact Or.inl z
      · refine Or.inr ?_
        have h9 := Nat.mul_le_mul_right (2 ^ (e - Q).toNat) l1
        rw [← Nat.pow_add] at h9
        exact Nat.le_trans (Nat.pow_le_pow_right (by decide) (by omega)) h9
    · unfold FP.Core.roundRatio
      rw [if_neg (by omega), hq]
      unfold FP.Core.roundAt
      rw [hN, hset s _ Q hlt (by omega)]
  · have hQ : max (-149) ((n.log2 : Int) + e - 23) = (n.log2 : Int) + e - 23 := by omega
    rw [hQ] at hq hc
    obtain ⟨j, hj⟩ : ∃ j, n.log2 = 23 + j := ⟨n.log2 - 23, by omega⟩
    have hN : FP.Core.nearest (FP.Core.unitsNum n e ((n.log2 : Int) + e - 23)) (FP.Core.unitsDen 1 e ((n.log2 : Int) + e - 23)) = FP.Core.nearest n (2 ^ j) := by
      unfold FP.Core.unitsNum FP.Core.unitsDen
      rw [show (e - ((n.log2 : Int) + e - 23)).toNat = 0 by omega, show (((n.log2 : Int) + e - 23) - e).toNat = j by omega, Nat.pow_zero, Nat.mul_one, Nat.one_mul]
    have hp := Nat.two_pow_pos j
    rw [hj, Nat.pow_add] at l1
    rw [hj, show 23 + j + 1 = 24 + j by omega, Nat.pow_add] at l2
    have d1 : 2 ^ 23 ≤ n / 2 ^ j := (Nat.le_div_iff_mul_le hp).mpr l1
    have d2 : n / 2 ^ j < 2 ^ 24 := (Nat.div_lt_iff_lt_mul hp).mpr l2
    have d3 : 2 ^ 23 ≤ FP.Core.nearest n (2 ^ j) ∧ FP.Core.nearest n (2 ^ j) ≤ 2 ^ 24 := by
      unfold FP.Core.nearest
      split
      · omega
      · split <;> omega
    generalize FP.Core.nearest n (2 ^ j) = N at hN d3
    by_cases z : N < 2 ^ 24
    · refine ⟨N, (n.log2 : Int) + e - 23, ⟨z, by omega, by omega, Or.inr d3.1⟩, by omega, fun s => ?_⟩
      unfold FP.Core.roundRatio
      rw [if_neg (by omega), hq]
      unfold FP.Core.roundAt
      rw [hN, hset s _ _ z (by omega)]
    · refine ⟨2 ^ 23, (n.log2 : Int) + e - 23 + 1, ⟨by decide, by omega, by omega, Or.inr (Nat.le_refl _)⟩, by decide, fun s => ?_⟩
      unfold FP.Core.roundRatio
      rw [if_neg (by omega), hq]
      unfold FP.Core.roundAt FP.Core.settle FP.Core.bound
      rw [hN, if_neg (show ¬ N < 2 ^ FP.Core.b32.p from z), if_pos (by rw [show FP.Core.b32.qmax = 104 by decide]; omega), show FP.Core.b32.tails = 2 ^ 23 by decide]
/-- a float that is not below 0 and written as it is -/
def NN (w : UInt32) (c : Nat) (q : Int) : Prop := okD32 c q ∧ w = UInt32.ofNat (FP.Core.encode FP.Core.b32 (.fin false c q))
theorem of32_nat {s : Bool} {c : Nat} {q : Int} (h : okD32 c q) : (UInt32.ofNat (FP.Core.encode FP.Core.b32 (.fin s c q))).toNat = FP.Core.encode FP.Core.b32 (.fin s c q) := by
  obtain ⟨h1, h2, -⟩ := enc_32 (s := s) h
  have hs : s.toNat ≤ 1 := by cases s <;> decide
  exact Nat.mod_eq_of_lt (by rw [h1]; omega)
theorem dec_of {s : Bool} {c : Nat} {q : Int} (h : okD32 c q) : FP.Core.decode FP.Core.b32 (UInt32.ofNat (FP.Core.encode FP.Core.b32 (.fin s c q))).toNat = .fin s c q := by
  rw [of32_nat h]; exact (enc_32 h).2.2
theorem num_of {s : Bool} {c : Nat} {q : Int} (h : okD32 c q) : isNaN32 (UInt32.ofNat (FP.Core.encode FP.Core.b32 (.fin s c q))) = false := by
  cases hh : isNaN32 (UInt32.ofNat (FP.Core.encode FP.Core.b32 (.fin s c q))) with
  | false => rfl
  | true =>
    obtain ⟨h1, h2, -⟩ := enc_32 (s := s) h
    have h3 := isNaN32_iff.mp hh
    have hs : s.toNat ≤ 1 := by cases s <;> decide
    rw [of32_nat h, h1, show (0x7fffffff : Nat) = 2 ^ 31 - 1 by decide, Nat.and_two_pow_sub_one_eq_mod] at h3
    omega
theorem neg_of {c : Nat} {q : Int} (h : okD32 c q) : FP.fneg (UInt32.ofNat (FP.Core.encode FP.Core.b32 (.fin true c q))) = UInt32.ofNat (FP.Core.encode FP.Core.b32 (.fin false c q)) := by
  obtain ⟨h1, h2, -⟩ := enc_32 (s := true) h
  show UInt32.ofNat (FP.Core.encode FP.Core.b32 (.fin true c q)) ^^^ 0x80000000 = _
  refine UInt32.toNat_inj.mp ?_
  rw [UInt32.toNat_xor, of32_nat h, of32_nat h, h1]
  generalize FP.Core.encode FP.Core.b32 (.fin false c q) = n at h2
  show (true.toNat * 2 ^ 31 + n) ^^^ 2 ^ 31 = n
  have hn : n < 2 ^ 31 := by omega
  have e1 : true.toNat * 2 ^ 31 + n = n ^^^ 2 ^ 31 := by
    have e2 : 2 ^ 31 * 1 + n = 2 ^ 31 * 1 ||| n := Nat.two_pow_add_eq_or_of_lt hn 1
    rw [show true.toNat * 2 ^ 31 + n = 2 ^ 31 * 1 + n by simp, e2, Nat.mul_one]
    refine Nat.eq_of_testBit_eq (fun i => ?_)
    rw [Nat.testBit_or, Nat.testBit_xor, Nat.testBit_two_pow]
    by_cases z : 31 = i
    · subst z
      rw [Nat.testBit_lt_two_pow hn]; rfl
    · rw [decide_eq_false z, Bool.false_or, Bool.xor_false]
  rw [e1, Nat.xor_assoc, Nat.xor_self, Nat.xor_zero]
theorem cmp_of {s t : Bool} {c d : Nat} {q r : Int} (h : okD32 c q) (h2 : okD32 d r) : FP.fcmp (UInt32.ofNat (FP.Core.encode FP.Core.b32 (.fin s c q))) (UInt32.ofNat (FP.Core.encode FP.Core.b32 (.fin t d r))) = some (compare (FP.Core.signed s (FP.Core.inUnits c q (min q r))) (FP.Core.signed t (FP.Core.inUnits d r (min q r)))) := by
  show FP.Core.order (FP.Core.decode FP.Core.b32 _) (FP.Core.decode FP.Core.b32 _) = _
  rw [dec_of h, dec_of h2]
  rfl
theorem cmp_nn {w z : UInt32} {c d : Nat} {q r : Int} (h : NN w c q) (h2 : NN z d r) : FP.fcmp w z = some (compare ((FP.Core.inUnits c q (min q r) : Nat) : Int) ((FP.Core.inUnits d r (min q r) : Nat) : Int)) := by
  rw [h.2, h2.2]; exact cmp_of h.1 h2.1
/-- its worth, in the least units -/
def vl (c : Nat) (q : Int) : Nat := c * 2 ^ (q + 149).toNat
theorem vl_units {c d : Nat} {q r : Int} (h : okD32 c q) (h2 : okD32 d r) : ∃ k, 0 < k ∧ vl c q = FP.Core.inUnits c q (min q r) * k ∧ vl d r = FP.Core.inUnits d r (min q r) * k := by
  refine ⟨2 ^ (min q r + 149).toNat, Nat.two_pow_pos _, ?_, ?_⟩
  · unfold vl FP.Core.inUnits
    rw [Nat.mul_assoc, ← Nat.pow_add, show (q - min q r).toNat + (min q r + 149).toNat = (q + 149).toNat by have := h.2.1; have := h2.2.1; omega]
  · unfold vl FP.Core.inUnits
    rw [Nat.mul_assoc, ← Nat.pow_add, show (r - min q r).toNat + (min q r + 149).toNat = (r + 149).toNat by have := h.2.1; have := h2.2.1; omega]
theorem cmpV_le {u v : Int} (m : CmpOp) : (Op.cmpValue (some (compare u v)) m ≤ 0 ↔ u ≤ v) ∧ (Op.cmpValue (some (compare u v)) m < 0 ↔ u < v) ∧ (0 ≤ Op.cmpValue (some (compare u v)) m ↔ v ≤ u) := by
  have hd : compare u v = if u < v then .lt else if u = v then .eq else .gt := rfl
  rw [hd]
  by_cases c : u < v
  · rw [if_pos c]
    show ((-1 : Int32) ≤ 0 ↔ _) ∧ ((-1 : Int32) < 0 ↔ _) ∧ ((0 : Int32) ≤ -1 ↔ _)
    refine ⟨⟨fun _ => by omega, fun _ => by decide⟩, ⟨fun _ => c, fun _ => by decide⟩, ⟨fun w => absurd w (by decide), fun w => by omega⟩⟩
  · rw [if_neg c]
    by_cases e : u = v
    · rw [if_pos e]
      show ((0 : Int32) ≤ 0 ↔ _) ∧ ((0 : Int32) < 0 ↔ _) ∧ ((0 : Int32) ≤ 0 ↔ _)
      refine ⟨⟨fun _ => by omega, fun _ => by decide⟩, ⟨fun w => absurd w (by decide), fun w => by omega⟩, ⟨fun _ => by omega, fun _ => by decide⟩⟩
    · rw [if_neg e]
      show ((1 : Int32) ≤ 0 ↔ _) ∧ ((1 : Int32) < 0 ↔ _) ∧ ((0 : Int32) ≤ 1 ↔ _)
      refine ⟨⟨fun w => absurd w (by decide), fun w => by omega⟩, ⟨fun w => absurd w (by decide), fun w => by omega⟩, ⟨fun _ => by omega, fun _ => by decide⟩⟩
theorem nn_le {w z : UInt32} {c d : Nat} {q r : Int} (h : NN w c q) (h2 : NN z d r) (m : CmpOp) : (Op.cmpValue (FP.fcmp w z) m ≤ 0 ↔ vl c q ≤ vl d r) ∧ (Op.cmpValue (FP.fcmp w z) m < 0 ↔ vl c q < vl d r) := by
  obtain ⟨k, k0, e1, e2⟩ := vl_units h.1 h2.1
  rw [cmp_nn h h2, (cmpV_le m).1, (cmpV_le m).2.1, e1, e2]
  refine ⟨⟨fun w => Nat.mul_le_mul_right k (by omega), fun w => ?_⟩, ⟨fun w => Nat.mul_lt_mul_of_pos_right (by omega) k0, fun w => ?_⟩⟩
  · have := Nat.le_of_mul_le_mul_right w k0; omega
  · have := Nat.lt_of_mul_lt_mul_right w; omega
theorem vl_inj {c d : Nat} {q r : Int} (h : okD32 c q) (h2 : okD32 d r) (e : vl c q = vl d r) : c = d ∧ q = r := by
  unfold vl at e
  obtain ⟨a1, a2, a3, a4⟩ := h
  obtain ⟨b1, b2, b3, b4⟩ := h2
  have key : ∀ {c d : Nat} {q r : Int}, c < 2 ^ 24 → -149 ≤ q → (r = -149 ∨ 2 ^ 23 ≤ d) → c * 2 ^ (q + 149).toNat = d * 2 ^ (r + 149).toNat → ¬ q < r := fun {c d q r} c1 q1 d1 e2 w => by
    obtain ⟨m, hm⟩ : ∃ m, (r + 149).toNat = (q + 149).toNat + 1 + m := ⟨(r + 149).toNat - (q + 149).toNat - 1, by omega⟩
    rw [hm, Nat.pow_add, Nat.pow_add, ← Nat.mul_assoc, ← Nat.mul_assoc, Nat.mul_right_comm d, Nat.mul_right_comm (d * 2 ^ 1)] at e2
    have e3 := Nat.eq_of_mul_eq_mul_right (Nat.two_pow_pos (q + 149).toNat) e2
    have h9 : 2 ^ 23 ≤ d := d1.resolve_left (by omega)
    have hp := Nat.two_pow_pos m
    have h10 : d * 2 ^ 1 * 1 ≤ d * 2 ^ 1 * 2 ^ m := Nat.mul_le_mul_left _ hp
    omega
  have e1 : q = r := by
    have := key a1 a2 b4 e
    have := key b1 b2 a4 e.symm
    omega
  subst e1
  exact ⟨Nat.eq_of_mul_eq_mul_right (Nat.two_pow_pos _) e, rfl⟩
