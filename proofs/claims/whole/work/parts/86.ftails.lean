-- PURE: a call of the law with a double, or a float, as its answer
theorem nan64 (x : UInt64) : isNaN64 x = true ↔ FP.Core.decode FP.Core.b64 x.toNat = .nan := by
  have hx := x.toNat_lt
  rw [isNaN64_iff, show (0x7fffffffffffffff : Nat) = 2 ^ 63 - 1 by decide, Nat.and_two_pow_sub_one_eq_mod]
  have t1 : FP.Core.b64.tails = 2 ^ 52 := by decide
  have t2 : FP.Core.b64.exps = 2048 := by decide
  unfold FP.Core.decode FP.Core.fieldE FP.Core.fieldT
  rw [t1, t2]
  generalize x.toNat = n at hx
  constructor
  · intro h
    rw [if_pos (by omega), if_neg (by omega)]
  · intro h
    by_cases c1 : n / 2 ^ 52 % 2048 = 2048 - 1
    · rw [if_pos c1] at h
      by_cases c2 : n % 2 ^ 52 = 0
      · rw [if_pos c2] at h; exact absurd h (by simp)
      · omega
    · rw [if_neg c1] at h
      split at h <;> exact absurd h (by simp)
theorem cmp_self (v : Int) : compare v v = Ordering.eq := by
  show (if v < v then Ordering.lt else if v = v then Ordering.eq else Ordering.gt) = _
  rw [if_neg (by omega), if_pos rfl]
theorem dcmp_same {x : UInt64} (h : isNaN64 x = false) : FP.dcmp x x = some .eq := by
  show FP.Core.order (FP.Core.decode FP.Core.b64 x.toNat) (FP.Core.decode FP.Core.b64 x.toNat) = _
  have hn : FP.Core.decode FP.Core.b64 x.toNat ≠ .nan := fun e => by rw [(nan64 x).mpr e] at h; exact absurd h (by decide)
  cases hd : FP.Core.decode FP.Core.b64 x.toNat with
  | nan => exact absurd hd hn
  | inf s => show some (compare _ _) = _; rw [cmp_self]
  | fin s c q => show some (compare _ _) = _; rw [cmp_self]
theorem dcmp_nanL {x y : UInt64} (h : isNaN64 x = true) : FP.dcmp x y = none := by
  show FP.Core.order (FP.Core.decode FP.Core.b64 x.toNat) _ = _
  rw [(nan64 x).mp h]; rfl
theorem alike64_nan {f x : UInt64} (h : alike64 f x = true) (hx : isNaN64 x = true) : isNaN64 f = true := by
  unfold alike64 at h
  rw [Bool.or_eq_true] at h
  rcases h with h | h
  · rw [of_decide_eq_true h]; exact hx
  · rw [Bool.and_eq_true] at h; exact h.1
/-- two doubles that are the same but for a NaN's bits: the law finds them so -/
theorem law_same {d f X : UInt64} (h1 : alike64 d X = true) (h2 : alike64 f X = true) {P : Prop} (hP : P) : ((Op.cmpValue (FP.dcmp d f) .l) = 0 → P) ∧ (¬ (Op.cmpValue (FP.dcmp d f) .l) = 0 → (((Op.cmpValue (FP.dcmp d d) .l) = 0 → False) ∧ (¬ (Op.cmpValue (FP.dcmp d d) .l) = 0 → ((¬ (Op.cmpValue (FP.dcmp f f) .l) = 0 → P) ∧ ((Op.cmpValue (FP.dcmp f f) .l) = 0 → False))))) := by
  cases hX : isNaN64 X with
  | false =>
    rw [alike64_num h1 hX, alike64_num h2 hX, dcmp_same hX]
    exact ⟨fun _ => hP, fun w => absurd rfl w⟩
  | true =>
    have hd := alike64_nan h1 hX
    have hf := alike64_nan h2 hX
    rw [dcmp_nanL hd, dcmp_nanL hd, dcmp_nanL hf]
    exact ⟨fun _ => hP, fun _ => ⟨fun w => absurd w (by decide), fun _ => ⟨fun _ => hP, fun w => absurd w (by decide)⟩⟩⟩
set_option maxRecDepth 16384 in
theorem round_q {c : Nat} {q : Int} (h : okD32 c q) : FP.Core.encode FP.Core.b64 (FP.Core.round FP.Core.b64 (.fin false c q)) < 2047 * 2 ^ 52 := by
  obtain ⟨h1, h2, h3, -⟩ := h
  show FP.Core.encode FP.Core.b64 (FP.Core.roundRatio FP.Core.b64 false c 1 q) < _
  have t1 : FP.Core.b64.tails = 2 ^ 52 := by decide
  have t2 : FP.Core.b64.exps = 2048 := by decide
  have t3 : FP.Core.b64.qmin = -1074 := by decide
  unfold FP.Core.roundRatio
  by_cases z : c = 0
  · rw [if_pos z]; decide +kernel
  · rw [if_neg z]
    obtain ⟨l1, l2⟩ := log2_b (n := c) (by omega)
    have hL : c.log2 < 24 := (Nat.pow_lt_pow_iff_right (a := 2) (by decide)).mp (Nat.lt_of_le_of_lt l1 h1)
    have hq : FP.Core.quantum FP.Core.b64 c 1 q = (c.log2 : Int) + q - 52 := by
      unfold FP.Core.quantum
      rw [lead_1 (by omega), t3, show ((FP.Core.b64.p : Int) - 1) = 52 by decide]
      omega
    have hN : FP.Core.nearest (FP.Core.unitsNum c q ((c.log2 : Int) + q - 52)) (FP.Core.unitsDen 1 q ((c.log2 : Int) + q - 52)) = c * 2 ^ (52 - c.log2) := by
      unfold FP.Core.unitsNum FP.Core.unitsDen
      rw [show (((c.log2 : Int) + q - 52) - q).toNat = 0 by omega, show (q - ((c.log2 : Int) + q - 52)).toNat = 52 - c.log2 by omega, Nat.pow_zero, Nat.mul_one, nr_1]
    have m1 : 2 ^ 52 ≤ c * 2 ^ (52 - c.log2) := by
      have := Nat.mul_le_mul_right (2 ^ (52 - c.log2)) l1
      rw [← Nat.pow_add, show c.log2 + (52 - c.log2) = 52 by omega] at this
      exact this
    have m2 : c * 2 ^ (52 - c.log2) < 2 ^ 53 := by
      have := Nat.mul_lt_mul_of_pos_right l2 (Nat.two_pow_pos (52 - c.log2))
      rw [← Nat.pow_add, show c.log2 + 1 + (52 - c.log2) = 53 by omega] at this
      exact this
    rw [hq]
    unfold FP.Core.roundAt FP.Core.settle FP.Core.bound
    rw [hN, if_pos (show c * 2 ^ (52 - c.log2) < 2 ^ FP.Core.b64.p from m2), if_pos (by rw [show FP.Core.b64.qmax = 971 by decide]; omega)]
    generalize c * 2 ^ (52 - c.log2) = m at m1 m2
    generalize c.log2 = L at hL
    unfold FP.Core.encode FP.Core.assemble
    simp only [t1]
    rw [if_neg (by omega), t2, t3]
    have : ((L : Int) + q - 52 - -1074).toNat + 1 ≤ 1200 := by omega
    generalize ((L : Int) + q - 52 - -1074).toNat + 1 = e at this
    simp; omega
theorem f2d_num {w : UInt32} (h : isN w) : isNaN64 (FP.f2d w) = false := by
  obtain ⟨c, q, h1, h2⟩ := h
  have hd : FP.Core.decode FP.Core.b32 w.toNat = .fin false c q := by rw [h2]; exact dec_of h1
  have hn : FP.Core.fIsNaN w = false := by
    show decide (FP.Core.decode FP.Core.b32 w.toNat = .nan) = false
    rw [hd]; simp
  have hr := round_q h1
  have e : FP.f2d w = UInt64.ofNat (FP.Core.encode FP.Core.b64 (FP.Core.round FP.Core.b64 (.fin false c q))) := by
    unfold FP.f2d
    rw [hn, if_neg (by decide)]
    show UInt64.ofNat (FP.Core.encode FP.Core.b64 (FP.Core.round FP.Core.b64 (FP.Core.decode FP.Core.b32 w.toNat))) = _
    rw [hd]
  rw [e]
  cases hh : isNaN64 (UInt64.ofNat (FP.Core.encode FP.Core.b64 (FP.Core.round FP.Core.b64 (.fin false c q)))) with
  | false => rfl
  | true =>
    have h3 := isNaN64_iff.mp hh
    have e2 : (UInt64.ofNat (FP.Core.encode FP.Core.b64 (FP.Core.round FP.Core.b64 (.fin false c q)))).toNat = FP.Core.encode FP.Core.b64 (FP.Core.round FP.Core.b64 (.fin false c q)) := Nat.mod_eq_of_lt (by omega)
    rw [e2, show (0x7fffffffffffffff : Nat) = 2 ^ 63 - 1 by decide, Nat.and_two_pow_sub_one_eq_mod] at h3
    omega
theorem dstA_N {a b : SLT} (h1 : 0 < (CH a).length) (h2 : 0 < (CH b).length) (h3 : (CH a).length ≤ 60) (h4 : (CH b).length ≤ 60) : isN (dstA a b) := by
  unfold dstA
  refine (mxl_v _ 0 ⟨0, -149, zero_nn⟩ (fun w hw => ?_)).1
  rcases List.mem_append.mp hw with hw | hw
  · exact wlA_ok a h1 h2 h3 h4 w hw
  · exact wlA_ok b h1 h2 h3 h4 w hw
section PT2
variable {M M' M1 M5 : MEM} {G G' : GST} {B s nx : Nat} {a : SLT}
def tlD (N : Int32 → MEM → Prop) (x k : Int32) (r : UInt64) (M : MEM) : Prop := wp_X6_thrown 40 M (fun t => (t = k → ((¬ k = 0 → (∀ y : Int32, y = x + 6 → N y M)) ∧ (k = 0 → (KD 61 = (3, 1) ∧ (((Op.cmpValue (FP.dcmp (mD M 61 0) r) .l) = 0 → (∀ y : Int32, y = x + 6 → N y M)) ∧ (¬ (Op.cmpValue (FP.dcmp (mD M 61 0) r) .l) = 0 → (((Op.cmpValue (FP.dcmp (mD M 61 0) (mD M 61 0)) .l) = 0 → False) ∧ (¬ (Op.cmpValue (FP.dcmp (mD M 61 0) (mD M 61 0)) .l) = 0 → ((¬ (Op.cmpValue (FP.dcmp r r) .l) = 0 → (∀ y : Int32, y = x + 6 → N y M)) ∧ ((Op.cmpValue (FP.dcmp r r) .l) = 0 → False)))))))))) ∧ (¬ t = k → False))
def tlF (N : Int32 → MEM → Prop) (x k : Int32) (r : UInt32) (M : MEM) : Prop := wp_X6_thrown 40 M (fun t => (t = k → ((¬ k = 0 → (∀ y : Int32, y = x + 6 → N y M)) ∧ (k = 0 → (KD 61 = (3, 1) ∧ (∀ f : UInt64, alike64 f (FP.f2d r) = true → (((Op.cmpValue (FP.dcmp (mD M 61 0) f) .l) = 0 → (∀ y : Int32, y = x + 6 → N y M)) ∧ (¬ (Op.cmpValue (FP.dcmp (mD M 61 0) f) .l) = 0 → (((Op.cmpValue (FP.dcmp (mD M 61 0) (mD M 61 0)) .l) = 0 → False) ∧ (¬ (Op.cmpValue (FP.dcmp (mD M 61 0) (mD M 61 0)) .l) = 0 → ((¬ (Op.cmpValue (FP.fcmp r r) .l) = 0 → (∀ y : Int32, y = x + 6 → N y M)) ∧ ((Op.cmpValue (FP.fcmp r r) .l) = 0 → False))))))))))) ∧ (¬ t = k → False))
theorem tlD_k {N : Int32 → MEM → Prop} {x : Int32} {k : Nat} {r : UInt64} (hk : 1 ≤ k ∧ k ≤ 9) (E : ENDR M1 G' k M') (S : SIMC M1 G') (hW : WFG (B + 60) G') (next : NXT N x B) : tlD N x (nI k) r M' := by
  refine ⟨rfl, fun _ => ⟨fun _ y e => ?_, fun w => absurd w (nI_ne0 (by omega) (by omega))⟩, fun w => absurd E.2.2 w⟩
  rw [e]
  exact next G' M' (E.1.simc S) E.2.1 hW
theorem tlF_k {N : Int32 → MEM → Prop} {x : Int32} {k : Nat} {r : UInt32} (hk : 1 ≤ k ∧ k ≤ 9) (E : ENDR M1 G' k M') (S : SIMC M1 G') (hW : WFG (B + 60) G') (next : NXT N x B) : tlF N x (nI k) r M' := by
  refine ⟨rfl, fun _ => ⟨fun _ y e => ?_, fun w => absurd w (nI_ne0 (by omega) (by omega))⟩, fun w => absurd E.2.2 w⟩
  rw [e]
  exact next G' M' (E.1.simc S) E.2.1 hW
theorem endr_D (E : ENDR M5 G' 0 M') : mD M' 61 0 = mD M5 61 0 := by
  show M'.2.2.2 61 0 = M5.2.2.2 61 0
  rw [E.1.2.2]
theorem tlD_0 {N : Int32 → MEM → Prop} {x : Int32} {r v X : UInt64} (E : ENDR M5 G' 0 M') (S : SIMC M5 G') (hL : mD M5 61 0 = v) (h1 : alike64 v X = true) (h2 : alike64 r X = true) (hW : WFG (B + 60) G') (next : NXT N x B) : tlD N x 0 r M' := by
  have hd : mD M' 61 0 = v := (endr_D E).trans hL
  have hn : ∀ y : Int32, y = x + 6 → N y M' := fun y e => by rw [e]; exact next G' M' (E.1.simc S) E.2.1 hW
  refine ⟨rfl, fun _ => ⟨fun w => absurd rfl w, fun _ => ⟨rfl, ?_⟩⟩, fun w => absurd E.2.2 w⟩
  rw [hd]
  exact law_same h1 h2 hn
theorem tlF_0 {N : Int32 → MEM → Prop} {x : Int32} {r : UInt32} {v : UInt64} (E : ENDR M5 G' 0 M') (S : SIMC M5 G') (hL : mD M5 61 0 = v) (h1 : alike64 v (FP.f2d r) = true) (hr : isN r) (hW : WFG (B + 60) G') (next : NXT N x B) : tlF N x 0 r M' := by
  have hd : mD M' 61 0 = v := (endr_D E).trans hL
  have hn : ∀ y : Int32, y = x + 6 → N y M' := fun y e => by rw [e]; exact next G' M' (E.1.simc S) E.2.1 hW
  have hX := f2d_num hr
  refine ⟨rfl, fun _ => ⟨fun w => absurd rfl w, fun _ => ⟨rfl, fun f hf => ?_⟩⟩, fun w => absurd E.2.2 w⟩
  rw [hd, alike64_num h1 hX, alike64_num hf hX, dcmp_same hX]
  exact ⟨fun _ => hn, fun w => absurd rfl w⟩
end PT2
