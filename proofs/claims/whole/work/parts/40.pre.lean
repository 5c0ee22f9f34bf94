-- PURE: numbers, memory, places
theorem n0 : (0 : Int32) = nI 0 := rfl
theorem n1 : (1 : Int32) = nI 1 := rfl
theorem n2 : (2 : Int32) = nI 2 := rfl
theorem n3 : (3 : Int32) = nI 3 := rfl
theorem n4 : (4 : Int32) = nI 4 := rfl
theorem n5 : (5 : Int32) = nI 5 := rfl
theorem n9 : (9 : Int32) = nI 9 := rfl
theorem n10 : (10 : Int32) = nI 10 := rfl
theorem n60 : (60 : Int32) = nI 60 := rfl
theorem n300 : (300 : Int32) = nI 300 := rfl
theorem n310 : (310 : Int32) = nI 310 := rfl
theorem nL {a b : Nat} (ha : a < 2147483648) (hb : b < 2147483648) : nI a < nI b ↔ a < b := nI_ltI ha hb
theorem nE {a b : Nat} (ha : a < 2147483648) (hb : b < 2147483648) : nI a ≤ nI b ↔ a ≤ b := nI_leI ha hb
theorem nQ {a b : Nat} (ha : a < 2147483648) (hb : b < 2147483648) : nI a = nI b ↔ a = b := nI_eq ha hb
theorem nC {a : Nat} (ha : a < 2147483648) : (nI a).toNatClampNeg = a := nI_clamp ha
theorem nV {a n : Nat} (h : a < n) (hn : n < 2147483648) : vp_in (nI a) n := vp_in_nI h hn
theorem nA (a b : Nat) : nI a + nI b = nI (a + b) := nI_add a b
theorem nM (a b : Nat) : nI a * nI b = nI (a * b) := pk_mul a b
theorem nS {a b : Nat} (h : b ≤ a) : nI a - nI b = nI (a - b) := pk_sub h
theorem nD {a d : Nat} (ha : a < 2147483648) (h0 : 0 < d) (hd : d < 2147483648) : nI a / nI d = nI (a / d) := pk_div ha h0 hd
theorem nLF {a b : Nat} (h : b ≤ a) (ha : a < 2147483648) : (nI a < nI b) = False := eq_false (nI_nlt h ha)
theorem nLT {a b : Nat} (h : a < b) (ha : b < 2147483648) : (nI a < nI b) = True := eq_true (nI_lt h ha)
theorem nEF {a b : Nat} (h : b < a) (ha : a < 2147483648) : (nI a ≤ nI b) = False := eq_false (nI_ge h ha)
theorem nET {a b : Nat} (h : a ≤ b) (ha : b < 2147483648) : (nI a ≤ nI b) = True := eq_true (nI_le h ha)
theorem nQF {a b : Nat} (h : a ≠ b) (ha : a < 2147483648) (hb : b < 2147483648) : (nI a = nI b) = False := eq_false (fun e => h ((nI_eq ha hb).mp e))
theorem nm1 (n : Nat) : nI (n + 1) - nI 1 = nI n := by rw [pk_sub (by omega)]; rfl
-- memory
theorem rd_ne {M : MEM} {a k b j : Nat} {v : Int32} (h : b ≠ a ∨ j ≠ k) : mI (uI M a k v) b j = mI M b j := by
  rw [mI_uI]; exact if_neg (fun q => h.elim (fun h => h q.1) (fun h => h q.2))
theorem rd_eq {M : MEM} {a k : Nat} {v : Int32} : mI (uI M a k v) a k = v := by rw [mI_uI]; exact if_pos ⟨rfl, rfl⟩
theorem rc_ne {M : MEM} {a b sp dp n c j : Nat} (h : c ≠ b ∨ j < dp ∨ dp + n ≤ j) : mI (uC M a b sp dp n) c j = mI M c j := by
  rw [mI_uC]; exact if_neg (fun q => by omega)
theorem rc_in {M : MEM} {a b sp dp n j : Nat} (h : dp ≤ j) (h2 : j < dp + n) : mI (uC M a b sp dp n) b j = mI M a (sp + (j - dp)) := by
  rw [mI_uC]; exact if_pos ⟨rfl, h, h2⟩
/-- all but the ints of S is as it was -/
def FrI (S : Nat → Prop) (M M' : MEM) : Prop := (∀ b, ¬ S b → ∀ j, mI M' b j = mI M b j) ∧ M'.2 = M.2
theorem FrI.refl {S : Nat → Prop} (M : MEM) : FrI S M M := ⟨fun _ _ _ => rfl, rfl⟩
theorem FrI.trans {S : Nat → Prop} {M M1 M2 : MEM} (h1 : FrI S M M1) (h2 : FrI S M1 M2) : FrI S M M2 := ⟨fun b hb j => (h2.1 b hb j).trans (h1.1 b hb j), h2.2.trans h1.2⟩
theorem FrI.mono {S T : Nat → Prop} {M M' : MEM} (h : FrI S M M') (hs : ∀ b, S b → T b) : FrI T M M' := ⟨fun b hb j => h.1 b (fun q => hb (hs b q)) j, h.2⟩
theorem FrI.uI {S : Nat → Prop} {M : MEM} {a k : Nat} {v : Int32} (h : S a) : FrI S M (uI M a k v) := ⟨fun b hb j => rd_ne (Or.inl fun e => hb (e ▸ h)), rfl⟩
theorem FrI.uIs {S : Nat → Prop} {M M1 : MEM} {a k : Nat} {v : Int32} (h1 : FrI S M M1) (h : S a) : FrI S M (Jvm.Pilot.CSampleBenchLaw_law_r6121_bd6fca.uI M1 a k v) := h1.trans (FrI.uI h)
theorem FrI.uC {S : Nat → Prop} {M : MEM} {a b sp dp n : Nat} (h : S b) : FrI S M (uC M a b sp dp n) := ⟨fun c hc j => rc_ne (Or.inl fun e => hc (e ▸ h)), rfl⟩
-- places
theorem kS {h : Nat} (h1 : 100 ≤ h) (h2 : h < 121) : KD h = (14, 0) := by
  unfold KD; rw [if_pos ⟨h1, h2⟩]
theorem kSq {h : Nat} (h1 : 100 ≤ h) (h2 : h < 121) : KD (h + 100) = (0, 4) := by
  unfold KD; rw [if_neg (by omega), if_pos ⟨by omega, by omega⟩]
theorem kSr {h : Nat} (h1 : 100 ≤ h) (h2 : h < 121) : KD (h + 200) = (0, 300) := by
  unfold KD; rw [if_neg (by omega), if_neg (by omega), if_pos ⟨by omega, by omega⟩]
theorem rSq {h : Nat} (h1 : 100 ≤ h) (h2 : h < 121) : RF h 6 = h + 100 := by
  unfold RF; rw [if_pos ⟨h1, h2⟩]; rfl
theorem rSr {h : Nat} (h1 : 100 ≤ h) (h2 : h < 121) : RF h 7 = h + 200 := by
  unfold RF; rw [if_pos ⟨h1, h2⟩]; rfl
theorem gB_01 {x : Int32} (h : x = 0 ∨ x = 1) : gB x := h.elim (fun h => h ▸ gB0) (fun h => h ▸ gB1)
theorem k1 : KD 1 = (15, 0) := rfl
theorem k2 : KD 2 = (4, 4) := rfl
theorem k3 : KD 3 = (4, 4) := rfl
theorem k4 : KD 4 = (10, 0) := rfl
theorem k5 : KD 5 = (4, 10) := rfl
theorem k6 : KD 6 = (0, 10) := rfl
theorem k7 : KD 7 = (0, 10) := rfl
theorem k8 : KD 8 = (11, 0) := rfl
theorem k9 : KD 9 = (1, 120) := rfl
theorem k10 : KD 10 = (11, 0) := rfl
theorem k11 : KD 11 = (1, 2048) := rfl
theorem k12 : KD 12 = (12, 0) := rfl
theorem k13 : KD 13 = (2, 60) := rfl
theorem k14 : KD 14 = (0, 4) := rfl
theorem k15 : KD 15 = (0, 4) := rfl
theorem k16 : KD 16 = (13, 0) := rfl
theorem k17 : KD 17 = (13, 0) := rfl
theorem k40 : KD 40 = (16, 0) := rfl
theorem k41 : KD 41 = (0, 1241) := rfl
theorem k108 : KD 108 = (14, 0) := rfl
theorem r1_0 : RF 1 0 = 2 := rfl
theorem r1_1 : RF 1 1 = 3 := rfl
theorem r1_5 : RF 1 5 = 4 := rfl
theorem r1_6 : RF 1 6 = 108 := rfl
theorem r1_7 : RF 1 7 = 16 := rfl
theorem r1_8 : RF 1 8 = 17 := rfl
theorem r1_9 : RF 1 9 = 8 := rfl
theorem r1_10 : RF 1 10 = 10 := rfl
theorem r1_11 : RF 1 11 = 12 := rfl
theorem r1_12 : RF 1 12 = 14 := rfl
theorem r1_13 : RF 1 13 = 15 := rfl
theorem r2 (k : Nat) : RF 2 k = 100 + k := rfl
theorem r3 (k : Nat) : RF 3 k = 104 + k := rfl
theorem r5 (k : Nat) : RF 5 k = 111 + k := rfl
theorem r4_0 : RF 4 0 = 5 := rfl
theorem r4_1 : RF 4 1 = 6 := rfl
theorem r4_2 : RF 4 2 = 7 := rfl
theorem r8 : RF 8 0 = 9 := rfl
theorem r10 : RF 10 0 = 11 := rfl
theorem r12 : RF 12 0 = 13 := rfl
theorem r40_1 : RF 40 1 = 41 := rfl
theorem r40_2 : RF 40 2 = 42 := rfl
theorem r40_3 : RF 40 3 = 43 := rfl
theorem r40_4 : RF 40 4 = 44 := rfl
theorem r40_7 : RF 40 7 = 45 := rfl
theorem r40_8 : RF 40 8 = 46 := rfl
theorem r40_9 : RF 40 9 = 47 := rfl
theorem r40_14 : RF 40 14 = 48 := rfl
theorem r40_15 : RF 40 15 = 49 := rfl
theorem r40_16 : RF 40 16 = 50 := rfl
theorem r40_18 : RF 40 18 = 51 := rfl
theorem r40_19 : RF 40 19 = 52 := rfl
theorem r40_20 : RF 40 20 = 53 := rfl
theorem r40_25 : RF 40 25 = 54 := rfl
theorem r40_26 : RF 40 26 = 55 := rfl
-- a summary as it is meant: there; kind, size, seed, span; quotas; items (number, key, stratum, weight, value)
abbrev ITM : Type := Nat × Nat × Nat × Nat × Int32
abbrev SLT : Type := Bool × (Nat × Nat × Int32 × Nat) × (Nat → Nat) × List ITM
def pt (x : ITM) : Nat → Int32
  | 0 => nI x.1 | 1 => nI x.2.1 | 2 => nI x.2.2.1 | 3 => nI x.2.2.2.1 | 4 => x.2.2.2.2 | _ => 0
abbrev sH (a : SLT) : Bool := a.1
abbrev sK (a : SLT) : Nat := a.2.1.1
abbrev sZ (a : SLT) : Nat := a.2.1.2.1
abbrev sS (a : SLT) : Int32 := a.2.1.2.2.1
abbrev sP (a : SLT) : Nat := a.2.1.2.2.2
abbrev sQ (a : SLT) : Nat → Nat := a.2.2.1
abbrev sL (a : SLT) : List ITM := a.2.2.2
abbrev sN (a : SLT) : Nat := a.2.2.2.length
def it (a : SLT) (i : Nat) : ITM := (sL a).getD i (0, 0, 0, 0, 0)
theorem pt_out (p : Nat) : pt (0, 0, 0, 0, 0) p = 0 := by unfold pt; split <;> rfl
theorem pt_no {a : SLT} {i : Nat} (h : sN a ≤ i) (p : Nat) : pt (it a i) p = 0 := by
  unfold it; rw [List.getD_eq_getElem?_getD, List.getElem?_eq_none h]; exact pt_out p
def RepC (M : MEM) (h : Nat) (a : SLT) : Prop :=
  mI M h 0 = (if sH a = true then 1 else 0) ∧ mI M h 5 = nI (sN a) ∧ (∀ i, i < sN a → ∀ p, p < 5 → mI M (h + 200) (5 * i + p) = pt (it a i) p) ∧
  (sH a = true → mI M h 1 = nI (sK a) ∧ mI M h 2 = nI (sZ a) ∧ mI M h 3 = sS a ∧ mI M h 4 = nI (sP a) ∧ ∀ t, t < 4 → mI M (h + 100) t = nI (sQ a t))
def RepR (f : Nat → Int32) (a : SLT) : Prop :=
  f 0 = (if sH a = true then 1 else 0) ∧ (sH a = true → f 1 = nI (sK a) ∧ f 2 = nI (sZ a) ∧ f 3 = sS a ∧ f 4 = nI (sP a) ∧ (∀ t, t < 4 → f (5 + t) = nI (sQ a t)) ∧ f 9 = nI (sN a) ∧ ∀ i, i < sN a → ∀ p, p < 5 → f (10 + 5 * i + p) = pt (it a i) p)
/-- an item's parts within their ranges, its number below nx -/
def okI (nx : Nat) (x : ITM) : Prop := x.1 < nx ∧ x.2.1 ≤ 99 ∧ x.2.2.1 < 4 ∧ 1 ≤ x.2.2.2.1 ∧ x.2.2.2.1 ≤ 99 ∧ -999 ≤ x.2.2.2.2.toInt ∧ x.2.2.2.2.toInt ≤ 999
def WF (nx : Nat) (a : SLT) : Prop :=
  sN a ≤ 60 ∧ (sH a = false → sL a = []) ∧ (sH a = true → sK a ≤ 3 ∧ 1 ≤ sZ a ∧ sZ a ≤ 12 ∧ sP a ≤ 40 ∧ (∀ t, t < 4 → sQ a t ≤ 12) ∧ (sP a ≠ 0 → sN a ≤ sP a)) ∧
  (∀ i, i < sN a → okI nx (it a i)) ∧ ∀ i j, i < j → j < sN a → (it a i).1 < (it a j).1
