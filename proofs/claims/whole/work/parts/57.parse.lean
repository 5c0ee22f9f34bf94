-- PURE: how a text is read; the class's parser
def chr (cs : List Nat) (p : Nat) : Nat := cs.getD p 0
def isD (cs : List Nat) (p : Nat) : Bool := decide (p < cs.length) && decide (48 ≤ chr cs p) && decide (chr cs p ≤ 57)
/-- digits from p: what they make of v, how many of at most n -/
def scanV (cs : List Nat) : Nat → Nat → Nat → Nat
  | 0, _, v => v
  | n + 1, p, v => if isD cs p = true then scanV cs n (p + 1) (v * 10 + (chr cs p - 48)) else v
def scanN (cs : List Nat) : Nat → Nat → Nat
  | 0, _ => 0
  | n + 1, p => if isD cs p = true then scanN cs n (p + 1) + 1 else 0
def negA (cs : List Nat) (p : Nat) : Bool := decide (p < cs.length) && (chr cs p == 45)
def numP (cs : List Nat) (p : Nat) : Nat := if negA cs p = true then p + 1 else p
def numD (cs : List Nat) (p : Nat) : Nat := scanN cs 10 (numP cs p)
def numV (cs : List Nat) (p : Nat) : Int := (if negA cs p = true then -1 else 1) * (scanV cs 10 (numP cs p) 0 : Int)
def numE (cs : List Nat) (p : Nat) : Nat := numP cs p + numD cs p
def lastP (k : Nat) : Bool := if k < 4 then k == 3 else (k - 4) % 5 == 4
def sepP (k : Nat) : Nat := if lastP k = true then 59 else if k < 4 then 47 else 44
/-- number k is about to be read at p -/
def prs (cs : List Nat) : Nat → Nat → Nat → List Int → Option Nat × List Int
  | 0, _, p, ns => (some p, ns)
  | f + 1, k, p, ns =>
    if numD cs p = 0 then (some (numE cs p), ns)
    else if cs.length ≤ numE cs p then (if lastP k = true then (none, ns ++ [numV cs p]) else (some (numE cs p), ns ++ [numV cs p]))
    else if chr cs (numE cs p) = sepP k then prs cs f (k + 1) (numE cs p + 1) (ns ++ [numV cs p])
    else (some (numE cs p), ns ++ [numV cs p])
theorem scanV_lt (cs : List Nat) : ∀ n p v, scanV cs n p v < (v + 1) * 10 ^ n := by
  intro n
  induction n with
  | zero => intro p v; simp [scanV]
  | succ n ih =>
    intro p v
    show (if isD cs p = true then scanV cs n (p + 1) (v * 10 + (chr cs p - 48)) else v) < _
    rw [Nat.pow_succ]
    split
    · rename_i c
      have := ih (p + 1) (v * 10 + (chr cs p - 48))
      have hd : chr cs p - 48 ≤ 9 := by
        unfold isD at c
        simp at c
        omega
      refine Nat.lt_of_lt_of_le this ?_
      rw [← Nat.mul_assoc, Nat.mul_right_comm]
      exact Nat.mul_le_mul_right _ (by omega)
    · have : 0 < 10 ^ n := Nat.pow_pos (by decide)
      calc v < v + 1 := Nat.lt_succ_self v
        _ ≤ (v + 1) * (10 ^ n * 10) := Nat.le_mul_of_pos_right _ (by omega)
theorem scanN_le (cs : List Nat) : ∀ n p, p ≤ cs.length → p + scanN cs n p ≤ cs.length := by
  intro n
  induction n with
  | zero => intro p h; exact h
  | succ n ih =>
    intro p h
    show p + (if isD cs p = true then scanN cs n (p + 1) + 1 else 0) ≤ _
    split
    · rename_i c
      have h2 : p < cs.length := by unfold isD at c; simp at c; omega
      have := ih (p + 1) h2
      omega
    · exact h
theorem numP_le {cs : List Nat} {p : Nat} (h : p ≤ cs.length) : p ≤ numP cs p ∧ numP cs p ≤ cs.length := by
  unfold numP negA
  split
  · rename_i c; simp at c; omega
  · omega
theorem numE_le {cs : List Nat} {p : Nat} (h : p ≤ cs.length) : numE cs p ≤ cs.length := scanN_le cs 10 _ (numP_le h).2
theorem numE_gt {cs : List Nat} {p : Nat} (h : p ≤ cs.length) (hd : numD cs p ≠ 0) : p < numE cs p := by
  have := (numP_le h).1
  unfold numE; omega
theorem numV_lt (cs : List Nat) (p : Nat) : -10000000000 < numV cs p ∧ numV cs p < 10000000000 := by
  have := scanV_lt cs 10 (numP cs p) 0
  simp at this
  unfold numV
  split <;> omega
def iL (v : Int) : Int64 := Int64.ofInt v
theorem iL_toInt {v : Int} (h1 : -9223372036854775808 ≤ v) (h2 : v < 9223372036854775808) : (iL v).toInt = v := by
  exact Int64.toInt_ofInt_of_le (by omega) (by omega)
theorem iL_of {x : Int64} {v : Int} (h : x.toInt = v) : x = iL v := by
  have h1 := x.toInt_lt
  have h2 := x.le_toInt
  exact Int64.toInt_inj.mp (by rw [iL_toInt (by omega) (by omega)]; exact h)
/-- the class's parser holds the numbers ns and stands at p -/
def Par (M : MEM) (ns : List Int) (p : Nat) : Prop := mI M 12 1 = nI ns.length ∧ mI M 12 2 = nI p ∧ ∀ k (hk : k < ns.length), mL M 13 k = iL ns[k]
/-- only the parser's own cells -/
def FrP (M M' : MEM) : Prop := ∀ b, b ≠ 12 → ∀ j, mI M' b j = mI M b j
theorem FrP.trans {M M1 M2 : MEM} (h1 : FrP M M1) (h2 : FrP M1 M2) : FrP M M2 := fun b hb j => (h2 b hb j).trans (h1 b hb j)
section PP
variable {M : MEM} {cs : List Nat}
theorem chr_get {k : Nat} (h : k < cs.length) : chr cs k = cs[k] := by
  unfold chr; rw [List.getD_eq_getElem?_getD, List.getElem?_eq_getElem h]; rfl
theorem Let.fp {M' : MEM} (hL : Let M 8 cs) (hF : FrP M M') : Let M' 8 cs := hL.of (fun b hb j => hF b (by unfold inL at hb; omega) j)
theorem p_letter (hL : Let M 8 cs) (hc : ∀ c ∈ cs, c < 65536) (hl : cs.length ≤ 120) {p : Nat} (hp : p < cs.length) {Q : Int32 → Prop} (hQ : Q (nI (chr cs p))) : wp_X1_letterAt 8 (nI p) M Q := by
  rw [chr_get hp] at hQ
  obtain ⟨h1, h2⟩ := hL
  refine ⟨rfl, fun w => absurd w (nI_pos (by omega)), fun _ => ⟨fun w => ?_, fun _ => ⟨120, rfl, fun _ => ⟨nV (by omega) (by decide), ?_⟩, fun w => absurd (nI_lt (b := 120) (by omega) (by decide)) w⟩⟩⟩
  · rw [h1] at w; exact absurd w (nI_ge hp (by omega))
  · rw [nC (by omega), show mI M (RF 8 0) p = nI cs[p] from h2 p hp]
    exact ⟨gC_n (hc _ (List.getElem_mem hp)), hQ⟩
theorem chr_lt (hc : ∀ c ∈ cs, c < 65536) (p : Nat) : chr cs p < 65536 := by
  by_cases h : p < cs.length
  · rw [chr_get h]; exact hc _ (List.getElem_mem h)
  · unfold chr; rw [List.getD_eq_getElem?_getD, List.getElem?_eq_none (Nat.not_lt.mp h)]; decide
theorem p_isDigit (hL : Let M 8 cs) (hc : ∀ c ∈ cs, c < 65536) (hl : cs.length ≤ 120) {p : Nat} (hp : p < 2147483648) {Q : Int32 → Prop} (hQ : Q (if isD cs p = true then 1 else 0)) : wp_X2_isDigit 8 (nI p) M Q := by
  refine ⟨rfl, rfl, ?_⟩
  rw [hL.1]
  refine ⟨fun w => ?_, fun w => ?_⟩
  · have : ¬ p < cs.length := fun q => absurd w (nI_ge q (by omega))
    rw [if_neg (by unfold isD; simp; omega)] at hQ
    exact hQ
  · have hp' : p < cs.length := Nat.not_le.mp (fun q => w (nI_le q (by omega)))
    have hch := chr_lt hc p
    refine p_letter hL hc hl hp' (s_w32 48 57 (by decide) (by decide) (fun r => ⟨fun e => absurd e (by decide), fun _ => ?_⟩) (fun r => ⟨fun _ => ?_, fun e => absurd rfl e⟩))
    · have := (rng_of (by omega)).mp r
      rw [if_pos (by unfold isD; simp; omega)] at hQ
      exact hQ
    · have : ¬ (48 ≤ chr cs p ∧ chr cs p ≤ 57) := fun q => r ((rng_of (by omega)).mpr ⟨by omega, by omega⟩)
      rw [if_neg (by unfold isD; simp; omega)] at hQ
      exact hQ
theorem lN_scan {v c : Nat} (hv : v < 10000000000) (h1 : 48 ≤ c) (h2 : c ≤ 57) : (lN v * 10) + ((nI c - 48 : Int32).toInt64) = lN (v * 10 + (c - 48)) := by
  have e : nI c - 48 = nI (c - 48) := pk_sub (b := 48) h1
  have e2 : lN v * 10 = lN (v * 10) := (Int64.ofNat_mul v 10).symm
  rw [e, nI_l (by omega), e2]
  exact (Int64.ofNat_add _ _).symm
theorem p_J102 (hL : Let M 8 cs) {ns : List Int} {p : Nat} (hP : Par M ns p) (hk : ns.length ≤ 60) {neg : Bool} {v d : Nat} (hv : v < 10000000000) (hd : d ≤ 10) {Q : Int32 → MEM → Prop}
    (h0 : d = 0 ∨ 60 ≤ ns.length → Q 0 M) (h1 : d ≠ 0 → ns.length < 60 → ∀ M', Par M' (ns ++ [(if neg = true then -1 else 1) * (v : Int)]) p → FrP M M' → Q 1 M') : wp_X2_takeNumber_J102 12 Q (if neg = true then 1 else 0) (lN v) (nI d) M := by
  obtain ⟨g1, g2, g3⟩ := hP
  refine ⟨fun w => h0 (Or.inl ((nI_eq (b := 0) (by omega) (by decide)).mp w)), fun w => ⟨rfl, ?_⟩⟩
  have hd0 : d ≠ 0 := fun e => w (by rw [e]; rfl)
  rw [g1]
  refine ⟨fun q => ?_, fun q => h0 (Or.inr (Nat.not_lt.mp (fun w2 => q (nI_lt w2 (by decide)))))⟩
  have q' : ns.length < 60 := (nI_ltI (by omega) (by decide)).mp q
  have hw : wp_X2_takeNumber_J139 12 Q M (iL ((if neg = true then -1 else 1) * (v : Int))) := by
    unfold wp_X2_takeNumber_J139
    rw [g1]
    refine ⟨nV q' (by decide), fun M12 e12 M13 e13 => ?_⟩
    rw [nC (by omega)] at e12
    have c12 : mI M12 12 1 = nI ns.length := by rw [e12]; exact g1
    rw [c12, n1, nA] at e13
    refine h1 hd0 q' M13 ⟨by rw [e13, rd_eq, List.length_append]; rfl, by rw [e13, rd_ne (by omega), e12]; exact g2, fun k hk => ?_⟩ (fun b hb j => by rw [e13, rd_ne (by omega), e12]; rfl)
    rw [List.getElem_append, e13, mL_uI, e12, mL_uL]
    by_cases c : k < ns.length
    · rw [dif_pos c, if_neg (by omega)]; exact g3 k c
    · have hk' : k < ns.length + 1 := by rw [List.length_append] at hk; exact hk
      rw [dif_neg c, if_pos ⟨rfl, by omega⟩]; simp
  cases neg with
  | false =>
    refine ⟨fun _ => ?_, fun e => absurd rfl e⟩
    have e : lN v = iL ((if false = true then -1 else 1) * (v : Int)) := iL_of (by rw [pk_lT (by omega)]; simp)
    rw [e]; exact hw
  | true =>
    refine ⟨fun e => absurd (show (1 : Int32) = 0 from e) (by decide), fun _ => ?_⟩
    have e : -lN v = iL ((if true = true then -1 else 1) * (v : Int)) := by
      refine iL_of ?_
      rw [Int64.toInt_neg, pk_lT (by omega), Int.bmod_eq_of_le (by omega) (by omega)]
      simp
    rw [e]; exact hw
theorem p_take (hL : Let M 8 cs) (hc : ∀ c ∈ cs, c < 65536) (hl : cs.length ≤ 120) {ns : List Int} {p : Nat} (hP : Par M ns p) (hp : p ≤ cs.length) (hk : ns.length ≤ 60) {Q : Int32 → MEM → Prop}
    (h0 : numD cs p = 0 ∨ 60 ≤ ns.length → ∀ M', Par M' ns (numE cs p) → FrP M M' → Q 0 M') (h1 : numD cs p ≠ 0 → ns.length < 60 → ∀ M', Par M' (ns ++ [numV cs p]) (numE cs p) → FrP M M' → Q 1 M') : wp_X2_takeNumber 12 8 M Q := by
  obtain ⟨hn1, hn2⟩ := numP_le hp
  have lp : ∀ f d q v M1, d ≤ 10 → 10 - d < f → q ≤ cs.length → v < 10 ^ d → Par M1 ns q → FrP M M1 → scanV cs (10 - d) q v = scanV cs 10 (numP cs p) 0 → d + scanN cs (10 - d) q = numD cs p → q + scanN cs (10 - d) q = numE cs p → wp_X2_takeNumber_L49 12 8 Q (if negA cs p = true then 1 else 0) f (lN v) (nI d) M1 := by
    intro f
    induction f with
    | zero => intro d q v M1 _ h9; omega
    | succ f ih =>
      intro d q v M1 hd hf hq hv hP1 hF1 hsv hsn hse
      have hL1 := hL.fp hF1
      have hv10 : v < 10000000000 := Nat.lt_of_lt_of_le hv (Nat.pow_le_pow_right (by decide) hd)
      have fin : scanN cs (10 - d) q = 0 → scanV cs (10 - d) q v = v → wp_X2_takeNumber_J102 12 Q (if negA cs p = true then 1 else 0) (lN v) (nI d) M1 := by
        intro z zv
        have eqd : d = numD cs p := by omega
        have eqe : q = numE cs p := by omega
        have eqv : (if negA cs p = true then -1 else 1) * (v : Int) = numV cs p := by unfold numV; rw [← hsv, zv]
        refine p_J102 hL1 hP1 hk hv10 hd (fun w => ?_) (fun w1 w2 M2 hP2 hF2 => ?_)
        · rw [eqd] at w; rw [eqe] at hP1; exact h0 w M1 hP1 hF1
        · rw [eqd] at w1; rw [eqe, eqv] at hP2; exact h1 w1 w2 M2 hP2 (hF1.trans hF2)
      unfold wp_X2_takeNumber_L49
      refine ⟨fun w => ?_, fun w => ?_⟩
      · have : d = 10 := by have := (nI_leI (a := 10) (by decide) (by omega)).mp w; omega
        subst this
        exact fin rfl rfl
      · have hd10 : d < 10 := Nat.not_le.mp (fun q => w (nI_le (a := 10) q (by omega)))
        have e10 : 10 - d = (10 - (d + 1)) + 1 := by omega
        rw [hP1.2.1]
        refine p_isDigit hL1 hc hl (by omega) ⟨fun w2 => ?_, fun w2 => ?_⟩
        · have hnd : ¬ isD cs q = true := fun z => by rw [if_pos z] at w2; exact absurd w2 (by decide)
          refine fin ?_ ?_
          · rw [e10]; show (if isD cs q = true then _ else 0) = 0; rw [if_neg hnd]
          · rw [e10]; show (if isD cs q = true then _ else v) = v; rw [if_neg hnd]
        · have hdd : isD cs q = true := Decidable.byContradiction (fun z => by rw [if_neg z] at w2; exact w2 rfl)
          have hdd' := hdd
          unfold isD at hdd'
          simp at hdd'
          refine p_letter hL1 hc hl (by omega) (fun x3 e3 M19 e19 x5 e5 => ?_)
          rw [lN_scan hv10 (by omega) (by omega)] at e3
          rw [n1, nA] at e19
          rw [e3, e5, n1, nA]
          rw [e10] at hsv hsn hse
          have sv : scanV cs (10 - (d + 1)) (q + 1) (v * 10 + (chr cs q - 48)) = scanV cs 10 (numP cs p) 0 := by
            have : (if isD cs q = true then scanV cs (10 - (d + 1)) (q + 1) (v * 10 + (chr cs q - 48)) else v) = scanV cs 10 (numP cs p) 0 := hsv
            rw [if_pos hdd] at this; exact this
          have sn : scanN cs (10 - (d + 1) + 1) q = scanN cs (10 - (d + 1)) (q + 1) + 1 := by
            show (if isD cs q = true then _ else 0) = _
            rw [if_pos hdd]
          rw [sn] at hsn hse
          refine ih (d + 1) (q + 1) _ M19 (by omega) (by omega) (by omega) (by rw [Nat.pow_succ]; omega) ⟨by rw [e19, rd_ne (by omega)]; exact hP1.1, by rw [e19, rd_eq], fun k hk => by rw [e19, mL_uI]; exact hP1.2.2 k hk⟩ (fun b hb j => by rw [e19, rd_ne (by omega)]; exact hF1 b hb j) sv (by omega) (by omega)
  have go : ∀ M1, Par M1 ns (numP cs p) → FrP M M1 → wp_X2_takeNumber_J44 12 8 Q (if negA cs p = true then 1 else 0) M1 := fun M1 hP1 hF1 => ⟨11, lp 11 0 (numP cs p) 0 M1 (by decide) (by decide) hn2 (by decide) hP1 hF1 rfl (Nat.zero_add _) rfl⟩
  refine ⟨rfl, rfl, rfl, ?_⟩
  rw [hL.1, hP.2.1]
  have neg0 : negA cs p = false → wp_X2_takeNumber_J28 12 8 M Q := fun z => by
    refine ⟨fun _ => ?_, fun w => absurd rfl w⟩
    have := go M (by unfold numP; rw [if_neg (by rw [z]; decide)]; exact hP) (fun _ _ _ => rfl)
    rw [if_neg (by rw [z]; decide)] at this
    exact this
  refine ⟨fun w => neg0 ?_, fun w => ?_⟩
  · have : ¬ p < cs.length := fun q => absurd w (nI_ge q (by omega))
    unfold negA; simp; omega
  · have hp' : p < cs.length := Nat.not_le.mp (fun q => w (nI_le q (by omega)))
    have hch := chr_lt hc p
    refine p_letter hL hc hl hp' ⟨fun w2 => neg0 ?_, fun w2 => ⟨fun e => absurd e (by decide), fun _ M21 e21 => ?_⟩⟩
    · unfold negA; simp; exact fun _ e => w2 (by rw [e]; rfl)
    · have h45 : chr cs p = 45 := (nI_eq (b := 45) (by omega) (by decide)).mp w2
      have hneg : negA cs p = true := by unfold negA; simp; exact ⟨hp', h45⟩
      rw [hP.2.1, n1, nA] at e21
      have := go M21 ⟨by rw [e21, rd_ne (by omega)]; exact hP.1, by rw [e21, rd_eq]; unfold numP; rw [if_pos hneg], fun k hk => by rw [e21, mL_uI]; exact hP.2.2 k hk⟩ (fun b hb j => by rw [e21, rd_ne (by omega)])
      rw [if_pos hneg] at this
      exact this
end PP
