-- PURE: the reference reads a text
def ParR (M : MEM) (ns : List Int) (p : Nat) : Prop := mI M 40 23 = nI ns.length ∧ mI M 40 22 = nI p ∧ ∀ k (hk : k < ns.length), mL M 52 k = iL ns[k]
/-- only where the parser stands, and its numbers -/
def FrN (M M' : MEM) : Prop := (∀ b j, (b ≠ 40 ∨ (j ≠ 22 ∧ j ≠ 23)) → mI M' b j = mI M b j) ∧ (∀ b, b ≠ 52 → ∀ j, mL M' b j = mL M b j) ∧ M'.2.2 = M.2.2
theorem FrN.refl (M : MEM) : FrN M M := ⟨fun _ _ _ => rfl, fun _ _ _ => rfl, rfl⟩
theorem FrN.trans {M M1 M2 : MEM} (h1 : FrN M M1) (h2 : FrN M1 M2) : FrN M M2 := ⟨fun b j h => (h2.1 b j h).trans (h1.1 b j h), fun b h j => (h2.2.1 b h j).trans (h1.2.1 b h j), h2.2.2.trans h1.2.2⟩
theorem FrN.R {M M' : MEM} (h : FrN M M') : FrR M M' := ⟨fun b p j => h.1 b j (by omega), h.2.1 60 (by decide) 0, h.2.2⟩
def Inp (M : MEM) (cs : List Nat) : Prop := mI M 40 21 = nI cs.length ∧ ∀ k (hk : k < cs.length), mI M 51 k = nI cs[k]
theorem Inp.of {M M' : MEM} {cs : List Nat} (h : Inp M cs) (hF : FrN M M') : Inp M' cs := ⟨by rw [hF.1 40 21 (by decide)]; exact h.1, fun k hk => by rw [hF.1 51 k (Or.inl (by decide))]; exact h.2 k hk⟩
/-- k numbers are read, the last one up to e -/
def aft (cs : List Nat) (f k e : Nat) (ns : List Int) : Option Nat × List Int :=
  if cs.length ≤ e then (if lastP (k - 1) = true then (none, ns) else (some e, ns))
  else if chr cs e = sepP (k - 1) then prs cs f k (e + 1) ns else (some e, ns)
theorem prs_aft (cs : List Nat) (f k p : Nat) (ns : List Int) : prs cs (f + 1) k p ns = if numD cs p = 0 then (some (numE cs p), ns) else aft cs f (k + 1) (numE cs p) (ns ++ [numV cs p]) := by
  rw [prs]; rfl
section PRR
variable {M : MEM} {cs : List Nat} {ns : List Int} {p m : Nat}
theorem q_skips (hI : Inp M cs) (hl : cs.length ≤ 120) (hc : ∀ c ∈ cs, c < 65536) (hP : mI M 40 22 = nI p) (hp : p ≤ cs.length) {c : Nat} (hc2 : c < 65536) {Q : Int32 → MEM → Prop} (h0 : ¬ (p < cs.length ∧ chr cs p = c) → Q 0 M) (h1 : p < cs.length → chr cs p = c → ∀ M', M' = uI M 40 22 (nI (p + 1)) → Q 1 M') : wp_X6_skips 40 (nI c) M Q := by
  refine ⟨rfl, ?_⟩
  rw [hP, hI.1, nI_eq (by omega) (by omega)]
  refine ⟨fun w => h0 (fun z => by omega), fun w => ⟨rfl, nV (by omega) (by decide), ?_⟩⟩
  have hp' : p < cs.length := by omega
  have hch := chr_lt hc p
  rw [nC (by omega), show RF 40 18 = 51 from rfl, hI.2 p hp', ← chr_get hp', nI_eq (by omega) (by omega)]
  exact ⟨fun z M3 e3 => h1 hp' z M3 (by rw [e3, nI_1]), fun z => h0 (fun w2 => z w2.2)⟩
theorem lN_scan2 {v c : Nat} (hv : v < 10000000000) (h1 : 48 ≤ c) (h2 : c ≤ 57) : ((10 * lN v) + ((nI c : Int32).toInt64)) - 48 = lN (v * 10 + (c - 48)) := by
  have e2 : 10 * lN v = lN (10 * v) := lN_mul 10 v
  rw [nI_l (by omega), e2, lN_add]
  have := lN_sub (a := 10 * v + c) (b := 48) (by omega)
  have e3 : lN (10 * v + c) - 48 = lN (10 * v + c - 48) := this
  rw [e3]; congr 1; omega
theorem q_takeN (hI : Inp M cs) (hl : cs.length ≤ 120) (hc : ∀ c ∈ cs, c < 65536) (hP : ParR M ns p) (hp : p ≤ cs.length) (hk : ns.length < 128) {Q : Int32 → MEM → Prop}
    (h0 : numD cs p = 0 → ∀ M', mI M' 40 22 = nI (numE cs p) → FrN M M' → Q 0 M') (h1 : numD cs p ≠ 0 → ∀ M', ParR M' (ns ++ [numV cs p]) (numE cs p) → FrN M M' → Q 1 M') : wp_X6_takesNumber 40 M Q := by
  obtain ⟨hn1, hn2⟩ := numP_le hp
  have j107 : ∀ (M5 : MEM) (d : Nat) (v : Int64), d ≤ 10 → FrN M M5 → mI M5 40 23 = nI ns.length → mI M5 40 22 = nI (numE cs p) → (∀ k (hk : k < ns.length), mL M5 52 k = iL ns[k]) → d = numD cs p → v = iL (numV cs p) → wp_X6_takesNumber_J107 40 Q (nI d) M5 v := fun M5 d v hd hF h23 h22 h52 ed ev => by
    refine ⟨rfl, ?_⟩
    rw [h23]
    refine ⟨nV hk (by decide), fun M9 e9 M10 e10 => ?_⟩
    rw [nC (by omega), show RF 40 19 = 52 from rfl] at e9
    have c9 : mI M9 40 23 = nI ns.length := by rw [e9]; exact h23
    rw [c9, nI_1] at e10
    have F10 : FrN M M10 := hF.trans ⟨fun b j h => by rw [e10, rd_ne (by omega), e9]; rfl, fun b hb j => by rw [e10, mL_uI, e9, mL_uL, if_neg (fun w => hb w.1)], by rw [e10, e9]; rfl⟩
    have h22' : mI M10 40 22 = nI (numE cs p) := by rw [e10, rd_ne (by omega), e9]; exact h22
    refine ⟨fun w => ?_, fun w => ?_⟩
    · have d0 : d = 0 := by have := (nI_leI (b := 0) (by omega) (by decide)).mp w; omega
      exact h0 (by omega) M10 h22' F10
    · have d0 : d ≠ 0 := fun e => w (by rw [e]; decide)
      refine h1 (by omega) M10 ⟨by rw [e10, rd_eq, List.length_append]; rfl, h22', fun k hk2 => ?_⟩ F10
      rw [List.getElem_append, e10, mL_uI, e9, mL_uL]
      by_cases c : k < ns.length
      · rw [dif_pos c, if_neg (by omega)]; exact h52 k c
      · have hk' : k < ns.length + 1 := by rw [List.length_append] at hk2; exact hk2
        rw [dif_neg c, if_pos ⟨rfl, by omega⟩, ev]; simp
  have lp : ∀ f d q v M1, d ≤ 10 → 10 - d < f → q ≤ cs.length → v < 10 ^ d → FrN M M1 → mI M1 40 23 = nI ns.length → mI M1 40 22 = nI q → (∀ k (hk : k < ns.length), mL M1 52 k = iL ns[k]) → scanV cs (10 - d) q v = scanV cs 10 (numP cs p) 0 → d + scanN cs (10 - d) q = numD cs p → q + scanN cs (10 - d) q = numE cs p → wp_X6_takesNumber_L12 40 Q (if negA cs p = true then 1 else 0) f (lN v) (nI d) M1 := by
    intro f
    induction f with
    | zero => intro d q v M1 _ h9; omega
    | succ f ih =>
      intro d q v M1 hd hf hq hv hF1 h23 h22 h52 hsv hsn hse
      have hI1 := hI.of hF1
      have hv10 : v < 10000000000 := Nat.lt_of_lt_of_le hv (Nat.pow_le_pow_right (by decide) hd)
      have fin : scanN cs (10 - d) q = 0 → scanV cs (10 - d) q v = v → wp_X6_takesNumber_J89 40 Q (if negA cs p = true then 1 else 0) (lN v) (nI d) M1 := fun z zv => by
        have eqd : d = numD cs p := by omega
        have eqe : q = numE cs p := by omega
        rw [eqe] at h22
        have eqv : scanV cs 10 (numP cs p) 0 = v := by rw [← hsv, zv]
        have hV : numV cs p = (if negA cs p = true then -1 else 1) * (v : Int) := by unfold numV; rw [eqv]
        cases hneg : negA cs p with
        | false =>
          rw [hneg] at hV
          refine ⟨fun _ => j107 M1 d (lN v) hd hF1 h23 h22 h52 eqd ?_, fun w => absurd rfl w⟩
          refine iL_of ?_
          rw [hV, pk_lT (by omega)]; simp
        | true =>
          rw [hneg] at hV
          refine ⟨fun w => absurd (show (1 : Int32) = 0 from w) (by decide), fun _ => j107 M1 d (-lN v) hd hF1 h23 h22 h52 eqd ?_⟩
          refine iL_of ?_
          rw [hV, Int64.toInt_neg, pk_lT (by omega), Int.bmod_eq_of_le (by omega) (by omega)]; simp
      unfold wp_X6_takesNumber_L12
      refine ⟨fun w => ?_, fun w => ?_⟩
      · have : d = 10 := by have := (nI_leI (a := 10) (by decide) (by omega)).mp w; omega
        subst this
        exact fin rfl rfl
      · have hd10 : d < 10 := Nat.not_le.mp (fun q => w (nI_le (a := 10) q (by omega)))
        have e10 : 10 - d = (10 - (d + 1)) + 1 := by omega
        have noD : ¬ isD cs q = true → wp_X6_takesNumber_J89 40 Q (if negA cs p = true then 1 else 0) (lN v) (nI d) M1 := fun hnd => by
          refine fin ?_ ?_
          · rw [e10]; show (if isD cs q = true then _ else 0) = 0; rw [if_neg hnd]
          · rw [e10]; show (if isD cs q = true then _ else v) = v; rw [if_neg hnd]
        rw [h22, hI1.1, nI_leI (by omega) (by omega)]
        refine ⟨fun w2 => noD (by unfold isD; simp; omega), fun w2 => ⟨rfl, nV (by omega) (by decide), ?_⟩⟩
        have hq' : q < cs.length := by omega
        have hch := chr_lt hc q
        rw [nC (by omega), show RF 40 18 = 51 from rfl, hI1.2 q hq', ← chr_get hq']
        refine q_w32 48 57 (by decide) (by decide) (fun r => e1 ⟨nV (by omega) (by decide), fun x2 e2 x4 e4 M18 e18 => ?_⟩) (fun r => e0 (noD ?_))
        · have hr := (rng_of (by omega)).mp r
          have hdd : isD cs q = true := by unfold isD; simp; omega
          rw [lN_scan2 hv10 (by omega) (by omega)] at e2
          rw [nI_1] at e18
          rw [e2, e4, nI_1]
          rw [e10] at hsv hsn hse
          have sv : scanV cs (10 - (d + 1)) (q + 1) (v * 10 + (chr cs q - 48)) = scanV cs 10 (numP cs p) 0 := by
            have : (if isD cs q = true then scanV cs (10 - (d + 1)) (q + 1) (v * 10 + (chr cs q - 48)) else v) = scanV cs 10 (numP cs p) 0 := hsv
            rw [if_pos hdd] at this; exact this
          have sn : scanN cs (10 - (d + 1) + 1) q = scanN cs (10 - (d + 1)) (q + 1) + 1 := by
            show (if isD cs q = true then _ else 0) = _
            rw [if_pos hdd]
          rw [sn] at hsn hse
          refine ih (d + 1) (q + 1) _ M18 (by omega) (by omega) (by omega) (by rw [Nat.pow_succ]; omega) (hF1.trans ⟨fun b j h => by rw [e18, rd_ne (by omega)], fun b hb j => by rw [e18]; rfl, by rw [e18]; rfl⟩) (by rw [e18, rd_ne (by omega)]; exact h23) (by rw [e18, rd_eq]) (fun k hk => by rw [e18, mL_uI]; exact h52 k hk) sv (by omega) (by omega)
        · have : ¬ (48 ≤ chr cs q ∧ chr cs q ≤ 57) := fun z => r ((rng_of (by omega)).mpr ⟨by omega, by omega⟩)
          unfold isD; simp; omega
  refine ⟨rfl, q_skips (c := 45) hI hl hc hP.2.1 hp (by decide) (fun z => ⟨11, ?_⟩) (fun z1 z2 M2 e2 => ⟨11, ?_⟩)⟩
  · have hneg : negA cs p = false := by
      unfold negA
      rw [Bool.and_eq_false_iff]
      by_cases q : p < cs.length
      · exact Or.inr (by simp; exact fun e => z ⟨q, e⟩)
      · exact Or.inl (by simpa using q)
    have hnp : numP cs p = p := by unfold numP; rw [if_neg (by rw [hneg]; decide)]
    have := lp 11 0 (numP cs p) 0 M (by decide) (by decide) hn2 (by decide) (FrN.refl M) hP.1 (by rw [hnp]; exact hP.2.1) hP.2.2 rfl (Nat.zero_add _) rfl
    rw [if_neg (by rw [hneg]; decide)] at this
    exact this
  · have hneg : negA cs p = true := by unfold negA; simp; exact ⟨z1, z2⟩
    have hnp : numP cs p = p + 1 := by unfold numP; rw [if_pos hneg]
    have := lp 11 0 (numP cs p) 0 M2 (by decide) (by decide) hn2 (by decide) ⟨fun b j h => by rw [e2, rd_ne (by omega)], fun b hb j => by rw [e2]; rfl, by rw [e2]; rfl⟩ (by rw [e2, rd_ne (by omega)]; exact hP.1) (by rw [hnp, e2, rd_eq]) (fun k hk => by rw [e2, mL_uI]; exact hP.2.2 k hk) rfl (Nat.zero_add _) rfl
    rw [if_pos hneg] at this
    exact this
/-- a row of n numbers, the first of them being number k0 -/
theorem q_row (hl : cs.length ≤ 120) (hc : ∀ c ∈ cs, c < 65536) {R : Option Nat × List Int} {n k0 sep : Nat} (hn : 1 ≤ n) (hn5 : n ≤ 5) (hs : sep < 100) (hsep : ∀ j, j + 1 < n → lastP (k0 + j) = false ∧ sepP (k0 + j) = sep)
    (hI : Inp M cs) (hP : ParR M ns p) (hk : ns.length = k0) (hkp : 2 * k0 ≤ p) (hp : p ≤ cs.length) {f0 : Nat} (hf0 : f0 + k0 = 61) (hR : prs cs f0 k0 p ns = R) {Q : Int32 → MEM → Prop}
    (h0 : ∀ M' e, R.1 = some e → mI M' 40 22 = nI e → e ≤ cs.length → FrN M M' → Q 0 M') (h1 : ∀ M' e ns' f, ns'.length = k0 + n → f + (k0 + n) = 61 → 2 * (k0 + n) ≤ e + 1 → e ≤ cs.length → ParR M' ns' e → FrN M M' → aft cs f (k0 + n) e ns' = R → Q 1 M') : wp_X6_takesRow 40 (nI n) (nI sep) M Q := by
  refine ⟨rfl, n + 1, ?_⟩
  -- a number is read
  have num : ∀ (M2 : MEM) j q ns1 f (Q2 : Int32 → MEM → Prop), j < n → FrN M M2 → ParR M2 ns1 q → ns1.length = k0 + j → 2 * (k0 + j) ≤ q → q ≤ cs.length → f + (k0 + j) = 61 → prs cs f (k0 + j) q ns1 = R → (∀ M' e, R.1 = some e → mI M' 40 22 = nI e → e ≤ cs.length → FrN M M' → Q2 0 M') → (∀ M' e ns' f, ns'.length = k0 + (j + 1) → f + (k0 + (j + 1)) = 61 → 2 * (k0 + (j + 1)) ≤ e + 1 → e ≤ cs.length → ParR M' ns' e → FrN M M' → aft cs f (k0 + (j + 1)) e ns' = R → Q2 1 M') → wp_X6_takesNumber 40 M2 Q2 := fun M2 j q ns1 f Q2 hj hF hP1 hlen hq hqc hf hpr g0 g1 => by
    obtain ⟨f, rfl⟩ : ∃ g, f = g + 1 := ⟨f - 1, by omega⟩
    rw [prs_aft] at hpr
    have hE := numE_le hqc
    refine q_takeN (hI.of hF) hl hc hP1 hqc (by omega) (fun d0 M' h22 F' => ?_) (fun d0 M' hP' F' => ?_)
    · rw [if_pos d0] at hpr
      exact g0 M' _ (by rw [← hpr]) h22 hE (hF.trans F')
    · rw [if_neg d0] at hpr
      have hgt := numE_gt hqc d0
      exact g1 M' _ _ f (by rw [List.length_append, hlen]; rfl) (by omega) (by omega) hE hP' (hF.trans F') hpr
  have lp : ∀ g j M2 e ns1 f, 1 ≤ j → j ≤ n → n - j < g → FrN M M2 → ParR M2 ns1 e → ns1.length = k0 + j → 2 * (k0 + j) ≤ e + 1 → e ≤ cs.length → f + (k0 + j) = 61 → aft cs f (k0 + j) e ns1 = R → wp_X6_takesRow_L2 40 (nI n) (nI sep) Q g (nI j) M2 := by
    intro g
    induction g with
    | zero => intro j M2 e ns1 f _ _ h9; omega
    | succ g ih =>
      intro j M2 e ns1 f hj1 hj hg hF hP1 hlen hke he hf haft
      unfold wp_X6_takesRow_L2
      rw [nI_leI (by omega) (by omega)]
      refine ⟨fun w => ?_, fun w => ⟨fun w2 => absurd w2 (nI_nle (by omega) (by omega)), fun _ => ?_⟩⟩
      · have ej : j = n := by omega
        subst ej
        exact h1 M2 e ns1 f hlen hf hke he hP1 hF haft
      · obtain ⟨hla, hsp⟩ := hsep (j - 1) (by omega)
        rw [show k0 + (j - 1) = k0 + j - 1 by omega] at hla hsp
        unfold aft at haft
        refine q_skips (hI.of hF) hl hc hP1.2.1 he (by omega) (fun z => i0 ?_) (fun z1 z2 M7 e7 => i1 ?_)
        · refine h0 M2 e ?_ hP1.2.1 he hF
          by_cases q : cs.length ≤ e
          · rw [if_pos q, if_neg (by rw [hla]; decide)] at haft
            rw [← haft]
          · rw [if_neg q, hsp, if_neg (fun w => z ⟨by omega, w⟩)] at haft
            rw [← haft]
        · rw [if_neg (by omega), hsp, if_pos z2] at haft
          have F7 : FrN M M7 := hF.trans ⟨fun b j h => by rw [e7, rd_ne (by omega)], fun b hb j => by rw [e7]; rfl, by rw [e7]; rfl⟩
          refine num M7 j (e + 1) ns1 f _ (by omega) F7 ⟨by rw [e7, rd_ne (by omega)]; exact hP1.1, by rw [e7, rd_eq], fun k hk => by rw [e7, mL_uI]; exact hP1.2.2 k hk⟩ hlen (by omega) (by omega) hf haft (fun M' e' a1 a2 a3 a4 => i0 (h0 M' e' a1 a2 a3 a4)) (fun M' e' ns' f' a1 a2 a3 a4 a5 a6 a7 => i1 (fun x ex => ?_))
          rw [ex, n1, nA]
          exact ih (j + 1) M' e' ns' f' (by omega) (by omega) (by omega) a6 a5 a1 a3 a4 a2 a7
  show wp_X6_takesRow_L2 40 (nI n) (nI sep) Q (n + 1) (nI 0) M
  unfold wp_X6_takesRow_L2
  rw [nI_leI (by omega) (by decide)]
  refine ⟨fun w => absurd w (by omega), fun _ => ⟨fun _ => ?_, fun w => absurd (by decide) w⟩⟩
  refine num M 0 p ns f0 _ (by omega) (FrN.refl M) hP (by omega) (by omega) hp (by omega) hR (fun M' e' a1 a2 a3 a4 => i0 (h0 M' e' a1 a2 a3 a4)) (fun M' e' ns' f' a1 a2 a3 a4 a5 a6 a7 => i1 (fun x ex => ?_))
  rw [ex, n1, nA]
  exact lp n 1 M' e' ns' f' (by omega) (by omega) (by omega) a6 a5 a1 a3 a4 a2 a7
theorem q_parse (hl : cs.length ≤ 120) (hc : ∀ c ∈ cs, c < 65536) (hI : Inp M cs) {Q : Int32 → MEM → Prop}
    (h0 : ∀ M' e, (prsR cs).1 = some e → mI M' 40 22 = nI e → e ≤ cs.length → FrN M M' → Q 0 M') (h1 : ∀ M' e, (prsR cs).1 = none → ParR M' (prsR cs).2 e → FrN M M' → Q 1 M') : wp_X6_takesText 40 M Q := by
  refine ⟨rfl, fun M1 em1 M2 em2 => ?_⟩
  have F2 : FrN M M2 := ⟨fun b j h => by rw [em2, rd_ne (by omega), em1, rd_ne (by omega)], fun b hb j => by rw [em2, em1]; rfl, by rw [em2, em1]; rfl⟩
  have P2 : ParR M2 [] 0 := ⟨by rw [em2, rd_eq]; rfl, by rw [em2, rd_ne (by omega), em1, rd_eq]; rfl, fun k hk => absurd hk (Nat.not_lt_zero _)⟩
  have fail : ∀ g M', (∃ e, (prsR cs).1 = some e ∧ mI M' 40 22 = nI e ∧ e ≤ cs.length) → FrN M M' → wp_X6_takesText_L18 40 Q (g + 1) 0 M' := fun g M' ⟨e, a1, a2, a3⟩ hF => ⟨fun _ => ⟨gB0, h0 M' e a1 a2 a3 hF⟩, fun w => absurd rfl w⟩
  have lp : ∀ g i M3 e ns1 f, FrN M M3 → ParR M3 ns1 e → ns1.length = 4 + 5 * i → 2 * (4 + 5 * i) ≤ e + 1 → e ≤ cs.length → f + (4 + 5 * i) = 61 → aft cs f (4 + 5 * i) e ns1 = prsR cs → 12 - i < g → wp_X6_takesText_L18 40 Q (g + 1) 1 M3 := by
    intro g
    induction g with
    | zero => intro i M3 e ns1 f _ _ _ _ _ _ _ h9; omega
    | succ g ih =>
      intro i M3 e ns1 f hF hP1 hlen hke he hf haft hg
      have hI3 := hI.of hF
      have hla : lastP (4 + 5 * i - 1) = true := by
        unfold lastP
        by_cases z : i = 0
        · subst z; decide
        · rw [if_neg (by omega)]; simp; omega
      have hsp : sepP (4 + 5 * i - 1) = 59 := by unfold sepP; rw [if_pos hla]
      refine ⟨fun w => absurd w (by decide), fun _ => ?_⟩
      rw [hI3.1, hP1.2.1, nI_leI (by omega) (by omega)]
      unfold aft at haft
      refine ⟨fun w => ⟨gB1, ?_⟩, fun w => ?_⟩
      · rw [if_pos w, if_pos hla] at haft
        exact h1 M3 e (by rw [← haft]) (by rw [← haft]; exact hP1) hF
      · rw [if_neg w, hsp] at haft
        refine q_skips (c := 59) hI3 hl hc hP1.2.1 he (by decide) (fun z => e0 ?_) (fun z1 z2 M10 e10 => e1 ?_)
        · rw [if_neg (fun q => z ⟨by omega, q⟩)] at haft
          exact fail g M3 ⟨e, by rw [← haft], hP1.2.1, he⟩ hF
        · rw [if_pos z2] at haft
          have F10 : FrN M M10 := hF.trans ⟨fun b j h => by rw [e10, rd_ne (by omega)], fun b hb j => by rw [e10]; rfl, by rw [e10]; rfl⟩
          refine q_row (n := 5) (k0 := 4 + 5 * i) (sep := 44) (R := prsR cs) hl hc (by decide) (by decide) (by decide) (fun j hj => ?_) (hI.of F10) ⟨by rw [e10, rd_ne (by omega)]; exact hP1.1, by rw [e10, rd_eq], fun k hk => by rw [e10, mL_uI]; exact hP1.2.2 k hk⟩ hlen (by omega) (by omega) hf haft (fun M' e' a1 a2 a3 a4 => e0 (fail g M' ⟨e', a1, a2, a3⟩ (F10.trans a4))) (fun M' e' ns' f' a1 a2 a3 a4 a5 a6 a7 => e1 ?_)
          · have hl2 : lastP (4 + 5 * i + j) = false := by
              unfold lastP
              rw [if_neg (by omega)]; simp; omega
            exact ⟨hl2, by unfold sepP; rw [if_neg (by rw [hl2]; decide), if_neg (by omega)]⟩
          · refine ih (i + 1) M' e' ns' f' (F10.trans a6) a5 (by omega) (by omega) a4 (by omega) ?_ (by omega)
            rw [show 4 + 5 * (i + 1) = 4 + 5 * i + 5 by omega]; exact a7
  refine q_row (n := 4) (k0 := 0) (sep := 47) (R := prsR cs) hl hc (by decide) (by decide) (by decide) (fun j hj => ?_) (hI.of F2) P2 rfl (Nat.zero_le _) (Nat.zero_le _) (f0 := 61) rfl rfl (fun M' e' a1 a2 a3 a4 => ⟨1, fail 0 M' ⟨e', a1, a2, a3⟩ (F2.trans a4)⟩) (fun M' e' ns' f' a1 a2 a3 a4 a5 a6 a7 => ⟨14, lp 13 0 M' e' ns' f' (F2.trans a6) a5 a1 a3 a4 a2 a7 (by decide)⟩)
  rcases (show j = 0 ∨ j = 1 ∨ j = 2 by omega) with rfl | rfl | rfl <;> exact ⟨by decide, by decide⟩
end PRR
