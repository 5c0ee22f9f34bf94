-- PURE: the reference reads a text, whole
section PRX
variable {M : MEM} {G : GST} {B s : Nat} {ns : List Int} {p m : Nat} {p1 : Int32}
def NumR (M : MEM) (ns : List Int) : Prop := mI M 40 23 = nI ns.length ∧ ∀ k (hk : k < ns.length), mL M 52 k = iL ns[k]
theorem NumR.at (h : NumR M ns) {i : Nat} (hi : i < ns.length) : mL M 52 i = iL (nAt ns i) := by
  rw [h.2 i hi]; unfold nAt
  rw [List.getD_eq_getElem?_getD, List.getElem?_eq_getElem hi]; rfl
theorem q64 {v l u : Int} {lo hi : Int64} (hl : lo.toInt = l) (hu : hi.toInt = u) (hv : -10000000000 < v ∧ v < 10000000000) {Q : Int32 → Prop} (h1 : l ≤ v ∧ v ≤ u → Q 1) (h0 : ¬ (l ≤ v ∧ v ≤ u) → Q 0) : wp_X6_isBetween (iL v) lo hi M Q := by
  have e := iL_toInt (v := v) (by omega) (by omega)
  unfold wp_X6_isBetween
  rw [Int64.lt_iff_toInt_lt, Int64.lt_iff_toInt_lt, e, hl, hu]
  exact ⟨fun c => h0 (fun w => by omega), fun c => ⟨fun d => h0 (fun w => by omega), fun d => h1 ⟨by omega, by omega⟩⟩⟩
theorem q_sumL {k z q : Int} (hk : -10000000000 < k ∧ k < 10000000000) (hz : -10000000000 < z ∧ z < 10000000000) (hq : -10000000000 < q ∧ q < 10000000000) {Q : Int32 → Prop} (h1 : (0 ≤ k ∧ k ≤ 3) ∧ (1 ≤ z ∧ z ≤ 12) ∧ (0 ≤ q ∧ q ≤ 40) → Q 1) (h0 : ¬ ((0 ≤ k ∧ k ≤ 3) ∧ (1 ≤ z ∧ z ≤ 12) ∧ (0 ≤ q ∧ q ≤ 40)) → Q 0) : wp_X6_isSummary (iL k) (iL z) (iL q) M Q := by
  unfold wp_X6_isSummary
  refine q64 (l := 0) (u := 3) (by decide) (by decide) hk (fun a => e1 (q64 (l := 1) (u := 12) (by decide) (by decide) hz (fun b => e1 (q64 (l := 0) (u := 40) (by decide) (by decide) hq (fun c => e1 (h1 ⟨a, b, c⟩)) (fun c => e0 (h0 (fun w => c w.2.2))))) (fun b => e0 (h0 (fun w => b w.2.1))))) (fun a => e0 (h0 (fun w => a w.1)))
theorem iL_fits {v : Int} (hv : -10000000000 < v ∧ v < 10000000000) : iL v = ((iL v).toInt32).toInt64 ↔ -2147483648 ≤ v ∧ v ≤ 2147483647 := by
  rw [iL32i]
  constructor
  · intro e
    have h1 := congrArg Int64.toInt e
    rw [iL_toInt (by omega) (by omega), Int32.toInt_toInt64] at h1
    have h2 := (Int32.ofInt v).toInt_lt
    have h3 := (Int32.ofInt v).le_toInt
    omega
  · rintro ⟨h1, h2⟩
    refine (iL_of ?_).symm
    rw [Int32.toInt_toInt64, ofInt_toInt (by omega) (by omega)]
theorem q_range (hP : NumR M ns) (hN : okN ns m) {Q : Int32 → Prop} (h1 : okT ns m → Q 1) (h0 : ¬ okT ns m → Q 0) : wp_X6_areInRange 40 M Q := by
  obtain ⟨hl, hm, hb⟩ := hN
  refine ⟨rfl, rfl, ?_⟩
  rw [show RF 40 19 = 52 from rfl, hP.at (i := 0) (by omega), hP.at (i := 1) (by omega), hP.at (i := 2) (by omega), hP.at (i := 3) (by omega)]
  refine q_sumL (hb 0) (hb 1) (hb 3) (fun w => e1 ?_) (fun w => e0 (h0 (fun z => w ⟨z.1.1, z.1.2.1, z.1.2.2.1⟩)))
  rw [iL_fits (hb 2)]
  refine ⟨fun w2 => ⟨m + 1, ?_⟩, fun w2 => h0 (fun z => w2 z.1.2.2.2)⟩
  have hst : okSt ns := ⟨w.1, w.2.1, w.2.2, w2⟩
  have lp : ∀ f i, i ≤ m → m - i < f → (∀ j, j < i → okRw ns j) → wp_X6_areInRange_L50 40 M Q f (iL (prvN ns i)) (nI (4 + 5 * i)) := by
    intro f
    induction f with
    | zero => intro i _ h9; omega
    | succ f ih =>
      intro i hi hf hj
      unfold wp_X6_areInRange_L50
      rw [hP.1, hl, nI_leI (by omega) (by omega)]
      refine ⟨fun c => h1 ⟨hst, fun j hj2 => hj j (by omega)⟩, fun c => ⟨nV (by omega) (by decide), ?_⟩⟩
      have him : i < m := by omega
      have hpv : -10000000000 < prvN ns i ∧ prvN ns i < 10000000000 := by
        unfold prvN
        split
        · decide
        · exact hb _
      have hp1 : (iL (prvN ns i) + 1).toInt = prvN ns i + 1 := by
        rw [Int64.toInt_add, iL_toInt (by omega) (by omega)]
        show Int.bmod (prvN ns i + 1) (2 ^ 64) = _
        rw [Int.bmod_eq_of_le (by omega) (by omega)]
      rw [n1, n2, n3, n4, nA, nA, nA, nA, nC (by omega), nC (by omega), nC (by omega), nC (by omega), nC (by omega), show RF 40 19 = 52 from rfl, hP.at (i := 4 + 5 * i) (by omega), hP.at (i := 4 + 5 * i + 1) (by omega), hP.at (i := 4 + 5 * i + 2) (by omega), hP.at (i := 4 + 5 * i + 3) (by omega), hP.at (i := 4 + 5 * i + 4) (by omega)]
      refine q64 hp1 (by decide) (hb _) (fun a => e1 ⟨nV (by omega) (by decide), q64 (l := 0) (u := 99) (by decide) (by decide) (hb _) (fun b => e1 ⟨nV (by omega) (by decide), q64 (l := 0) (u := 3) (by decide) (by decide) (hb _) (fun c => e1 ⟨nV (by omega) (by decide), q64 (l := 1) (u := 99) (by decide) (by decide) (hb _) (fun d => e1 ⟨nV (by omega) (by decide), q64 (l := -999) (u := 999) (by decide) (by decide) (hb _) (fun e => i1 ⟨nV (by omega) (by decide), fun x ex y ey => ?_⟩) (fun e => i0 (h0 (fun z => e (z.2 i him).2.2.2.2)))⟩) (fun d => e0 (h0 (fun z => d (z.2 i him).2.2.2.1)))⟩) (fun c => e0 (h0 (fun z => c (z.2 i him).2.2.1)))⟩) (fun b => e0 (h0 (fun z => b (z.2 i him).2.1)))⟩) (fun a => e0 (h0 (fun z => a ⟨by have := (z.2 i him).1.1; omega, (z.2 i him).1.2⟩)))
      rw [ex, ey, n5, nA]
      have hpn : prvN ns (i + 1) = nAt ns (4 + 5 * i) := by unfold prvN; rw [if_neg (by omega), Nat.add_sub_cancel]
      have := ih (i + 1) (by omega) (by omega) (fun j hj2 => ?_)
      · rw [hpn, show 4 + 5 * (i + 1) = 4 + 5 * i + 5 by omega] at this
        exact this
      · by_cases z : j = i
        · subst z; exact ⟨⟨by omega, a.2⟩, b, c, d, e⟩
        · exact hj j (by omega)
  have e0' : iL (prvN ns 0) = -1 := (show iL (-1) = -1 by decide)
  have := lp (m + 1) 0 (Nat.zero_le _) (by omega) (fun j hj => absurd hj (Nat.not_lt_zero _))
  rw [e0'] at this
  exact this
theorem q_read_1 (hR : SIMR M G) {Q : Int32 → MEM → Prop} (h1 : ¬ rng p1 0 3) (hQ : ∀ M', ENDR M G 1 M' → Q 0 M') : wp_X6_read 40 p1 M Q := ⟨rfl, q_slotF h1 (i0 (q_fails (k := 1) hR hQ))⟩
/-- what stands behind the parser -/
theorem read_end {M4 M5 M6 : MEM} (hR : SIMR M G) (hF : FrN M M4) (em5 : M5 = uI M4 40 21 0) (em6 : M6 = uI M5 40 0 0) : SIMR M5 (inpG G []) ∧ FrR M M5 ∧ ENDR M (inpG G []) 0 M6 ∧ FrR M M6 := by
  have F5 : FrR M M5 := hF.R.trans (by rw [em5]; exact FrR.uI (by decide) (by decide))
  have S5 : SIMR M5 (inpG G []) := hR.inpp ⟨by rw [em5, rd_eq]; rfl, fun k hk => absurd hk (Nat.not_lt_zero _)⟩ (fun b j hk h1 h2 => by rw [em5, rd_ne (by omega)]; exact hF.1 b j (by unfold keepR at hk; omega))
  have E6 := (z_end (k := 0) S5 em6).pre F5
  exact ⟨S5, F5, E6, E6.1⟩
theorem q_read_E (hR : SIMR M G) (hW : WFG B G) {Q : Int32 → MEM → Prop} (hs : s < 4) (h : (prsR (gInp G)).1 = some p) (hQ : ∀ M', ENDR M (inpG G []) 0 M' → Q (-100 - nI p) M') : wp_X6_read 40 (nI s) M Q := by
  refine ⟨rfl, q_slotT hs (i1 (q_parse hW.2.2.2.2.2.1.1 hW.2.2.2.2.2.1.2 hR.2.2.2.2.1 (fun M4 e ha hb hc hF M5 em5 M6 em6 => ?_) (fun M4 e ha _ _ => by rw [h] at ha; exact absurd ha (by simp))))⟩
  obtain ⟨-, -, E6, -⟩ := read_end hR hF em5 em6
  have ep : e = p := by rw [h] at ha; exact (Option.some.inj ha).symm
  subst ep
  refine i0 ?_
  have h22 : mI M6 40 22 = nI e := by rw [em6, rd_ne (by omega), em5, rd_ne (by omega)]; exact hb
  rw [h22]; exact hQ M6 E6
theorem q_read_N (hR : SIMR M G) (hW : WFG B G) {Q : Int32 → MEM → Prop} (hs : s < 4) (h : (prsR (gInp G)).1 = none) (hQ : ∀ M6, NumR M6 (prsR (gInp G)).2 → ∀ M5, SIMR M5 (inpG G []) → FrR M M5 → M6 = uI M5 40 0 0 → wp_X6_areInRange 40 M6 (fun r_7 => (¬ r_7 = 0 → (∀ x3_9 : Int32, x3_9 = ((mI M6 40 23) - 4) / 5 → (KD (RF 40 19) = (2, 128) ∧ ((¬ (mL M6 (RF 40 19) 3) = 0 → (wp_X6_read_J87 40 (nI s) Q M6 x3_9 (mL M6 (RF 40 19) 3))) ∧ ((mL M6 (RF 40 19) 3) = 0 → (wp_X6_read_J87 40 (nI s) Q M6 x3_9 60)))))) ∧ (r_7 = 0 → (wp_X6_fails 40 2 M6 (fun r_37 M_38 => Q r_37 M_38))))) : wp_X6_read 40 (nI s) M Q := by
  refine ⟨rfl, q_slotT hs (i1 (q_parse hW.2.2.2.2.2.1.1 hW.2.2.2.2.2.1.2 hR.2.2.2.2.1 (fun M4 e ha _ _ _ => by rw [h] at ha; exact absurd ha (by simp)) (fun M4 e _ hP hF M5 em5 M6 em6 => i1 ?_)))⟩
  obtain ⟨S5, F5, -, -⟩ := read_end hR hF em5 em6
  exact hQ M6 ⟨by rw [em6, rd_ne (by omega), em5, rd_ne (by omega)]; exact hP.1, fun k hk => by rw [em6, mL_uI, em5, mL_uI]; exact hP.2.2 k hk⟩ M5 S5 F5 em6
theorem q_read_2 (hR : SIMR M G) (hW : WFG B G) {Q : Int32 → MEM → Prop} (hs : s < 4) (h : (prsR (gInp G)).1 = none) (hN : okN (prsR (gInp G)).2 m) (hT : ¬ okT (prsR (gInp G)).2 m) (hQ : ∀ M', ENDR M (inpG G []) 2 M' → Q 0 M') : wp_X6_read 40 (nI s) M Q :=
  q_read_N hR hW hs h (fun M6 hP M5 S5 F5 em6 => q_range hP hN (fun w => absurd w hT) (fun _ => i0 (q_fails (k := 2) (z_end (k := 0) S5 em6).2.1 (fun M' h => hQ M' ((h.pre (z_end (k := 0) S5 em6).1).pre F5)))))
theorem cnt_m (hP : NumR M ns) (hN : okN ns m) : (mI M 40 23 - 4) / 5 = nI m := by
  obtain ⟨hl, hm, -⟩ := hN
  rw [hP.1, hl, n4, nS (by omega), show 4 + 5 * m - 4 = 5 * m by omega]
  have : nI (5 * m) / 5 = nI (5 * m / 5) := nD (d := 5) (by omega) (by decide) (by decide)
  rw [this]; congr 1; omega
theorem fits_J (hN : okN ns m) (hT : okT ns m) : (nAt ns 3 = 0 → (fitsS ns m ↔ True)) ∧ (nAt ns 3 ≠ 0 → (fitsS ns m ↔ (m : Int) ≤ nAt ns 3)) := by
  have := hN.2.1
  unfold fitsS
  refine ⟨fun h => ?_, fun h => ?_⟩
  · rw [if_pos h]; exact ⟨fun _ => trivial, fun _ => by omega⟩
  · rw [if_neg h]
theorem q_J87 {M6 : MEM} {Q : Int32 → MEM → Prop} (hP : NumR M6 ns) (hN : okN ns m) (hT : okT ns m)
    (hy : fitsS ns m → wp_X6_remembers 40 M6 (fun M_13 => wp_X6_begins 40 (nI s) ((mL M_13 52 0 : Int64).toInt32) ((mL M_13 52 1 : Int64).toInt32) ((mL M_13 52 2 : Int64).toInt32) ((mL M_13 52 3 : Int64).toInt32) M_13 (fun M_15 => ∃ m137 : Nat, wp_X6_read_L137 40 (nI s) Q (nI m) m137 0 M_15))) (hn : ¬ fitsS ns m → wp_X6_fails 40 3 M6 (fun r_35 M_36 => Q r_35 M_36)) : KD (RF 40 19) = (2, 128) ∧ ((¬ (mL M6 (RF 40 19) 3) = 0 → (wp_X6_read_J87 40 (nI s) Q M6 (nI m) (mL M6 (RF 40 19) 3))) ∧ ((mL M6 (RF 40 19) 3) = 0 → (wp_X6_read_J87 40 (nI s) Q M6 (nI m) 60))) := by
  obtain ⟨hl, hm, hb⟩ := hN
  have s3 := hT.1.2.2.1
  refine ⟨rfl, ?_⟩
  rw [show RF 40 19 = 52 from rfl, hP.at (i := 3) (by omega)]
  have ez : iL (nAt ns 3) = 0 ↔ nAt ns 3 = 0 := by
    constructor
    · intro e
      have := congrArg Int64.toInt e
      rw [iL_toInt (by omega) (by omega)] at this
      exact this
    · intro e; rw [e]; decide
  rw [ez]
  refine ⟨fun c => ?_, fun c => ?_⟩
  · have hf := (fits_J ⟨hl, hm, hb⟩ hT).2 c
    have hle : (nI m).toInt64 ≤ iL (nAt ns 3) ↔ (m : Int) ≤ nAt ns 3 := by
      rw [Int64.le_iff_toInt_le, iL_toInt (by omega) (by omega), Int32.toInt_toInt64, nI_toInt (by omega)]
    unfold wp_X6_read_J87
    rw [hle, ← hf]
    exact ⟨hy, hn⟩
  · have hf := (fits_J ⟨hl, hm, hb⟩ hT).1 c
    have hle : (nI m).toInt64 ≤ 60 := by
      rw [Int64.le_iff_toInt_le, Int32.toInt_toInt64, nI_toInt (by omega)]
      show (m : Int) ≤ 60
      omega
    exact ⟨fun _ => hy (hf.mpr trivial), fun w => absurd hle w⟩
theorem q_read_3 (hR : SIMR M G) (hW : WFG B G) {Q : Int32 → MEM → Prop} (hs : s < 4) (h : (prsR (gInp G)).1 = none) (hN : okN (prsR (gInp G)).2 m) (hT : okT (prsR (gInp G)).2 m) (hf : ¬ fitsS (prsR (gInp G)).2 m) (hQ : ∀ M', ENDR M (inpG G []) 3 M' → Q 0 M') : wp_X6_read 40 (nI s) M Q :=
  q_read_N hR hW hs h (fun M6 hP M5 S5 F5 em6 => q_range hP hN (fun _ => i1 (fun x ex => by
    rw [ex, cnt_m hP hN]
    exact q_J87 hP hN hT (fun w => absurd w hf) (fun _ => q_fails (k := 3) (z_end (k := 0) S5 em6).2.1 (fun M' h => hQ M' ((h.pre (z_end (k := 0) S5 em6).1).pre F5))))) (fun w => absurd hT w))
theorem nxR_s {nx : Nat} (hT : okT ns m) {i : Nat} (hi : i < m) : nxR ns (i + 1) nx = if (nAt ns (4 + 5 * i)).toNat < nxR ns i nx then nxR ns i nx else (nAt ns (4 + 5 * i)).toNat + 1 := by
  have h0 := okT_nn hT hi
  unfold nxR
  rw [if_neg (by omega), Nat.add_sub_cancel]
  by_cases z : i = 0
  · subst z
    rw [if_pos rfl]
    split <;> omega
  · rw [if_neg z]
    have h1 := okT_asc hT (i - 1) i (by omega) hi
    have h2 := okT_nn hT (i := i - 1) (by omega)
    split <;> omega
theorem q_read_0 (hR : SIMR M G) (hW : WFG B G) (hB : B ≤ 1090000) (hB2 : 1000000 ≤ B) {Q : Int32 → MEM → Prop} (hs : s < 4) (h : (prsR (gInp G)).1 = none) (hN : okN (prsR (gInp G)).2 m) (hT : okT (prsR (gInp G)).2 m) (hf : fitsS (prsR (gInp G)).2 m) (hQ : ∀ M', ENDR M (chgG (inpG G []) s (readA (prsR (gInp G)).2 m) (nxR (prsR (gInp G)).2 m (gCur G).2)) 0 M' → Q (nI m) M') : wp_X6_read 40 (nI s) M Q := by
  have hW' : WFG B (inpG G []) := ⟨hW.1, hW.2.1, hW.2.2.1, hW.2.2.2.1, hW.2.2.2.2.1, ⟨Nat.zero_le _, fun c hc => absurd hc List.not_mem_nil⟩, hW.2.2.2.2.2.2⟩
  refine q_read_N hR hW hs h (fun M6 hP M5 S5 F5 em6 => q_range hP hN (fun _ => i1 (fun x ex => ?_)) (fun w => absurd hT w))
  rw [ex, cnt_m hP hN]
  refine q_J87 hP hN hT (fun _ => q_remember (z_end (k := 0) S5 em6).2.1 hW' s (fun M13 S13 F13 => ?_)) (fun w => absurd hf w)
  obtain ⟨hl, hm, hb⟩ := hN
  generalize (prsR (gInp G)).2 = ns at *
  have eL : ∀ M', M'.2 = M6.2 → ∀ i, i < ns.length → mL M' 52 i = iL (nAt ns i) := fun M' e i hi => by
    show M'.2.1 52 i = _; rw [e]; exact hP.at hi
  obtain ⟨t0, t1, t3, t2⟩ := hT.1
  rw [eL M13 F13.2 0 (by omega), eL M13 F13.2 1 (by omega), eL M13 F13.2 2 (by omega), eL M13 F13.2 3 (by omega), iL32 t0.1 (by omega), iL32 (by omega) (by omega), iL32i, iL32 t3.1 (by omega)]
  refine q_begins hs (fun M15 F15 N15 R15 => ⟨m + 1, ?_⟩)
  obtain ⟨b1, b2⟩ := nxR_le hT hW.1.1 hB2
  have nxb : ∀ i, i ≤ m → nxR ns i (gCur G).2 ≤ B := fun i hi => by
    have hTi : okT ns i := ⟨hT.1, fun j hj => hT.2 j (by omega)⟩
    exact (nxR_le hTi hW.1.1 hB2).2
  have g0 : mI M15 41 (310 * s + 0) = 1 := R15.1
  obtain ⟨a1, a2, a3, a4, a5, a6, a7⟩ := R15.2 rfl
  have lp : ∀ f i M1, i ≤ m → m - i < f → FrL s M13 M1 → (∀ k, k < 9 → mI M1 41 (310 * s + k) = mI M15 41 (310 * s + k)) → (∀ j, j < i → ∀ q, q < 5 → mI M1 41 (310 * s + (10 + 5 * j + q)) = pt (itmR ns j) q) → mI M1 41 1240 = nI (nxR ns i (gCur G).2) → wp_X6_read_L137 40 (nI s) Q (nI m) f (nI i) M1 := by
    intro f
    induction f with
    | zero => intro i M1 _ h9; omega
    | succ f ih =>
      intro i M1 hi hf' hF hk hA hN1
      have e1L := eL M1 (hF.2.trans F13.2)
      unfold wp_X6_read_L137
      rw [nI_leI (by omega) (by omega)]
      refine ⟨fun c => q_sets (k := 9) hs (by decide) ?_, fun c x5 e5 => ?_⟩
      · have ei : i = m := by omega
        subst ei
        have hrep : RepR (fun k => mI (uI M1 41 (310 * s + 9) (nI i)) 41 (310 * s + k)) (readA ns i) := by
          refine RepR.of41 ?_ (fun _ => ⟨?_, ?_, ?_, ?_, fun u hu => ?_, ?_, fun j hj q hq => ?_⟩)
          · rw [rd_ne (by omega), hk 0 (by decide)]; exact g0
          · rw [rd_ne (by omega), hk 1 (by decide)]; exact a1
          · rw [rd_ne (by omega), hk 2 (by decide)]; exact a2
          · rw [rd_ne (by omega), hk 3 (by decide)]; exact a3
          · rw [rd_ne (by omega), hk 4 (by decide)]; exact a4
          · rw [rd_ne (by omega), hk (5 + u) (by omega)]; exact a5 u hu
          · rw [rd_eq, sN_read]
          · rw [sN_read] at hj
            rw [rd_ne (by omega), it_read hj]; exact hA j hj q hq
        exact hQ _ ((end_chg hW' hs em6 S13 F13 (hF.trans (FrL.uI (Or.inl ⟨by omega, by omega⟩))) hrep (by rw [rd_ne (by omega)]; exact hN1)).pre F5)
      · have him : i < m := by omega
        have e5' : x5 = nI (4 + 5 * i) := by rw [e5, n4, n5, nM, nA]
        subst e5'
        rw [n1, n2, n3, n4, nA, nA, nA, nA, nC (by omega), nC (by omega), nC (by omega), nC (by omega), nC (by omega), show RF 40 19 = 52 from rfl, e1L _ (by omega), e1L _ (by omega), e1L _ (by omega), e1L _ (by omega), e1L _ (by omega)]
        obtain ⟨ra, rb, rc, rd, re⟩ := hT.2 i him
        have hn0 := okT_nn hT him
        rw [iL32 hn0 (by omega), iL32 rb.1 (by omega), iL32 rc.1 (by omega), iL32 (by omega) (by omega), iL32i]
        refine ⟨nV (by omega) (by decide), nV (by omega) (by decide), nV (by omega) (by decide), nV (by omega) (by decide), nV (by omega) (by decide), q_setItem hs (by omega) (fun M27 o27 w0 w1 w2 w3 w4 wE => ⟨nV (by omega) (by decide), rfl, ?_⟩)⟩
        have n27 : mI M27 41 1240 = nI (nxR ns i (gCur G).2) := by rw [o27 41 1240 (by omega)]; exact hN1
        have L27 := eL M27 (wE.trans (hF.2.trans F13.2))
        have hnxi := nxb i hi
        have hnx1 := nxR_s (nx := (gCur G).2) hT him
        have next : ∀ (v : Nat) M30, v = nxR ns (i + 1) (gCur G).2 → M30 = uI M27 41 1240 (nI v) → wp_X6_read_L137 40 (nI s) Q (nI m) f (nI (i + 1)) M30 := fun v M30 ev e30 => by
          refine ih (i + 1) M30 (by omega) (by omega) (hF.trans ⟨fun b j h => by rw [e30, rd_ne (by omega)]; exact o27 b j (by omega), by rw [e30]; exact wE⟩) (fun k hk2 => by rw [e30, rd_ne (by omega), o27 41 _ (by omega)]; exact hk k hk2) (fun j hj q hq => ?_) (by rw [e30, rd_eq, ev])
          by_cases z : j = i
          · subst z
            rw [e30, rd_ne (by omega)]
            rcases (show q = 0 ∨ q = 1 ∨ q = 2 ∨ q = 3 ∨ q = 4 by omega) with rfl | rfl | rfl | rfl | rfl
            · exact w0
            · exact w1
            · exact w2
            · exact w3
            · exact w4
          · rw [e30, rd_ne (by omega), o27 41 _ (by omega)]; exact hA j (by omega) q hq
        have hlt : (iL (nAt ns (4 + 5 * i)) < (nI (nxR ns i (gCur G).2)).toInt64) ↔ (nAt ns (4 + 5 * i)).toNat < nxR ns i (gCur G).2 := by
          rw [Int64.lt_iff_toInt_lt, iL_toInt (by omega) (by omega), Int32.toInt_toInt64, nI_toInt (by omega)]
          omega
        rw [show RF 40 1 = 41 from rfl, n27, L27 _ (by omega), hlt]
        refine ⟨fun c2 M30 e30 x e => ?_, fun c2 => ⟨nV (by omega) (by decide), fun M33 e33 x e => ?_⟩⟩
        · rw [e, nA]
          exact next _ M30 (by rw [hnx1, if_pos c2]) e30
        · rw [iL32 hn0 (by omega), nA] at e33
          rw [e, nA]
          exact next _ M33 (by rw [hnx1, if_neg c2]) e33
  exact lp (m + 1) 0 M15 (Nat.zero_le _) (by omega) F15 (fun _ _ => rfl) (fun j hj => absurd hj (Nat.not_lt_zero _)) (by rw [N15]; exact S13.1.2)
end PRX
