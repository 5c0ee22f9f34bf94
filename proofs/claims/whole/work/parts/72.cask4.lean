-- PURE: what the class is asked: quantile, resampled, common, distance
def gv (l : List Int32) (k : Nat) : Int32 := l.getD k 0
theorem gv_eq {l : List Int32} {k : Nat} (h : k < l.length) : gv l k = l[k] := by
  unfold gv; rw [List.getD_eq_getElem?_getD, List.getElem?_eq_getElem h]; rfl
def cutV (v : Int32) (l : List Int32) : Nat → Nat
  | 0 => 0
  | n + 1 => if v < gv l n then cutV v l n else n + 1
theorem cutV_le (v : Int32) (l : List Int32) : ∀ n, cutV v l n ≤ n
  | 0 => Nat.le_refl _
  | n + 1 => by
    show (if v < gv l n then cutV v l n else n + 1) ≤ n + 1
    split
    · exact Nat.le_succ_of_le (cutV_le v l n)
    · exact Nat.le_refl _
def insV (l : List Int32) (v : Int32) : List Int32 := l.take (cutV v l l.length) ++ v :: l.drop (cutV v l l.length)
theorem insV_len (l : List Int32) (v : Int32) : (insV l v).length = l.length + 1 := by
  unfold insV
  have := cutV_le v l l.length
  simp; omega
theorem gv_ins {l : List Int32} {t : Nat} {v : Int32} (ht : t ≤ l.length) (k : Nat) : gv (l.take t ++ v :: l.drop t) k = if k < t then gv l k else if k = t then v else gv l (k - 1) := by
  unfold gv
  simp only [List.getD_eq_getElem?_getD]
  have hl : (l.take t).length = t := by rw [List.length_take]; omega
  by_cases c : k < t
  · rw [if_pos c, List.getElem?_append_left (by omega), List.getElem?_take, if_pos c]
  · rw [if_neg c, List.getElem?_append_right (by omega), hl]
    by_cases e : k = t
    · rw [if_pos e, e, Nat.sub_self]; rfl
    · rw [if_neg e, show k - t = (k - t - 1) + 1 by omega, List.getElem?_cons_succ, List.getElem?_drop, show t + (k - t - 1) = k - 1 by omega]
def ArrV (M : MEM) (x : Nat) (l : List Int32) : Prop := ∀ k, k < l.length → mI M x k = gv l k
/-- the values of the sample in ascending order -/
def srtV (a : SLT) : Nat → List Int32
  | 0 => []
  | m + 1 => insV (srtV a m) (pt (it a (gd (CH a) m)) 4)
theorem srtV_len (a : SLT) : ∀ m, (srtV a m).length = m
  | 0 => rfl
  | m + 1 => by show (insV _ _).length = _; rw [insV_len, srtV_len a m]
def quantA (a : SLT) (q : Nat) : Int32 := gv (srtV a (CH a).length) (if (CH a).length * q / 1000 < (CH a).length then (CH a).length * q / 1000 else (CH a).length - 1)
/-- the sum of drawn values -/
def rsA (a : SLT) : Nat → Int32 → Int32 → Int32
  | 0, _, s => s
  | k + 1, z, s => rsA a k (stp z) (s + pt (it a (gd (CH a) ((stp z).toBitVec.toNat / 256 % (CH a).length))) 4)
abbrev nmA (a : SLT) (i : Nat) : Nat := (it a i).1
def comA (a b : SLT) : Nat := ((CH a).filter (fun x => (CH b).any (fun y => nmA b y == nmA a x))).length
/-- how many values of the sample are at most x, and their share -/
def cntX (a : SLT) (x : Int32) : Nat := ((CH a).filter (fun i => !decide (x < pt (it a i) 4))).length
def shrA (a : SLT) (x : Int32) : UInt32 := FP.fdiv (FP.i2f (nI (cntX a x))) (FP.i2f (nI (CH a).length))
def widA (a b : SLT) (x : Int32) : UInt32 := wid (shrA a x) (shrA b x)
def wlA (a b c : SLT) : List UInt32 := (CH c).map (fun i => widA a b (pt (it c i) 4))
def dstA (a b : SLT) : UInt32 := (wlA a b a ++ wlA a b b).foldl mxw 0
theorem mxw_p {g w : UInt32} (h : Op.cmpValue (FP.fcmp w g) .l ≤ 0) : mxw g w = g := if_pos h
theorem mxw_n {g w : UInt32} (h : ¬ Op.cmpValue (FP.fcmp w g) .l ≤ 0) : mxw g w = w := if_neg h
section PQ5
variable {M : MEM} {o d h h2 nx B : Nat} {a b : SLT} {G : GST}
theorem val_ok (hc : CS nx M h a) (i : Nat) : (pt (it a i) 4).toInt.natAbs ≤ 999 := by
  by_cases c : i < sN a
  · obtain ⟨-, -, -, -, -, h6, h7⟩ := hc.ok c
    show ((it a i).2.2.2.2).toInt.natAbs ≤ 999
    omega
  · rw [pt_no (by omega)]; decide
theorem f_sorted (s : smp o d) (hc : CS nx M h a) (hP : SMP M o d h a) {i : Nat} (hi : i < (CH a).length) {Q : Int32 → MEM → Prop} (hQ : ∀ M', (∀ b, b ≠ d + 8 → ∀ j, mI M' b j = mI M b j) → M'.2 = M.2 → Q (gv (srtV a (CH a).length) i) M') : wp_X3_sortedValue o (nI i) M Q := by
  have h60 := CH_60 hc
  obtain ⟨o1, o2, o3, o4⟩ := smp_lt s
  have hne : o ≠ d + 8 := by rcases s with ⟨rfl, rfl⟩ | ⟨rfl, rfl⟩ <;> decide
  refine ⟨smp_o s, fun v ev => ⟨(CH a).length + 1, ?_⟩⟩
  have ev' : v = nI (CH a).length := by
    rw [ev, hP.2.2.2.1]
    exact if_neg (nI_nlt (a := 60) h60 (by decide))
  subst ev'
  have lp : ∀ f m M1, m ≤ (CH a).length → (CH a).length - m < f → ArrV M1 (d + 8) (srtV a m) → (∀ b, b ≠ d + 8 → ∀ j, mI M1 b j = mI M b j) → M1.2 = M.2 → wp_X3_sortedValue_L12 o (nI i) Q (nI (CH a).length) f (nI m) M1 := by
    intro f
    induction f with
    | zero => intro m M1 _ h9; omega
    | succ f ih =>
      intro m M1 hm hf hA hF hS
      unfold wp_X3_sortedValue_L12
      rw [nI_leI (by omega) (by omega)]
      have hP1 : SMP M1 o d h a := by
        obtain ⟨p1, p2, p3, p4, p5, p6, p7, p8⟩ := hP
        refine ⟨by show M1.2.2.1 o = h; rw [hS]; exact p1, by rw [hF o hne]; exact p2, fun k hk => by rw [hF _ (by omega)]; exact p3 k hk, by rw [hF o hne]; exact p4, fun k hk => by rw [hF _ (by omega)]; exact p5 k hk, fun k hk => by rw [hF _ (by omega)]; exact p6 k hk, fun k hk => by rw [hF _ (by omega)]; exact p7 k hk, fun k hk => by show M1.2.1 _ _ = _; rw [hS]; exact p8 k hk⟩
      have hc1 : CS nx M1 h a := hc.of (fun b hb j => hF b (by have := hc.h1; unfold inH at hb; omega) j)
      refine ⟨fun q => ?_, fun q => f_part s hc1 hP1 (p := 4) (by omega) (by decide) ⟨m + 1, ?_⟩⟩
      · have em : m = (CH a).length := by omega
        subst em
        refine ⟨fun w => absurd w (nI_pos (by omega)), fun _ => ⟨fun _ => ?_, fun w => absurd (nI_lt hi (by omega)) w⟩⟩
        rw [smp_r s (by decide) (by decide)]
        refine ⟨smp_k s (by decide) (by decide), nV (by omega) (by decide), ?_⟩
        rw [nC (by omega), hA i (by rw [srtV_len]; exact hi)]
        exact hQ M1 hF hS
      · generalize hv : pt (it a (gd (CH a) m)) 4 = v
        have hl := srtV_len a m
        have hnext : insV (srtV a m) v = srtV a (m + 1) := by rw [← hv]; rfl
        generalize srtV a m = l at *
        have lp2 : ∀ g t M2, t ≤ m → t < g → (∀ k, k < t → mI M2 (d + 8) k = gv l k) → (∀ k, t ≤ k → k < m → mI M2 (d + 8) (k + 1) = gv l k) → (∀ b, b ≠ d + 8 → ∀ j, mI M2 b j = mI M b j) → M2.2 = M.2 → cutV v l t = cutV v l l.length → wp_X3_sortedValue_L28 o (wp_X3_sortedValue_L12 o (nI i) Q (nI (CH a).length) f) (nI m) v g (nI t) M2 := by
          intro g
          induction g with
          | zero => intro t M2 _ h9; omega
          | succ g ih2 =>
            intro t M2 ht hg h1 h2 h3 h4 hct
            have fin : cutV v l t = t → ∀ M12, M12 = uI M2 (d + 8) t v → wp_X3_sortedValue_L12 o (nI i) Q (nI (CH a).length) f (nI (m + 1)) M12 := fun hcut M12 e12 => by
              refine ih (m + 1) M12 (by omega) (by omega) (fun k hk => ?_) (fun b hb j => by rw [e12, rd_ne (by omega)]; exact h3 b hb j) (by rw [e12]; exact h4)
              rw [← hnext] at hk ⊢
              rw [insV_len] at hk
              unfold insV
              rw [← hct, hcut, gv_ins (by omega), e12]
              by_cases c : k < t
              · rw [if_pos c, rd_ne (by omega)]; exact h1 k c
              · rw [if_neg c]
                by_cases e : k = t
                · rw [if_pos e, e, rd_eq]
                · rw [if_neg e, rd_ne (by omega)]
                  have := h2 (k - 1) (by omega) (by omega)
                  rw [show k - 1 + 1 = k by omega] at this
                  exact this
            unfold wp_X3_sortedValue_L28
            rw [smp_r s (by decide) (by decide)]
            cases t with
            | zero =>
              refine ⟨fun _ => ⟨smp_k s (by decide) (by decide), nV (by omega) (by decide), fun M12 e12 x e => ?_⟩, fun w => absurd (by decide) w⟩
              rw [nC (by omega)] at e12
              rw [e, n1, nA]; exact fin rfl M12 e12
            | succ t =>
              refine ⟨fun w => absurd w (nI_nle (Nat.succ_pos _) (by omega)), fun _ => ?_⟩
              rw [n1, nm1]
              refine ⟨smp_k s (by decide) (by decide), nV (by omega) (by decide), ?_⟩
              rw [nC (by omega), h1 t (by omega)]
              have hcs : cutV v l (t + 1) = if v < gv l t then cutV v l t else t + 1 := rfl
              refine ⟨fun w => ⟨nV (by omega) (by decide), fun M12 e12 x e => ?_⟩, fun w => ⟨nV (by omega) (by decide), nV (by omega) (by decide), fun M21 e21 x e => ?_⟩⟩
              · have hb : ¬ v < gv l t := fun z => nle32.mpr z w
                rw [nC (by omega)] at e12
                rw [e, nA]; exact fin (by rw [hcs, if_neg hb]) M12 e12
              · have hb : v < gv l t := nle32.mp w
                rw [nC (by omega)] at e21
                rw [e, show nI (t + 1) + -nI 1 = nI t from pk_m1 t]
                rw [hcs, if_pos hb] at hct
                refine ih2 t M21 (by omega) (by omega) (fun k hk => by rw [e21, rd_ne (by omega)]; exact h1 k (by omega)) (fun k hk1 hk2 => ?_) (fun b hb j => by rw [e21, rd_ne (by omega)]; exact h3 b hb j) (by rw [e21]; exact h4) hct
                by_cases e : k = t
                · subst e; rw [e21, rd_eq]
                · rw [e21, rd_ne (by omega)]; exact h2 k (by omega) hk2
        exact lp2 _ m M1 (Nat.le_refl _) (Nat.lt_succ_self _) (fun k hk => hA k (by omega)) (fun k h1 h2 => by omega) hF hS (by rw [hl])
  exact lp _ 0 M (Nat.zero_le _) (Nat.lt_succ_self _) (fun k hk => absurd hk (Nat.not_lt_zero _)) (fun _ _ _ => rfl) rfl
theorem c_quantile (hS : SIMC M G) (hW : WFG B G) (hB : B ≤ 1100000) {p1 p2 : Int32} {Q : Int32 → MEM → Prop} {X : String → MEM → Prop}
    (x1 : ¬ rng p1 0 3 → X "java/lang/IndexOutOfBoundsException" M) (x2 : rng p1 0 3 → ¬ rng p2 0 1000 → X "java/lang/IllegalArgumentException" M)
    (x3 : ∀ s, s < 4 → p1 = nI s → rng p2 0 1000 → sH ((gCur G).1 s) = false → X "java/lang/IllegalStateException" M)
    (x4 : ∀ s, s < 4 → p1 = nI s → rng p2 0 1000 → sH ((gCur G).1 s) = true → (CH ((gCur G).1 s)).length = 0 → ∀ M', SIMC M' G → EqR M M' → X "java/util/NoSuchElementException" M')
    (hQ : ∀ s q, s < 4 → p1 = nI s → p2 = nI q → q ≤ 1000 → sH ((gCur G).1 s) = true → 0 < (CH ((gCur G).1 s)).length → ∀ M', SIMC M' G → EqR M M' → Q (quantA ((gCur G).1 s) q) M') : wp_X5_quantile 1 p1 p2 M Q X := by
  have sm : smp 16 15 := Or.inl ⟨rfl, rfl⟩
  refine ⟨rfl, s_slotAt (fun s hs e => ?_) x1⟩
  subst e
  have hc0 := hS.cs hW hB hs
  refine s_w32 0 1000 (by decide) (by decide) (fun r3 => s_need (fun _ => ?_) (fun e => absurd e (by decide))) (fun r3 => s_need (fun e => absurd rfl e) (fun _ => x2 (rng_slot hs) r3))
  refine c_nsample hS hc0 (x3 s hs rfl r3) (x4 s hs rfl r3) (fun ha hpos M' hP hc S' E' => ?_)
  obtain ⟨q, e3, -, q2, -⟩ := rng_nI r3 (by decide)
  subst e3
  have hfin := hQ s q hs rfl rfl (by omega) ha hpos
  generalize (gCur G).1 s = a at *
  have h60 := CH_60 hc
  have hm : (CH a).length * q ≤ 60 * 1000 := Nat.mul_le_mul h60 (by omega)
  refine ⟨rfl, f_size sm hP (fun x5 e5 => f_size sm hP (fun v ev => ?_))⟩
  have e5' : x5 = nI ((CH a).length * q / 1000) := by
    rw [e5, nM]; exact nD (d := 1000) (by omega) (by decide) (by decide)
  obtain ⟨i, hi, evi, hqi⟩ : ∃ i, i < (CH a).length ∧ v = nI i ∧ quantA a q = gv (srtV a (CH a).length) i := by
    unfold quantA
    rw [ev, e5', n1, nS (by omega)]
    by_cases c : (CH a).length - 1 < (CH a).length * q / 1000
    · exact ⟨(CH a).length - 1, by omega, by rw [if_pos (nI_lt c (by omega))], by rw [if_neg (by omega)]⟩
    · exact ⟨(CH a).length * q / 1000, by omega, by rw [if_neg (nI_nlt (Nat.not_lt.mp c) (by omega))], by rw [if_pos (by omega)]⟩
  rw [evi]
  refine f_sorted sm hc hP hi (fun M2 f2 e2 => ?_)
  rw [← hqi]
  exact hfin M2 (S'.of (fun b hb j => f2 b (by unfold liveC at hb; omega) j)) (E'.trans (fun b p q j => f2 b (by omega) j))
theorem c_resampled (hS : SIMC M G) (hW : WFG B G) (hB : B ≤ 1100000) {p1 p2 p3 : Int32} {Q : UInt64 → MEM → Prop} {X : String → MEM → Prop}
    (x1 : ¬ rng p1 0 3 → X "java/lang/IndexOutOfBoundsException" M) (x2 : rng p1 0 3 → ¬ rng p3 1 1000 → X "java/lang/IllegalArgumentException" M)
    (x3 : ∀ s, s < 4 → p1 = nI s → rng p3 1 1000 → sH ((gCur G).1 s) = false → X "java/lang/IllegalStateException" M)
    (x4 : ∀ s, s < 4 → p1 = nI s → rng p3 1 1000 → sH ((gCur G).1 s) = true → (CH ((gCur G).1 s)).length = 0 → ∀ M', SIMC M' G → EqR M M' → X "java/util/NoSuchElementException" M')
    (hQ : ∀ s n, s < 4 → p1 = nI s → p3 = nI n → 1 ≤ n → n ≤ 1000 → sH ((gCur G).1 s) = true → 0 < (CH ((gCur G).1 s)).length → ∀ M', SIMC M' G → EqR M M' → ∀ f, alike64 f (FP.ddiv (FP.i2d (rsA ((gCur G).1 s) n p2 0)) (FP.i2d (nI n))) = true → Q f M') : wp_X5_resampled 1 p1 p2 p3 M Q X := by
  have sm : smp 16 15 := Or.inl ⟨rfl, rfl⟩
  refine ⟨rfl, s_slotAt (fun s hs e => ?_) x1⟩
  subst e
  have hc0 := hS.cs hW hB hs
  refine s_w32 1 1000 (by decide) (by decide) (fun r3 => s_need (fun _ => ?_) (fun e => absurd e (by decide))) (fun r3 => s_need (fun e => absurd rfl e) (fun _ => x2 (rng_slot hs) r3))
  refine c_nsample hS hc0 (x3 s hs rfl r3) (x4 s hs rfl r3) (fun ha hpos M' hP hc S' E' => ?_)
  obtain ⟨n, e3, n1', n2', -⟩ := rng_nI r3 (by decide)
  subst e3
  have hfin := hQ s n hs rfl rfl (by omega) (by omega) ha hpos M' S' E'
  generalize (gCur G).1 s = a at *
  have h60 := CH_60 hc
  refine ⟨rfl, f_size sm hP (fun v ev => ⟨n + 1, ?_⟩)⟩
  have ev' : v = nI (CH a).length := by
    rw [ev, n1]
    by_cases c : 1 < (CH a).length
    · rw [if_pos (nI_lt c (by omega))]
    · rw [if_neg (nI_nlt (Nat.not_lt.mp c) (by decide)), show (CH a).length = 1 by omega]
  subst ev'
  have lp : ∀ f k z s, k ≤ n → n - k < f → s.toInt.natAbs ≤ 999 * k → rsA a (n - k) z s = rsA a n p2 0 → wp_X5_resampled_L47 (nI n) Q 16 M' (nI (CH a).length) f z (FP.i2d s) (nI k) := by
    intro f
    induction f with
    | zero => intro k z s _ h9; omega
    | succ f ih =>
      intro k z s hk hf hs9 hr
      unfold wp_X5_resampled_L47
      rw [nI_leI (by omega) (by omega)]
      refine ⟨fun q f16 e16 => ?_, fun q => ?_⟩
      · have : n - k = 0 := by omega
        rw [this] at hr
        have hr' : s = rsA a n p2 0 := hr
        rw [hr'] at e16
        exact hfin f16 e16
      · show ¬ nI (CH a).length = 0 ∧ wp_X3_partAt 16 (gush (stp z) 8 - gush (stp z) 8 / nI (CH a).length * nI (CH a).length) 4 M' _
        have hdr := (stp z).toBitVec.isLt
        rw [gush8, pk_rem (by omega) hpos (by omega)]
        have hm : (stp z).toBitVec.toNat / 256 % (CH a).length < (CH a).length := Nat.mod_lt _ hpos
        refine ⟨nI_ne0 hpos (by omega), f_part sm hc hP (p := 4) hm (by decide) (fun f22 e22 x e => ?_)⟩
        have hv := val_ok hc (gd (CH a) ((stp z).toBitVec.toNat / 256 % (CH a).length))
        generalize hpv : pt (it a (gd (CH a) ((stp z).toBitVec.toNat / 256 % (CH a).length))) 4 = v at *
        rw [dadd_i2d (by omega) (by omega)] at e22
        rw [alike64_num e22 i2d_num, e, n1, nA]
        have hsum : (s + v).toInt = s.toInt + v.toInt := by
          rw [Int32.toInt_add, Int.bmod_eq_of_le (by omega) (by omega)]
        refine ih (k + 1) (stp z) (s + v) (by omega) (by omega) (by rw [hsum]; omega) ?_
        rw [← hr, show n - k = (n - (k + 1)) + 1 by omega]
        show _ = rsA a (n - (k + 1)) (stp z) (s + pt (it a (gd (CH a) ((stp z).toBitVec.toNat / 256 % (CH a).length))) 4)
        rw [hpv]
  have e0 : FP.i2d 0 = 0 := by decide +kernel
  have := lp (n + 1) 0 p2 0 (Nat.zero_le _) (by omega) (by decide) rfl
  rw [e0] at this
  exact this
theorem SMP.of {M' : MEM} (hP : SMP M 16 15 h a) (hF : FrS 17 21 M M') : SMP M' 16 15 h a := by
  obtain ⟨f1, f2, f3⟩ := hF
  obtain ⟨p1, p2, p3, p4, p5, p6, p7, p8⟩ := hP
  refine ⟨by rw [f3 16 (by decide)]; exact p1, by rw [f1 16 (by decide) (by decide)]; exact p2, fun k hk => by rw [f1 _ (by decide) (by decide)]; exact p3 k hk, by rw [f1 16 (by decide) (by decide)]; exact p4, fun k hk => by rw [f1 _ (by decide) (by decide)]; exact p5 k hk, fun k hk => by rw [f1 _ (by decide) (by decide)]; exact p6 k hk, fun k hk => by rw [f1 _ (by decide) (by decide)]; exact p7 k hk, fun k hk => by rw [f2 _ (by decide)]; exact p8 k hk⟩
theorem c_both (hS : SIMC M G) (hW : WFG B G) (hB : B ≤ 1100000) {p1 p2 : Int32} {Q : MEM → Prop} {X : String → MEM → Prop}
    (x1 : ¬ (rng p1 0 3 ∧ rng p2 0 3) → X "java/lang/IndexOutOfBoundsException" M)
    (x2 : ∀ s t, s < 4 → p1 = nI s → t < 4 → p2 = nI t → ¬ (sH ((gCur G).1 s) = true ∧ sH ((gCur G).1 t) = true) → X "java/lang/IllegalStateException" M)
    (hQ : ∀ s t, s < 4 → p1 = nI s → t < 4 → p2 = nI t → sH ((gCur G).1 s) = true → sH ((gCur G).1 t) = true → ∀ M', SMP M' 16 15 (100 + s) ((gCur G).1 s) → SMP M' 17 21 (100 + t) ((gCur G).1 t) → CS (gCur G).2 M' (100 + s) ((gCur G).1 s) → CS (gCur G).2 M' (100 + t) ((gCur G).1 t) → SIMC M' G → EqR M M' → Q M') : wp_X5_findBothSamples 1 p1 p2 M Q X := by
  have s1 : smp 16 15 := Or.inl ⟨rfl, rfl⟩
  have s2 : smp 17 21 := Or.inr ⟨rfl, rfl⟩
  refine ⟨rfl, s_slotAt (fun s hs e => s_slotAt (fun t ht e2 => ?_) (fun w => x1 (fun q => w q.2))) (fun w => x1 (fun q => w q.1))⟩
  have hc := hS.cs hW hB hs
  have hc2 := hS.cs hW hB ht
  refine c_filled hc (fun ha => c_filled hc2 (fun hb => ⟨rfl, ?_⟩) (fun w => x2 s t hs e ht e2 (fun z => by rw [w] at z; exact absurd z.2 (by decide)))) (fun w => x2 s t hs e ht e2 (fun z => by rw [w] at z; exact absurd z.1 (by decide)))
  refine f_find s1 hc ha (fun M1 P1 F1 => ⟨rfl, f_find s2 (FrS.cs hc2 s1 F1) hb (fun M2 P2 F2 => ?_)⟩)
  obtain ⟨S1, E1⟩ := F1.sim s1 hS
  obtain ⟨S2, E2⟩ := F2.sim s2 S1
  exact hQ s t hs e ht e2 ha hb M2 (P1.of F2) P2 (FrS.cs (FrS.cs hc s1 F1) s2 F2) (FrS.cs (FrS.cs hc2 s1 F1) s2 F2) S2 (E1.trans E2)
theorem f_hasN (s : smp o d) (hc : CS nx M h a) (hP : SMP M o d h a) {v : Nat} (hv : v < 2147483648) {Q : Int32 → Prop} (hQ : Q (if (CH a).any (fun y => nmA a y == v) = true then 1 else 0)) : wp_X3_hasNumber o (nI v) M Q := by
  have h60 := CH_60 hc
  refine ⟨smp_o s, (CH a).length + 1, ?_⟩
  have lp : ∀ f k, k ≤ (CH a).length → (CH a).length - k < f → (∀ j, j < k → nmA a (gd (CH a) j) ≠ v) → wp_X3_hasNumber_L2 o (nI v) M Q f (nI k) := by
    intro f
    induction f with
    | zero => intro k _ h9; omega
    | succ f ih =>
      intro k hk hf hj
      unfold wp_X3_hasNumber_L2
      rw [hP.2.2.2.1, nI_leI (by omega) (by omega)]
      refine ⟨fun q => ?_, fun q => f_part s hc hP (p := 0) (by omega) (by decide) ?_⟩
      · rw [if_neg (fun w => ?_)] at hQ
        · exact hQ
        · obtain ⟨y, y1, y2⟩ := List.any_eq_true.mp w
          obtain ⟨j, j1, j2⟩ := List.getElem_of_mem y1
          exact hj j (by omega) (by rw [gd_eq j1, j2]; simpa using y2)
      · have hn : nmA a (gd (CH a) k) < 1100000 := hc.num _
        show (¬ nI (nmA a (gd (CH a) k)) = nI v → _) ∧ (nI (nmA a (gd (CH a) k)) = nI v → _)
        rw [nI_eq (by omega) hv]
        refine ⟨fun c x e => ?_, fun c => ?_⟩
        · rw [e, n1, nA]
          refine ih (k + 1) (by omega) (by omega) (fun j h1 => ?_)
          by_cases z : j = k
          · subst z; exact c
          · exact hj j (by omega)
        · rw [if_pos (List.any_eq_true.mpr ⟨gd (CH a) k, by rw [gd_eq (by omega)]; exact List.getElem_mem _, by simpa using c⟩)] at hQ
          exact hQ
  exact lp _ 0 (Nat.zero_le _) (Nat.lt_succ_self _) (fun j hj => absurd hj (Nat.not_lt_zero _))
theorem c_common (hS : SIMC M G) (hW : WFG B G) (hB : B ≤ 1100000) {p1 p2 : Int32} {Q : Int32 → MEM → Prop} {X : String → MEM → Prop}
    (x1 : ¬ (rng p1 0 3 ∧ rng p2 0 3) → X "java/lang/IndexOutOfBoundsException" M)
    (x2 : ∀ s t, s < 4 → p1 = nI s → t < 4 → p2 = nI t → ¬ (sH ((gCur G).1 s) = true ∧ sH ((gCur G).1 t) = true) → X "java/lang/IllegalStateException" M)
    (hQ : ∀ s t, s < 4 → p1 = nI s → t < 4 → p2 = nI t → sH ((gCur G).1 s) = true → sH ((gCur G).1 t) = true → ∀ M', SIMC M' G → EqR M M' → Q (nI (comA ((gCur G).1 s) ((gCur G).1 t))) M') : wp_X5_common 1 p1 p2 M Q X := by
  have s1 : smp 16 15 := Or.inl ⟨rfl, rfl⟩
  have s2 : smp 17 21 := Or.inr ⟨rfl, rfl⟩
  refine ⟨rfl, c_both hS hW hB x1 x2 (fun s t hs e ht e2 ha hb M' P1 P2 c1 c2 S' E' => ?_)⟩
  have hfin := hQ s t hs e ht e2 ha hb M' S' E'
  generalize (gCur G).1 s = a at *
  generalize (gCur G).1 t = b at *
  have h60 := CH_60 c1
  refine ⟨(CH a).length + 1, ?_⟩
  have lp : ∀ f k, k ≤ (CH a).length → (CH a).length - k < f → wp_X5_common_L11 1 Q M' f (nI (cntL (fun x => (CH b).any (fun y => nmA b y == nmA a x)) (CH a) k)) (nI k) := by
    intro f
    induction f with
    | zero => intro k _ h9; omega
    | succ f ih =>
      intro k hk hf
      refine ⟨rfl, f_size s1 P1 ?_⟩
      rw [nI_leI (by omega) (by omega)]
      refine ⟨fun q => ?_, fun q => f_part s1 c1 P1 (p := 0) (by omega) (by decide) ⟨rfl, ?_⟩⟩
      · rw [show k = (CH a).length by omega, cntL_all]; exact hfin
      · have h9 := ih (k + 1) (by omega) (by omega)
        rw [cntL_s (by omega)] at h9
        have hn : nmA a (gd (CH a) k) < 1100000 := c1.num _
        refine f_hasN s2 c2 P2 (v := nmA a (gd (CH a) k)) (by omega) ?_
        by_cases c : (CH b).any (fun y => nmA b y == nmA a (gd (CH a) k)) = true
        · rw [if_pos c] at h9 ⊢
          exact ⟨fun w => absurd w (by decide), fun _ x e x2 e2 => by rw [e, e2, n1, nA, nA]; exact h9⟩
        · rw [if_neg c] at h9 ⊢
          exact ⟨fun _ x e => by rw [e, n1, nA]; exact h9, fun w => absurd rfl w⟩
  have := lp _ 0 (Nat.zero_le _) (Nat.lt_succ_self _)
  rw [cntL_0] at this
  exact this
theorem shr_ok (h1 : 0 < (CH a).length) (h2 : (CH a).length ≤ 60) (x : Int32) : isS (shrA a x) := by
  refine isS_of (shr_tab _ (by omega) _ ?_ ?_ h1)
  · have : cntX a x ≤ (CH a).length := List.length_filter_le ..
    omega
  · exact List.length_filter_le ..
theorem f_share (s : smp o d) (hc : CS nx M h a) (hP : SMP M o d h a) (hpos : 0 < (CH a).length) {x : Int32} {Q : UInt32 → Prop} (hQ : Q (shrA a x)) : wp_X3_shareUpTo o x M Q := by
  have h60 := CH_60 hc
  unfold wp_X3_shareUpTo
  rw [hP.2.2.2.1]
  refine ⟨smp_o s, fun _ => ⟨(CH a).length + 1, ?_⟩, fun w => absurd (nI_lt (a := 0) hpos (by omega)) w⟩
  have lp : ∀ f k, k ≤ (CH a).length → (CH a).length - k < f → wp_X3_shareUpTo_L13 o x M Q f (nI (cntL (fun i => !decide (x < pt (it a i) 4)) (CH a) k)) (nI k) := by
    intro f
    induction f with
    | zero => intro k _ h9; omega
    | succ f ih =>
      intro k hk hf
      unfold wp_X3_shareUpTo_L13
      rw [hP.2.2.2.1, nI_leI (by omega) (by omega)]
      refine ⟨fun q f3 e3 => ?_, fun q => f_part s hc hP (p := 4) (by omega) (by decide) ?_⟩
      · rw [show k = (CH a).length by omega, cntL_all] at e3
        have e3' : alike32 f3 (shrA a x) = true := e3
        rw [alike32_num e3' (isS_num (shr_ok hpos h60 x))]
        exact hQ
      · have h9 := ih (k + 1) (by omega) (by omega)
        rw [cntL_s (by omega)] at h9
        refine ⟨fun c x3 e => ?_, fun c x2 e2 x3 e => ?_⟩
        · rw [if_neg (by simpa using c)] at h9
          rw [e, n1, nA]; exact h9
        · rw [if_pos (by simpa using c)] at h9
          rw [e, e2, n1, nA, nA]; exact h9
  have := lp _ 0 (Nat.zero_le _) (Nat.lt_succ_self _)
  rw [cntL_0] at this
  exact this
theorem foldl_take {α β : Type} (f : β → α → β) (g : Nat → α) (l : List Nat) (x : β) {k : Nat} (h : k < l.length) : ((l.take (k + 1)).map g).foldl f x = f (((l.take k).map g).foldl f x) (g (gd l k)) := by
  rw [take_s h, List.map_append, List.foldl_append]; rfl
theorem c_gap {c : SLT} {oc dc hc' : Nat} (c1 : CS nx M h a) (c2 : CS nx M h2 b) (P1 : SMP M 16 15 h a) (P2 : SMP M 17 21 h2 b) (hp1 : 0 < (CH a).length) (hp2 : 0 < (CH b).length) (sc : smp oc dc) (cc : CS nx M hc' c) (Pc : SMP M oc dc hc' c) {Q : UInt32 → Prop} (hQ : Q ((wlA a b c).foldl mxw 0)) : wp_X5_greatestGap 1 oc M Q := by
  have s1 : smp 16 15 := Or.inl ⟨rfl, rfl⟩
  have s2 : smp 17 21 := Or.inr ⟨rfl, rfl⟩
  have h60 := CH_60 cc
  have ha60 := CH_60 c1
  have hb60 := CH_60 c2
  refine ⟨rfl, (CH c).length + 1, ?_⟩
  have lp : ∀ f k, k ≤ (CH c).length → (CH c).length - k < f → wp_X5_greatestGap_L4 1 oc M Q f ((((CH c).take k).map (fun i => widA a b (pt (it c i) 4))).foldl mxw 0) (nI k) := by
    intro f
    induction f with
    | zero => intro k _ h9; omega
    | succ f ih =>
      intro k hk hf
      refine ⟨smp_o sc, f_size sc Pc ?_⟩
      rw [nI_leI (by omega) (by omega)]
      refine ⟨fun q => ?_, fun q => f_part sc cc Pc (p := 4) (by omega) (by decide) ⟨rfl, f_share s1 c1 P1 hp1 ⟨rfl, f_share s2 c2 P2 hp2 (fun f14 e14 => ?_)⟩⟩⟩
      · rw [show k = (CH c).length by omega, List.take_length]; exact hQ
      · have h9 := ih (k + 1) (by omega) (by omega)
        rw [foldl_take _ _ _ _ (by omega)] at h9
        obtain ⟨w1, w2, -, w4, w5⟩ := wid_ok (shr_ok hp1 ha60 (pt (it c (gd (CH c) k)) 4)) (shr_ok hp2 hb60 (pt (it c (gd (CH c) k)) 4))
        rw [alike32_num e14 w2]
        have j56 : wp_X5_greatestGap_J56 (wp_X5_greatestGap_L4 1 oc M Q f) ((((CH c).take k).map (fun i => widA a b (pt (it c i) 4))).foldl mxw 0) (nI k) (widA a b (pt (it c (gd (CH c) k)) 4)) := by
          refine ⟨fun w x e => ?_, fun w x e => ?_⟩
          · rw [mxw_p w] at h9
            rw [e, n1, nA]; exact h9
          · rw [mxw_n w] at h9
            rw [e, n1, nA]; exact h9
        refine ⟨fun w => ?_, fun w => ?_⟩
        · rw [w4 w]; exact j56
        · rw [w5 w]; exact j56
  exact lp _ 0 (Nat.zero_le _) (Nat.lt_succ_self _)
theorem wlA_ok (c : SLT) (hp1 : 0 < (CH a).length) (hp2 : 0 < (CH b).length) (h1 : (CH a).length ≤ 60) (h2 : (CH b).length ≤ 60) : ∀ w ∈ wlA a b c, isN w := fun w hw => by
  obtain ⟨i, -, e⟩ := List.mem_map.mp hw
  rw [← e]
  exact (wid_ok (shr_ok hp1 h1 _) (shr_ok hp2 h2 _)).1
theorem c_distance (hS : SIMC M G) (hW : WFG B G) (hB : B ≤ 1100000) {p1 p2 : Int32} {Q : UInt32 → MEM → Prop} {X : String → MEM → Prop}
    (x1 : ¬ (rng p1 0 3 ∧ rng p2 0 3) → X "java/lang/IndexOutOfBoundsException" M)
    (x2 : ∀ s t, s < 4 → p1 = nI s → t < 4 → p2 = nI t → ¬ (sH ((gCur G).1 s) = true ∧ sH ((gCur G).1 t) = true) → X "java/lang/IllegalStateException" M)
    (x3 : ∀ s t, s < 4 → p1 = nI s → t < 4 → p2 = nI t → sH ((gCur G).1 s) = true → sH ((gCur G).1 t) = true → ¬ (0 < (CH ((gCur G).1 s)).length ∧ 0 < (CH ((gCur G).1 t)).length) → ∀ M', SIMC M' G → EqR M M' → X "java/util/NoSuchElementException" M')
    (hQ : ∀ s t, s < 4 → p1 = nI s → t < 4 → p2 = nI t → sH ((gCur G).1 s) = true → sH ((gCur G).1 t) = true → 0 < (CH ((gCur G).1 s)).length → 0 < (CH ((gCur G).1 t)).length → ∀ M', SIMC M' G → EqR M M' → Q (dstA ((gCur G).1 s) ((gCur G).1 t)) M') : wp_X5_distance 1 p1 p2 M Q X := by
  have s1 : smp 16 15 := Or.inl ⟨rfl, rfl⟩
  have s2 : smp 17 21 := Or.inr ⟨rfl, rfl⟩
  refine ⟨rfl, c_both hS hW hB x1 x2 (fun s t hs e ht e2 ha hb M' P1 P2 c1 c2 S' E' => ?_)⟩
  have hfin := fun z1 z2 => hQ s t hs e ht e2 ha hb z1 z2 M' S' E'
  have hx3 := fun z => x3 s t hs e ht e2 ha hb z M' S' E'
  generalize (gCur G).1 s = a at *
  generalize (gCur G).1 t = b at *
  have h1 := CH_60 c1
  have h2 := CH_60 c2
  refine ⟨rfl, f_size s1 P1 ?_⟩
  rw [n0, nI_eq (by omega) (by decide)]
  refine ⟨fun q => ⟨rfl, f_size s2 P2 ?_⟩, fun q => hx3 (fun z => by omega)⟩
  rw [n0, nI_eq (by omega) (by decide)]
  refine ⟨fun q2 => ?_, fun q2 => hx3 (fun z => by omega)⟩
  have hp1 : 0 < (CH a).length := by omega
  have hp2 : 0 < (CH b).length := by omega
  have hfin := hfin hp1 hp2
  refine c_gap c1 c2 P1 P2 hp1 hp2 s1 c1 P1 (c_gap c1 c2 P1 P2 hp1 hp2 s2 c2 P2 ?_)
  obtain ⟨k1, k2⟩ := mx_join (wlA_ok (b := b) a hp1 hp2 h1 h2) (wlA_ok (a := a) b hp1 hp2 h1 h2)
  unfold dstA at hfin
  exact ⟨fun w => by rw [k1 w]; exact hfin, fun w => by rw [k2 w]; exact hfin⟩
end PQ5
