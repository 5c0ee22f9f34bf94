-- PURE: estimates of the class
def fdv (x y : Int64) : Int64 := if 0 ≤ (x ^^^ y) then x / y else if (x / y) * y = x then x / y else x / y - 1
def rdd (x y : Int64) : Int64 := fdv (2 * x + y) (2 * y)
theorem j_floor {M : MEM} {x y : Int64} (h : ¬ y = 0) {Q : Int64 → Prop} (hQ : Q (fdv x y)) : wp_J9_floorDiv_f86c9 x y M Q := by
  unfold fdv at hQ
  refine ⟨h, fun z e => ⟨fun c => ?_, fun c => ⟨fun c2 => ?_, fun c2 => ?_⟩⟩⟩
  · rw [if_pos c] at hQ; rw [e]; exact hQ
  · rw [e] at c2 ⊢; rw [if_neg c, if_pos c2] at hQ; exact hQ
  · rw [e] at c2 ⊢; rw [if_neg c, if_neg c2] at hQ; exact hQ
theorem two_ne {n : Nat} (h1 : 1 ≤ n) (h2 : n < 1152921504606846976) : ¬ 2 * lN n = 0 := by
  have e : 2 * lN n = lN (2 * n) := lN_mul 2 n
  rw [e]
  intro w
  have := (pk_lEQ (a := 2 * n) (b := 0) (by omega) (by decide)).mp w
  omega
theorem s_rnd {M : MEM} {x : Int64} {n : Nat} (h1 : 1 ≤ n) (h2 : n < 1152921504606846976) {Q : Int64 → Prop} (hQ : Q (rdd x (lN n))) : wp_X5_rounded x (lN n) M Q :=
  ⟨fun _ => j_floor (two_ne h1 h2) hQ, fun w => absurd ((pk_lLT (a := 0) (b := n) (by decide) (by omega)).mpr h1) w⟩
theorem q_rnd {M : MEM} {x : Int64} {n : Nat} (h1 : 1 ≤ n) (h2 : n < 1152921504606846976) {Q : Int64 → Prop} (hQ : Q (rdd x (lN n))) : wp_X6_rounded x (lN n) M Q := j_floor (two_ne h1 h2) hQ
theorem s_rnd0 {M : MEM} {x : Int64} {Q : Int64 → Prop} (hQ : Q 0) : wp_X5_rounded x (lN 0) M Q := ⟨fun w => absurd w (by decide), fun _ => hQ⟩
/-- what is totalled of an item -/
def tot (a : SLT) (p : Nat) (lo hi : Int32) (i : Nat) : Int64 := if lo.toInt ≤ (pt (it a i) 1).toInt ∧ (pt (it a i) 1).toInt ≤ hi.toInt then (pt (it a i) p).toInt64 else 0
def limI (a : SLT) : Nat := gd (ordR a) (CH a).length
def cntA (a : SLT) : Int64 := if sK a = 3 then (if (CH a).length = (ordR a).length then lN (CH a).length else rdd (lN (CH a).length * 2147483648) (lN (mx a (limI a)))) else lN (sN a)
def sumT (a : SLT) (p : Nat) (lo hi : Int32) : Nat → Int64
  | 0 => 0
  | m + 1 => sumT a p lo hi m + tot a p lo hi (gd (CH a) m)
def sumG (a : SLT) (t p : Nat) (lo hi : Int32) : Nat → Int64
  | 0 => 0
  | m + 1 => if stA a (gd (CH a) m) = t then sumG a t p lo hi m + tot a p lo hi (gd (CH a) m) else sumG a t p lo hi m
def itmG (a : SLT) (t : Nat) : Nat := ((CH a).filter (fun x => stA a x == t)).length
def stT (a : SLT) (p : Nat) (lo hi : Int32) : Nat → Int64
  | 0 => 0
  | t + 1 => stT a p lo hi t + (if itmG a t = 0 then 0 else rdd (sumG a t p lo hi (CH a).length * lN (cntF (fun i => stA a i == t) (sN a))) (lN (itmG a t)))
def wT (a : SLT) (p : Nat) (lo hi : Int32) : Nat → Int64
  | 0 => 0
  | m + 1 => wT a p lo hi m + (if (CH a).length = (ordR a).length then tot a p lo hi (gd (CH a) m)
      else if lN (wtA a (gd (CH a) m) * mx a (limI a)) < lN (2147483648 * wtA a (limI a)) then rdd (tot a p lo hi (gd (CH a) m) * lN (2147483648 * wtA a (limI a))) (lN (wtA a (gd (CH a) m) * mx a (limI a))) else tot a p lo hi (gd (CH a) m))
def totalA (a : SLT) (p : Nat) (lo hi : Int32) : Int64 :=
  if sK a = 1 then wT a p lo hi (CH a).length else if sK a = 2 then stT a p lo hi 4 else if (CH a).length = 0 then 0 else rdd (sumT a p lo hi (CH a).length * cntA a) (lN (CH a).length)
theorem cntL_cap (P : Nat → Bool) (l : List Nat) (m : Nat) : cntL P l m ≤ l.length := by
  unfold cntL
  refine Nat.le_trans (List.length_filter_le ..) ?_
  rw [List.length_take]; omega
section PQ4
variable {M : MEM} {o d h nx B : Nat} {a : SLT} {G : GST}
theorem f_tot (s : smp o d) (hc : CS nx M h a) (hP : SMP M o d h a) {k p : Nat} (hk : k < (CH a).length) (hp : p < 5) {lo hi : Int32} {Q : Int64 → Prop} (hQ : Q (tot a p lo hi (gd (CH a) k))) : wp_X3_totalled o (nI k) (nI p) lo hi M Q := by
  refine ⟨smp_o s, f_part s hc hP (p := 1) hk (by decide) ?_⟩
  unfold tot at hQ
  refine s_w32 lo.toInt hi.toInt (Int32.toInt_toInt64 _) (Int32.toInt_toInt64 _) (fun r => ⟨fun w => absurd w (by decide), fun _ => f_part s hc hP hk hp ?_⟩) (fun r => ⟨fun _ => ?_, fun w => absurd rfl w⟩)
  · unfold rng at r; rw [if_pos r] at hQ; exact hQ
  · unfold rng at r; rw [if_neg r] at hQ; exact hQ
theorem lim_lt (hc : CS nx M h a) (h : ¬ (CH a).length = (ordR a).length) : (CH a).length < (ordR a).length := by
  have := CH_le hc.st; omega
theorem lim_in (hc : CS nx M h a) (h : ¬ (CH a).length = (ordR a).length) : limI a < sN a := by
  have h1 := lim_lt hc h
  have : limI a ∈ ordR a := by unfold limI; rw [gd_eq h1]; exact List.getElem_mem _
  exact (ordR_mem.mp this).1
theorem f_lim (s : smp o d) (hc : CS nx M h a) (hP : SMP M o d h a) (hk : sK a ≠ 2) (h : ¬ (CH a).length = (ordR a).length) {Q : Int32 → Prop} (hQ : Q (nI (limI a))) : wp_X3_candidateAt o (nI (CH a).length) M Q := by
  have h1 := lim_lt hc h
  have h2 := Nat.le_trans (ordR_le (a := a)) hc.n
  have hA := hP.2.2.1
  have hl := hP.2.1
  rw [ordC_eq hk] at hA
  exact f_cand s h2 hl hA h1 hQ
theorem f_limMix (s : smp o d) (hc : CS nx M h a) (hP : SMP M o d h a) (h : ¬ (CH a).length = (ordR a).length) {Q : Int64 → Prop} (hQ : Q (lN (mx a (limI a)))) : wp_X3_mixAt o (nI (limI a)) M Q := by
  have h1 := lim_in hc h
  have hn := hc.n
  exact f_mixAt s (by omega) (hP.2.2.2.2.2.2.2 _ h1) hQ
theorem f_count (s : smp o d) (hc : CS nx M h a) (ha : sH a = true) (hP : SMP M o d h a) {Q : Int64 → Prop} (hQ : Q (cntA a)) : wp_X3_estimatedCount o M Q := by
  have h60 := CH_60 hc
  have hn := hc.n
  obtain ⟨v1, -⟩ := hc.2.1.2.2.1 ha
  unfold wp_X3_estimatedCount
  unfold cntA at hQ
  rw [hP.1, (hc.1.2.2.2 ha).1, n3, nI_eq (by omega) (by decide), hP.2.2.2.1, nI_l (by omega)]
  refine ⟨smp_o s, hc.kd, fun q => f_complete s hc hP ?_, fun q => s_count hc.1 hc.h1 hc.h2 ?_⟩
  · rw [if_pos q] at hQ
    by_cases c : (CH a).length = (ordR a).length
    · rw [if_pos c] at hQ ⊢
      exact ⟨fun w => absurd w (by decide), fun _ => hQ⟩
    · rw [if_neg c] at hQ ⊢
      have hm := mx_pos a (limI a)
      exact ⟨fun _ => f_lim s hc hP (by omega) c (f_limMix s hc hP c (s_rnd (by omega) (by omega) hQ)), fun w => absurd rfl w⟩
  · rw [if_neg q] at hQ
    rw [nI_l (by omega)]; exact hQ
theorem f_weighted (s : smp o d) (hc : CS nx M h a) (ha : sH a = true) (hk1 : sK a = 1) (hP : SMP M o d h a) {p : Nat} (hp : p < 5) {lo hi : Int32} {Q : Int64 → Prop} (hQ : Q (wT a p lo hi (CH a).length)) : wp_X3_weightedTotal o (nI p) lo hi M Q := by
  have h60 := CH_60 hc
  have hn := hc.n
  have lp : ∀ (r3 x7 : Int64), ((CH a).length = (ordR a).length ∨ (r3 = lN (mx a (limI a)) ∧ x7 = lN (2147483648 * wtA a (limI a)))) → ∀ f k, k ≤ (CH a).length → (CH a).length - k < f → wp_X3_weightedTotal_L41 o (nI p) lo hi M Q r3 x7 f (wT a p lo hi k) (nI k) := by
    intro r3 x7 hr f
    induction f with
    | zero => intro k _ h9; omega
    | succ f ih =>
      intro k hk hf
      unfold wp_X3_weightedTotal_L41
      rw [hP.2.2.2.1, nI_leI (by omega) (by omega)]
      refine ⟨fun q => ?_, fun q => f_tot s hc hP (by omega) hp (f_part s hc hP (p := 3) (by omega) (by decide) (fun x14 e14 => f_complete s hc hP ?_))⟩
      · rw [show k = (CH a).length by omega] ; exact hQ
      · have h9 := ih (k + 1) (by omega) (by omega)
        unfold wT at h9
        have j89 : wp_X3_weightedTotal_L41 o (nI p) lo hi M Q r3 x7 f (wT a p lo hi k + tot a p lo hi (gd (CH a) k)) (nI (k + 1)) → wp_X3_weightedTotal_J89 M x7 (wp_X3_weightedTotal_L41 o (nI p) lo hi M Q r3 x7 f) (wT a p lo hi k) (nI k) (tot a p lo hi (gd (CH a) k)) x14 := fun z => ⟨fun w => absurd w (by decide), fun _ x e x2 e2 => by rw [e, e2, n1, nA]; exact z⟩
        by_cases c : (CH a).length = (ordR a).length
        · rw [if_pos c] at h9 ⊢
          exact ⟨fun _ => j89 h9, fun w => absurd w (by decide)⟩
        · rw [if_neg c] at h9 ⊢
          refine ⟨fun w => absurd rfl w, fun _ => ?_⟩
          obtain ⟨e3, e7⟩ := hr.resolve_left c
          have hx := CH_gd hc (k := k) (by omega)
          have hw1 : 1 ≤ wtA a (gd (CH a) k) := (hc.ok hx).2.2.2.1
          have hw2 : wtA a (gd (CH a) k) ≤ 99 := hc.wgt _
          have hm := mx_pos a (limI a)
          have e14' : x14 = lN (wtA a (gd (CH a) k) * mx a (limI a)) := by
            rw [e14, e3, show pt (it a (gd (CH a) k)) 3 = nI (wtA a (gd (CH a) k)) from rfl, nI_l (by omega), lN_mul]
          have hb : wtA a (gd (CH a) k) * mx a (limI a) ≤ 99 * 2147483648 := Nat.mul_le_mul hw2 hm.2
          have hb1 : 1 ≤ wtA a (gd (CH a) k) * mx a (limI a) := Nat.mul_pos hw1 hm.1
          rw [e14'] at j89 ⊢
          refine ⟨fun z => ⟨fun _ => ?_, fun w => absurd rfl w⟩, fun z => j89 ?_⟩
          · rw [e7] at z ⊢
            rw [if_pos z] at h9
            refine s_rnd hb1 (by omega) (fun x e x2 e2 => ?_)
            rw [e, e2, n1, nA]
            rw [e7] at h9; exact h9
          · rw [e7] at z
            rw [if_neg z] at h9; exact h9
  unfold wp_X3_weightedTotal
  rw [hP.2.2.2.1, hP.1]
  refine ⟨smp_o s, ?_⟩
  by_cases c : (CH a).length = (ordR a).length
  · refine ⟨smp_o s, fun w => absurd w (nI_pos (by omega)), fun _ => ⟨fun _ => ?_, fun w => absurd (by rw [hP.2.1, c]; exact nI_le (Nat.le_refl _) (by omega)) w⟩⟩
    refine f_mixAt s (i := 0) (by decide) rfl ⟨hc.kd, c_part hc (i := 0) (p := 3) (by decide) (by decide) (fun x7 _ => ⟨(CH a).length + 1, ?_⟩)⟩
    exact lp _ x7 (Or.inl c) _ 0 (Nat.zero_le _) (by omega)
  · refine f_lim s hc hP (by omega) c (f_limMix s hc hP c ⟨hc.kd, c_part hc (p := 3) (by decide) (by have := lim_in hc c; omega) (fun x7 e7 => ⟨(CH a).length + 1, ?_⟩)⟩)
    have hw2 : wtA a (limI a) ≤ 99 := hc.wgt _
    have e7' : x7 = lN (2147483648 * wtA a (limI a)) := by
      rw [e7, show pt (it a (limI a)) 3 = nI (wtA a (limI a)) from rfl, nI_l (by omega)]
      exact lN_mul 2147483648 _
    exact lp _ x7 (Or.inr ⟨rfl, e7'⟩) _ 0 (Nat.zero_le _) (by omega)
theorem f_strat (s : smp o d) (hc : CS nx M h a) (hP : SMP M o d h a) {p : Nat} (hp : p < 5) {lo hi : Int32} {Q : Int64 → Prop} (hQ : Q (stT a p lo hi 4)) : wp_X3_stratifiedTotal o (nI p) lo hi M Q := by
  have h60 := CH_60 hc
  have hn := hc.n
  have inner : ∀ (K : Int64 → Int32 → Prop) t, t < 4 → K (stT a p lo hi (t + 1)) (nI (t + 1)) → ∀ f k, k ≤ (CH a).length → (CH a).length - k < f → wp_X3_stratifiedTotal_L21 o (nI p) lo hi M K (stT a p lo hi t) (nI t) f (sumG a t p lo hi k) (nI (cntL (fun x => stA a x == t) (CH a) k)) (nI k) := by
    intro K t ht hK f
    induction f with
    | zero => intro k _ h9; omega
    | succ f ih =>
      intro k hk hf
      unfold wp_X3_stratifiedTotal_L21
      rw [hP.2.2.2.1, nI_leI (by omega) (by omega), hP.1]
      refine ⟨fun q => ⟨hc.kd, c_cntStr hc ht ?_⟩, fun q => f_part s hc hP (p := 2) (by omega) (by decide) ?_⟩
      · have ek : k = (CH a).length := by omega
        subst ek
        have hcn := cntF_le (fun i => (it a i).2.2.1 == t) (sN a)
        have hcl := cntL_le (fun x => stA a x == t) (CH a) (CH a).length
        rw [cntL_all] at hcl ⊢
        rw [nI_l (by omega), nI_l (by omega)]
        unfold stT itmG at hK
        by_cases c : ((CH a).filter (fun x => stA a x == t)).length = 0
        · rw [if_pos c] at hK
          rw [c]
          refine s_rnd0 (fun x e x2 e2 => ?_)
          rw [e, e2, n1, nA]; exact hK
        · rw [if_neg c] at hK
          refine s_rnd (by omega) (by omega) (fun x e x2 e2 => ?_)
          rw [e, e2, n1, nA]; exact hK
      · have h9 := ih (k + 1) (by omega) (by omega)
        rw [cntL_s (by omega)] at h9
        unfold sumG at h9
        have hs4 : stA a (gd (CH a) k) < 4 := hc.str _
        show (¬ nI (stA a (gd (CH a) k)) = nI t → _) ∧ (nI (stA a (gd (CH a) k)) = nI t → _)
        rw [nI_eq (by omega) (by omega)]
        refine ⟨fun c x e => ?_, fun c => f_tot s hc hP (by omega) hp (fun x e x2 e2 x3 e3 => ?_)⟩
        · rw [if_neg c, if_neg (by simpa using c)] at h9
          rw [e, n1, nA]; exact h9
        · rw [if_pos c, if_pos (by simpa using c)] at h9
          rw [e, e2, e3, n1, nA, nA]; exact h9
  have outer : ∀ f t, t ≤ 4 → 4 - t < f → wp_X3_stratifiedTotal_L6 o (nI p) lo hi M Q f (stT a p lo hi t) (nI t) := by
    intro f
    induction f with
    | zero => intro t _ h9; omega
    | succ f ih =>
      intro t ht hf
      unfold wp_X3_stratifiedTotal_L6
      rw [n4, nI_leI (by omega) (by omega)]
      refine ⟨fun q => ?_, fun q => ⟨(CH a).length + 1, ?_⟩⟩
      · rw [show t = 4 by omega]; exact hQ
      · have := inner _ t (by omega) (ih (t + 1) (by omega) (by omega)) _ 0 (Nat.zero_le _) (Nat.lt_succ_self _)
        rw [cntL_0] at this
        exact this
  exact ⟨smp_o s, 5, outer 5 0 (Nat.zero_le _) (by decide)⟩
theorem f_total (s : smp o d) (hc : CS nx M h a) (ha : sH a = true) (hP : SMP M o d h a) {p : Nat} (hp : p < 5) {lo hi : Int32} {Q : Int64 → Prop} (hQ : Q (totalA a p lo hi)) : wp_X3_estimatedTotal o (nI p) lo hi M Q := by
  have h60 := CH_60 hc
  have hn := hc.n
  obtain ⟨v1, -⟩ := hc.2.1.2.2.1 ha
  unfold wp_X3_estimatedTotal
  unfold totalA at hQ
  rw [hP.1, (hc.1.2.2.2 ha).1, n1, n2, nI_eq (by omega) (by decide), nI_eq (by omega) (by decide)]
  refine ⟨smp_o s, hc.kd, fun q => ⟨fun q2 => ?_, fun q2 => ?_⟩, fun q => ?_⟩
  · rw [if_neg q, if_neg q2] at hQ
    refine ⟨(CH a).length + 1, ?_⟩
    have lp : ∀ f k, k ≤ (CH a).length → (CH a).length - k < f → wp_X3_estimatedTotal_L44 o (nI p) lo hi M Q f (sumT a p lo hi k) (nI k) := by
      intro f
      induction f with
      | zero => intro k _ h9; omega
      | succ f ih =>
        intro k hk hf
        unfold wp_X3_estimatedTotal_L44
        rw [hP.2.2.2.1, nI_leI (by omega) (by omega), nI_l (by omega)]
        refine ⟨fun q3 => f_count s hc ha hP ?_, fun q3 => f_tot s hc hP (by omega) hp (fun x e x2 e2 => ?_)⟩
        · rw [show k = (CH a).length by omega]
          by_cases c : (CH a).length = 0
          · rw [if_pos c] at hQ
            rw [c]; exact s_rnd0 hQ
          · rw [if_neg c] at hQ
            exact s_rnd (by omega) (by omega) hQ
        · rw [e, e2, n1, nA]
          exact ih (k + 1) (by omega) (by omega)
    exact lp _ 0 (Nat.zero_le _) (Nat.lt_succ_self _)
  · rw [if_neg q, if_pos q2] at hQ
    exact f_strat s hc hP hp hQ
  · rw [if_pos q] at hQ
    exact f_weighted s hc ha q hP hp hQ
theorem c_estimateKeys (hS : SIMC M G) (hW : WFG B G) (hB : B ≤ 1100000) {p1 p2 p3 p4 : Int32} {Q : Int64 → MEM → Prop} {X : String → MEM → Prop}
    (x1 : ¬ rng p1 0 3 → X "java/lang/IndexOutOfBoundsException" M)
    (x3 : ∀ s, s < 4 → p1 = nI s → sH ((gCur G).1 s) = false → X "java/lang/IllegalStateException" M)
    (hQ : ∀ s, s < 4 → p1 = nI s → sH ((gCur G).1 s) = true → ∀ M', SIMC M' G → EqR M M' → Q (totalA ((gCur G).1 s) (if p4 = 0 then 4 else 3) p2 p3) M') : wp_X5_estimateKeys 1 p1 p2 p3 p4 M Q X := by
  have sm : smp 16 15 := Or.inl ⟨rfl, rfl⟩
  refine ⟨rfl, s_slotAt (fun s hs e => ?_) x1⟩
  have hc0 := hS.cs hW hB hs
  refine c_filled hc0 (fun ha => s_find hS hc0 ha (fun M' hP hc S' E' => ?_)) (x3 s hs e)
  have hfin := hQ s hs e ha M' S' E'
  refine ⟨fun q => ⟨rfl, f_total sm hc ha hP (p := 4) (by decide) ?_⟩, fun q => ⟨rfl, f_total sm hc ha hP (p := 3) (by decide) ?_⟩⟩
  · rw [if_pos q] at hfin; exact hfin
  · rw [if_neg q] at hfin; exact hfin
def estA (a : SLT) (w : Nat) : Int64 := if w = 0 then cntA a else totalA a (if w = 1 then 4 else 3) 0 99
theorem c_estimate (hS : SIMC M G) (hW : WFG B G) (hB : B ≤ 1100000) {p1 p2 : Int32} {Q : Int64 → MEM → Prop} {X : String → MEM → Prop}
    (x1 : ¬ rng p1 0 3 → X "java/lang/IndexOutOfBoundsException" M) (x2 : rng p1 0 3 → ¬ rng p2 0 2 → X "java/lang/IllegalArgumentException" M)
    (x3 : ∀ s, s < 4 → p1 = nI s → rng p2 0 2 → sH ((gCur G).1 s) = false → X "java/lang/IllegalStateException" M)
    (hQ : ∀ s w, s < 4 → p1 = nI s → p2 = nI w → w ≤ 2 → sH ((gCur G).1 s) = true → ∀ M', SIMC M' G → EqR M M' → Q (estA ((gCur G).1 s) w) M') : wp_X5_estimate 1 p1 p2 M Q X := by
  have sm : smp 16 15 := Or.inl ⟨rfl, rfl⟩
  refine ⟨rfl, s_slotAt (fun s hs e => ?_) x1⟩
  subst e
  have hc0 := hS.cs hW hB hs
  refine s_w32 0 2 (by decide) (by decide) (fun r3 => s_need (fun _ => ?_) (fun e => absurd e (by decide))) (fun r3 => s_need (fun e => absurd rfl e) (fun _ => x2 (rng_slot hs) r3))
  refine c_filled hc0 (fun ha => ?_) (x3 s hs rfl r3)
  obtain ⟨w, e3, -, w2, -⟩ := rng_nI r3 (by decide)
  subst e3
  refine s_find hS hc0 ha (fun M' hP hc S' E' => ?_)
  have hfin := hQ s w hs rfl rfl (by omega) ha M' S' E'
  unfold estA at hfin
  rw [n0, n1, nI_eq (by omega) (by decide), nI_eq (by omega) (by decide)]
  refine ⟨fun z => ⟨fun z2 => ⟨rfl, f_total sm hc ha hP (p := 3) (by decide) ?_⟩, fun z2 => ⟨rfl, f_total sm hc ha hP (p := 4) (by decide) ?_⟩⟩, fun z => ⟨rfl, f_count sm hc ha hP ?_⟩⟩
  · rw [if_neg z, if_neg z2] at hfin; exact hfin
  · rw [if_neg z, if_pos z2] at hfin; exact hfin
  · rw [if_pos z] at hfin; exact hfin
end PQ4
