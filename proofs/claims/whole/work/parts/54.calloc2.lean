-- PURE: the class's allocation, whole
theorem quo_sum {a : SLT} (w : Bool) (T : Nat) (h : 0 < all4 a w) : quo a w T 0 + quo a w T 1 + quo a w T 2 + quo a w T 3 ≤ T := by
  have h0 := Nat.div_mul_le_self (T * amt a w 0 (sN a)) (all4 a w)
  have h1 := Nat.div_mul_le_self (T * amt a w 1 (sN a)) (all4 a w)
  have h2 := Nat.div_mul_le_self (T * amt a w 2 (sN a)) (all4 a w)
  have h3 := Nat.div_mul_le_self (T * amt a w 3 (sN a)) (all4 a w)
  have hs : T * amt a w 0 (sN a) + T * amt a w 1 (sN a) + T * amt a w 2 (sN a) + T * amt a w 3 (sN a) = T * all4 a w := by
    unfold all4; simp only [Nat.mul_add]
  refine Nat.le_of_mul_le_mul_right (c := all4 a w) ?_ h
  unfold quo
  simp only [Nat.add_mul]
  omega
theorem alc_ok : ∀ (k : Nat) (q : Nat → Nat) (r : Nat → Int32) (T : Nat), q 0 + q 1 + q 2 + q 3 + k ≤ T → ∀ t, t < 4 → alc k q r t ≤ T := by
  intro k
  induction k with
  | zero =>
    intro q r T h t ht
    show q t ≤ T
    rcases (show t = 0 ∨ t = 1 ∨ t = 2 ∨ t = 3 by omega) with rfl | rfl | rfl | rfl <;> omega
  | succ k ih =>
    intro q r T h t ht
    refine ih _ _ T ?_ t ht
    have hb := bst_lt r
    rcases (show bst r = 0 ∨ bst r = 1 ∨ bst r = 2 ∨ bst r = 3 by omega) with e | e | e | e <;> rw [e] <;> simp <;> omega
section PAL
variable {M : MEM} {G : GST} {B : Nat}
theorem RepC.setQ {M : MEM} {h : Nat} {a : SLT} {q q' : Nat → Nat} (hr : RepC M h (setQ a q)) (e : ∀ t, t < 4 → q t = q' t) : RepC M h (Jvm.Pilot.CSampleBenchLaw_law_r6121_bd6fca.setQ a q') := by
  obtain ⟨h1, h2, h3, h4⟩ := hr
  refine ⟨h1, h2, h3, fun ht => ?_⟩
  obtain ⟨f1, f2, f3, f4, f5⟩ := h4 ht
  exact ⟨f1, f2, f3, f4, fun t ht => by
    have := f5 t ht
    rw [this]
    exact congrArg nI (e t ht)⟩
theorem WF.setQ {nx : Nat} {a : SLT} (h : WF nx a) {q : Nat → Nat} (hq : ∀ t, t < 4 → q t ≤ 12) : WF nx (Jvm.Pilot.CSampleBenchLaw_law_r6121_bd6fca.setQ a q) :=
  ⟨h.1, h.2.1, fun ht => by
    obtain ⟨v1, v2, v3, v4, v5, v6⟩ := h.2.2.1 ht
    exact ⟨v1, v2, v3, v4, hq, v6⟩, h.2.2.2⟩
theorem all4_pos {nx : Nat} {M : MEM} {h : Nat} {a : SLT} (hc : CS nx M h a) (w : Bool) : (sN a = 0 → all4 a w = 0) ∧ (0 < sN a → 0 < all4 a w) := by
  refine ⟨fun e => by unfold all4; rw [e]; rfl, fun hn => ?_⟩
  obtain ⟨m, hm⟩ : ∃ m, sN a = m + 1 := ⟨sN a - 1, by omega⟩
  unfold all4
  rw [hm, amt_sum w (fun i => hc.str i) m]
  have := (hc.ok (i := m) (by omega)).2.2.2.1
  split <;> omega
theorem c_allocate (hS : SIMC M G) (hW : WFG B G) (hB : B ≤ 1100000) {p1 p2 p3 : Int32} {Q : Int32 → MEM → Prop} {X : String → MEM → Prop}
    (x1 : ¬ rng p1 0 3 → X "java/lang/IndexOutOfBoundsException" M) (x2 : rng p1 0 3 → ¬ rng p2 0 12 → X "java/lang/IllegalArgumentException" M)
    (x3 : ∀ s, s < 4 → p1 = nI s → rng p2 0 12 → sH ((gCur G).1 s) = false → X "java/lang/IllegalStateException" M)
    (x4 : ∀ s, s < 4 → p1 = nI s → rng p2 0 12 → sH ((gCur G).1 s) = true → sN ((gCur G).1 s) = 0 → ∀ M', SIMC M' G → EqR M M' → X "java/lang/ArithmeticException" M')
    (hQ : ∀ s T, s < 4 → p1 = nI s → p2 = nI T → T ≤ 12 → sH ((gCur G).1 s) = true → 0 < sN ((gCur G).1 s) → ∀ M', SIMC M' (chgG G s (allocA ((gCur G).1 s) (decide (p3 ≠ 0)) T) (gCur G).2) → EqR M M' → Q (nI (sQ (allocA ((gCur G).1 s) (decide (p3 ≠ 0)) T) 0)) M') : wp_X5_allocate 1 p1 p2 p3 M Q X := by
  refine ⟨rfl, s_slotAt (fun s hs e => ?_) x1⟩
  subst e
  have hc := hS.cs hW hB hs
  refine s_w32 0 12 (by decide) (by decide) (fun r2 => s_need (fun _ => ?_) (fun e => absurd e (by decide))) (fun r2 => s_need (fun e => absurd rfl e) (fun _ => x2 (rng_slot hs) r2))
  obtain ⟨T, e2, -, T2, -⟩ := rng_nI r2 (by decide)
  subst e2
  have hT : T ≤ 12 := by omega
  refine c_filled hc (fun ha => c_amounts hc (fun M1 hA F1 => ?_)) (x3 s hs rfl r2)
  have hQ' := hQ s T hs rfl rfl hT
  have x4' := x4 s hs rfl r2
  clear hQ x4 x3 x2 x1
  generalize hw : decide (p3 ≠ 0) = w at hA hQ'
  generalize haa : (gCur G).1 s = a at *
  have S1 : SIMC M1 G := hS.of (fun b hb j => F1.1 b (by unfold liveC at hb; omega) j)
  have E1 : EqR M M1 := EqR.fr F1 (fun b p q w => by omega)
  have hb := amt_le (a := a) (fun i => hc.wgt i) w
  have hn := hc.n
  have h0 := hb 0 (sN a)
  have h1 := hb 1 (sN a)
  have h2 := hb 2 (sN a)
  have h3 := hb 3 (sN a)
  have hall : all4 a w ≤ 25000 := by unfold all4; omega
  refine ⟨fun q => ?_, fun q => ?_⟩
  · have hpos : 0 < all4 a w := (nI_ltI (a := 0) (by decide) (by omega)).mp q
    have hsn : 0 < sN a := Nat.pos_of_ne_zero (fun e => by have := (all4_pos hc w).1 e; omega)
    have hqs := quo_sum (a := a) w T hpos
    refine ⟨rfl, c_remember S1 hW hB hs (fun M2 S2 F2 => ⟨5, ?_⟩)⟩
    have E2 : EqR M M2 := E1.trans (EqR.fr F2 (fun b p q => not_inHis p q))
    have r2 : RepC M2 (100 + s) a := by have := S2.1 s hs; rw [show (gCur (remG G s)).1 s = (gCur G).1 s from rfl, haa] at this; exact this
    have A2 : ∀ t, t < 4 → mI M2 14 t = nI (amt a w t (sN a)) := fun t ht => by rw [F2.1 14 (by unfold inHis; omega)]; exact hA t ht
    have hqt : ∀ t, t < 4 → quo a w T t ≤ 12 := by
      intro t ht
      rcases (show t = 0 ∨ t = 1 ∨ t = 2 ∨ t = 3 by omega) with rfl | rfl | rfl | rfl <;> omega
    -- the last rounds
    have lp3 : ∀ f k M4 q r, k ≤ lft a w T → lft a w T - k < f → EqR M M4 → RepC M4 (100 + s) (setQ a q) → (∀ b, ¬ inH (100 + s) b → b ≠ 15 → ∀ j, mI M4 b j = mI M2 b j) → (∀ t, t < 4 → mI M4 15 t = r t) → q 0 + q 1 + q 2 + q 3 + (lft a w T - k) ≤ T → alc (lft a w T - k) q r = alc (lft a w T) (quo a w T) (fun t => nI (rem4 a w T t)) → wp_X5_allocate_L128 1 Q (100 + s) (nI (lft a w T)) f (nI k) M4 := by
      intro f
      induction f with
      | zero => intro k M4 q r _ h9; omega
      | succ f ih =>
        intro k M4 q r hk hf E4 r4 o4 hr4 hsum hal
        have hl12 : lft a w T ≤ 12 := by unfold lft; omega
        unfold wp_X5_allocate_L128
        by_cases c : k = lft a w T
        · subst c
          simp (disch := omega) only [nEF, nET, true_and, and_true, true_implies, false_implies, not_true_eq_false, not_false_eq_true, forall_const, false_or, or_false, if_true, if_false]
          refine ⟨hc.kd, ?_⟩
          rw [Nat.sub_self] at hal
          have hal' : q = alc (lft a w T) (quo a w T) (fun t => nI (rem4 a w T t)) := hal
          subst hal'
          refine s_quotaOf (t := 0) r4 hc.h1 hc.h2 ha (by decide) ?_
          refine hQ' ha hsn M4 ?_ E4
          refine S2.set hs r4 (fun b h1 h2 h3 j => o4 b h2 (by unfold liveC at h3; omega) j) ?_ ?_ ?_
          · exact o4 1 (by unfold inH; omega) (by decide) 2
          · exact o4 1 (by unfold inH; omega) (by decide) 3
          · rw [o4 1 (by unfold inH; omega) (by decide) 4]; exact S2.nx
        · simp (disch := omega) only [nEF, nET, true_and, and_true, true_implies, false_implies, not_true_eq_false, not_false_eq_true, forall_const, false_or, or_false, if_true, if_false]
          have hb4 := bst_lt r
          refine c_takeR hr4 ⟨hc.kd, ?_⟩
          have rr : RepC (uI M4 15 (bst r) (-1)) (100 + s) (setQ a q) := r4.of (fun b hb j => rd_ne (by unfold inH at hb; omega))
          have hqb : q (bst r) + 1 ≤ 12 := by
            rcases (show bst r = 0 ∨ bst r = 1 ∨ bst r = 2 ∨ bst r = 3 by omega) with e | e | e | e <;> rw [e] <;> omega
          have hq12 : ∀ t, t < 4 → q t ≤ 12 := by
            intro t ht
            rcases (show t = 0 ∨ t = 1 ∨ t = 2 ∨ t = 3 by omega) with rfl | rfl | rfl | rfl <;> omega
          refine s_quotaOf rr hc.h1 hc.h2 ha hb4 ?_
          rw [n1, show nI (sQ (setQ a q) (bst r)) + nI 1 = nI (q (bst r) + 1) from nA _ _]
          have hcs : CS (gCur G).2 (uI M4 15 (bst r) (-1)) (100 + s) (setQ a q) := ⟨rr, hc.2.1.setQ hq12, hc.2.2⟩
          refine c_putQ hcs ha hb4 hqb (fun M5 c5 F5 x7 e7 => ?_)
          rw [e7, nA]
          have hls : lft a w T - k = (lft a w T - (k + 1)) + 1 := by omega
          refine ih (k + 1) M5 (fun u => if u = bst r then q u + 1 else q u) (fun u => if u = bst r then -1 else r u) (by omega) (by omega) ?_ ?_ ?_ ?_ ?_ ?_
          · exact E4.trans (EqR.trans (fun b p q j => rd_ne (by omega)) (EqR.fr F5 (fun b p q => not_inHs p q hc.h1)))
          · refine RepC.setQ (q := sQ (putQA (setQ a q) (bst r) (q (bst r) + 1))) c5.1 (fun t ht => ?_)
            show (if t = bst r then q (bst r) + 1 else q t) = if t = bst r then q t + 1 else q t
            by_cases e : t = bst r
            · rw [if_pos e, if_pos e, e]
            · rw [if_neg e, if_neg e]
          · intro b hb hb15 j
            rw [F5.1 b hb, rd_ne (by omega)]; exact o4 b hb hb15 j
          · intro t ht
            rw [F5.1 15 (by unfold inH; omega)]
            by_cases e : t = bst r
            · rw [if_pos e, e, rd_eq]
            · rw [if_neg e, rd_ne (by omega)]; exact hr4 t ht
          · rcases (show bst r = 0 ∨ bst r = 1 ∨ bst r = 2 ∨ bst r = 3 by omega) with e | e | e | e <;> rw [e] <;> simp <;> omega
          · rw [hls] at hal
            exact hal
    -- the shares
    have lp2 : ∀ f t M3, t ≤ 4 → 4 - t < f → EqR M M3 → RepC M3 (100 + s) (setQ a (fun u => if u < t then quo a w T u else sQ a u)) → (∀ b, ¬ inH (100 + s) b → b ≠ 15 → ∀ j, mI M3 b j = mI M2 b j) → (∀ u, u < t → mI M3 15 u = nI (rem4 a w T u)) → ∀ x6, x6 = nI (T - ((if 0 < t then quo a w T 0 else 0) + (if 1 < t then quo a w T 1 else 0) + (if 2 < t then quo a w T 2 else 0) + (if 3 < t then quo a w T 3 else 0))) → wp_X5_allocate_L68 1 (nI T) Q (100 + s) (nI (all4 a w)) f x6 (nI t) M3 := by
      intro f
      induction f with
      | zero => intro t M3 _ h9; omega
      | succ f ih =>
        intro t M3 ht hf E3 r3 o3 hr3 x6 e6
        unfold wp_X5_allocate_L68
        by_cases c : t = 4
        · subst c
          simp (disch := omega) only [n4, nEF, nET, true_and, and_true, true_implies, false_implies, not_true_eq_false, not_false_eq_true, forall_const, false_or, or_false, if_true, if_false]
          have e6' : x6 = nI (lft a w T) := e6
          refine ⟨lft a w T + 1, ?_⟩
          rw [e6']
          refine lp3 _ 0 M3 (quo a w T) (fun t => nI (rem4 a w T t)) (Nat.zero_le _) (by omega) E3 (r3.setQ (fun u hu => if_pos hu)) o3 (fun u hu => hr3 u hu) ?_ rfl
          unfold lft; omega
        · simp (disch := omega) only [r1_12, r1_13, k14, k15, n4, nEF, nET, nV, nC, true_and, and_true, true_implies, false_implies, not_true_eq_false, not_false_eq_true, forall_const, false_or, or_false, if_true, if_false]
          have ht4 : t < 4 := by omega
          have hq12 := hqt t ht4
          have hbt := hb t (sN a)
          have hA3 : mI M3 14 t = nI (amt a w t (sN a)) := by rw [o3 14 (by unfold inH; omega) (by decide)]; exact A2 t ht4
          intro x8 e8
          rw [hA3, nM] at e8
          have hprod : T * amt a w t (sN a) < 2147483648 := by
            have : T * amt a w t (sN a) ≤ 12 * 5940 := Nat.mul_le_mul hT (by omega)
            omega
          have ediv : x8 / nI (all4 a w) = nI (quo a w T t) := by rw [e8]; exact pk_div hprod hpos (by omega)
          have erem : x8 - x8 / nI (all4 a w) * nI (all4 a w) = nI (rem4 a w T t) := by rw [e8]; exact pk_rem hprod hpos (by omega)
          have hne : ¬ nI (all4 a w) = 0 := fun w2 => by have := (nI_eq (b := 0) (by omega) (by decide)).mp w2; omega
          rw [erem, ediv]
          have hcs : CS (gCur G).2 M3 (100 + s) (setQ a (fun u => if u < t then quo a w T u else sQ a u)) := ⟨r3, hc.2.1.setQ (fun u hu => by
            split
            · exact hqt u hu
            · exact (hc.2.1.2.2.1 ha).2.2.2.2.1 u hu), hc.2.2⟩
          refine ⟨hne, hc.kd, c_putQ hcs ha ht4 hq12 (fun M5 c5 F5 => ⟨hne, fun M6 e6b => ⟨hne, fun x6b e6c x7 e7 => ?_⟩⟩)⟩
          rw [e7, n1, nA]
          refine ih (t + 1) M6 (by omega) (by omega) (E3.trans (EqR.trans (EqR.fr F5 (fun b p q => not_inHs p q hc.h1)) (fun b p q j => by rw [e6b, rd_ne (by omega)]))) ?_ (fun b hb hb15 j => ?_) (fun u hu => ?_) x6b ?_
          · refine RepC.setQ (q := sQ (putQA (setQ a (fun u => if u < t then quo a w T u else sQ a u)) t (quo a w T t))) (c5.1.of (fun b hb j => by rw [e6b, rd_ne (by unfold inH at hb; omega)])) (fun u hu => ?_)
            show (if u = t then quo a w T t else if u < t then quo a w T u else sQ a u) = if u < t + 1 then quo a w T u else sQ a u
            by_cases e : u = t
            · subst e; rw [if_pos rfl, if_pos (by omega)]
            · by_cases e2 : u < t
              · rw [if_neg e, if_pos e2, if_pos (by omega)]
              · rw [if_neg e, if_neg e2, if_neg (by omega)]
          · rw [e6b, rd_ne (by omega), F5.1 b hb]; exact o3 b hb hb15 j
          · by_cases e : u = t
            · subst e; rw [e6b, rd_eq]
            · rw [e6b, rd_ne (by omega), F5.1 15 (by unfold inH; omega)]; exact hr3 u (by omega)
          · rw [e6c, e6]
            rcases (show t = 0 ∨ t = 1 ∨ t = 2 ∨ t = 3 by omega) with rfl | rfl | rfl | rfl
            · simp; rw [nS (by omega)]
            · simp; rw [nS (by omega)]; congr 1; omega
            · simp; rw [nS (by omega)]; congr 1; omega
            · simp; rw [nS (by omega)]; congr 1; omega
    refine lp2 5 0 M2 (by decide) (by decide) E2 (RepC.setQ (q := sQ a) r2 (fun u hu => (if_neg (by omega)).symm)) (fun _ _ _ _ => rfl) (fun u hu => absurd hu (Nat.not_lt_zero _)) _ ?_
    simp
  · have hz : all4 a w = 0 := Nat.eq_zero_of_not_pos (fun w2 => q (nI_lt (a := 0) w2 (by omega)))
    have hsn : sN a = 0 := Nat.eq_zero_of_not_pos (fun w2 => by have := (all4_pos hc w).2 w2; omega)
    exact x4' ha hsn M1 S1 E1
end PAL
