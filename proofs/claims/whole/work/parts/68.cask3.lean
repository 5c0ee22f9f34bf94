-- PURE: what the class is asked: commonKey, stratum, truth
def cntL (P : Nat → Bool) (l : List Nat) (m : Nat) : Nat := ((l.take m).filter P).length
theorem cntL_0 (P : Nat → Bool) (l : List Nat) : cntL P l 0 = 0 := by unfold cntL; simp
theorem cntL_s {P : Nat → Bool} {l : List Nat} {m : Nat} (h : m < l.length) : cntL P l (m + 1) = cntL P l m + (if P (gd l m) = true then 1 else 0) := by
  unfold cntL
  rw [take_s h, List.filter_append, List.length_append]
  by_cases c : P (gd l m) = true <;> simp [c]
theorem cntL_all (P : Nat → Bool) (l : List Nat) : cntL P l l.length = (l.filter P).length := by unfold cntL; rw [List.take_length]
theorem cntL_le (P : Nat → Bool) (l : List Nat) (m : Nat) : cntL P l m ≤ m := by
  unfold cntL
  refine Nat.le_trans (List.length_filter_le ..) ?_
  rw [List.length_take]; omega
abbrev kyA (a : SLT) (i : Nat) : Nat := (it a i).2.1
/-- how often a key occurs in the sample -/
def cK (a : SLT) (b : Nat) : Nat := ((CH a).filter (fun x => kyA a x == b)).length
def isBest (a : SLT) (b : Nat) : Prop := b ≤ 99 ∧ 0 < cK a b ∧ (∀ c, cK a c ≤ cK a b) ∧ ∀ c, c < b → cK a c < cK a b
theorem isBest_one {a : SLT} {b c : Nat} (h1 : isBest a b) (h2 : isBest a c) : b = c := by
  rcases Nat.lt_trichotomy b c with q | q | q
  · have := h2.2.2.2 b q; have := h1.2.2.1 c; omega
  · exact q
  · have := h1.2.2.2 c q; have := h2.2.2.1 b; omega
theorem cK_pos {a : SLT} {k : Nat} (h : k < (CH a).length) : 0 < cK a (kyA a (gd (CH a) k)) := by
  unfold cK
  refine List.length_pos_of_mem (a := gd (CH a) k) (List.mem_filter.mpr ⟨?_, by simp⟩)
  rw [gd_eq h]; exact List.getElem_mem _
theorem cK_none {a : SLT} {b : Nat} (h : ∀ j, j < (CH a).length → kyA a (gd (CH a) j) ≠ b) : cK a b = 0 := by
  unfold cK
  rw [filter_no (fun x hx => ?_)]
  · rfl
  · obtain ⟨j, hj, e⟩ := List.getElem_of_mem hx
    have := h j hj
    rw [gd_eq hj, e] at this
    simpa using this
theorem nI_rem2 {w : Nat} (h : w < 2147483648) : nI w - nI w / 2 * 2 = nI (w % 2) := pk_rem (d := 2) h (by decide) (by decide)
/-- the sum over the kept items of a stratum -/
def strA (a : SLT) (t w : Nat) : Nat → Int32
  | 0 => 0
  | m + 1 => if stA a m = t ∧ (w % 2 = 1 → m ∈ CH a) then strA a t w m + (if w < 2 then 1 else if w < 4 then pt (it a m) 4 else pt (it a m) 3) else strA a t w m
def trA (a : SLT) (w : Nat) : Nat → Int64
  | 0 => 0
  | m + 1 => if candA a m = true then trA a w m + (if w = 0 then 1 else if w = 1 then (pt (it a m) 4).toInt64 else (pt (it a m) 3).toInt64) else trA a w m
section PQ3
variable {M : MEM} {o d h nx B : Nat} {a : SLT} {G : GST}
theorem c_nsample {Q : Nat → MEM → Prop} {X : String → MEM → Prop} (hS : SIMC M G) (hc : CS nx M h a) (x3 : sH a = false → X "java/lang/IllegalStateException" M)
    (x4 : sH a = true → (CH a).length = 0 → ∀ M', SIMC M' G → EqR M M' → X "java/util/NoSuchElementException" M')
    (hQ : sH a = true → 0 < (CH a).length → ∀ M', SMP M' 16 15 h a → CS nx M' h a → SIMC M' G → EqR M M' → Q 16 M') : wp_X5_neededSample 1 h M Q X := by
  have sm : smp 16 15 := Or.inl ⟨rfl, rfl⟩
  refine ⟨rfl, c_filled hc (fun ha => s_find hS hc ha (fun M' hP hc' S' E' => ⟨rfl, f_size sm hP ?_⟩)) x3⟩
  have h60 := CH_60 hc'
  rw [n0, nI_eq (by omega) (by decide)]
  exact ⟨fun q => hQ ha (by omega) M' hP hc' S' E', fun q => x4 ha q M' S' E'⟩
theorem f_times (s : smp o d) (hc : CS nx M h a) (hP : SMP M o d h a) {b : Nat} (hb : b < 100) {Q : Int32 → Prop} (hQ : Q (nI (cK a b))) : wp_X3_timesOfKey o (nI b) M Q := by
  have h60 := CH_60 hc
  refine ⟨smp_o s, (CH a).length + 1, ?_⟩
  have lp : ∀ f k, k ≤ (CH a).length → (CH a).length - k < f → wp_X3_timesOfKey_L4 o (nI b) M Q f (nI (cntL (fun x => kyA a x == b) (CH a) k)) (nI k) := by
    intro f
    induction f with
    | zero => intro k _ h9; omega
    | succ f ih =>
      intro k hk hf
      unfold wp_X3_timesOfKey_L4
      rw [hP.2.2.2.1, nI_leI (by omega) (by omega)]
      refine ⟨fun q => ?_, fun q => ?_⟩
      · rw [show k = (CH a).length by omega, cntL_all]; exact hQ
      · have h9 := ih (k + 1) (by omega) (by omega)
        rw [cntL_s (by omega)] at h9
        refine f_part s hc hP (p := 1) (by omega) (by decide) ?_
        show (¬ nI (kyA a (gd (CH a) k)) = nI b → _) ∧ (nI (kyA a (gd (CH a) k)) = nI b → _)
        have hky : kyA a (gd (CH a) k) ≤ 99 := hc.key _
        rw [nI_eq (by omega) (by omega)]
        refine ⟨fun c x3 e3 => ?_, fun c x2 e2 x3 e3 => ?_⟩
        · rw [if_neg (by simpa using c)] at h9
          rw [e3, n1, nA]; exact h9
        · rw [if_pos (by simpa using c)] at h9
          rw [e3, e2, n1, nA, nA]; exact h9
  have := lp _ 0 (Nat.zero_le _) (Nat.lt_succ_self _)
  rw [cntL_0] at this
  exact this
theorem c_commonKey (hS : SIMC M G) (hW : WFG B G) (hB : B ≤ 1100000) {p1 : Int32} {Q : Int32 → MEM → Prop} {X : String → MEM → Prop}
    (x1 : ¬ rng p1 0 3 → X "java/lang/IndexOutOfBoundsException" M)
    (x3 : ∀ s, s < 4 → p1 = nI s → sH ((gCur G).1 s) = false → X "java/lang/IllegalStateException" M)
    (x4 : ∀ s, s < 4 → p1 = nI s → sH ((gCur G).1 s) = true → (CH ((gCur G).1 s)).length = 0 → ∀ M', SIMC M' G → EqR M M' → X "java/util/NoSuchElementException" M')
    (hQ : ∀ s b, s < 4 → p1 = nI s → sH ((gCur G).1 s) = true → 0 < (CH ((gCur G).1 s)).length → isBest ((gCur G).1 s) b → ∀ M', SIMC M' G → EqR M M' → Q (nI b) M') : wp_X5_commonKey 1 p1 M Q X := by
  have sm : smp 16 15 := Or.inl ⟨rfl, rfl⟩
  refine ⟨rfl, s_slotAt (fun s hs e => ?_) x1⟩
  have hc0 := hS.cs hW hB hs
  refine c_nsample hS hc0 (x3 s hs e) (x4 s hs e) (fun ha hpos M' hP hc S' E' => ?_)
  have hfin := fun b hb => hQ s b hs e ha hpos hb M' S' E'
  generalize hga : (gCur G).1 s = a at *
  have h60 := CH_60 hc
  have hck : ∀ b, cK a b ≤ 60 := fun b => by
    unfold cK; exact Nat.le_trans (List.length_filter_le ..) h60
  refine ⟨(CH a).length + 1, ?_⟩
  have lp : ∀ f k b t, k ≤ (CH a).length → (CH a).length - k < f → b ≤ 99 → t ≤ 60 → (k = 0 → t = 0) → (0 < k → t = cK a b ∧ 0 < t) → (∀ j, j < k → cK a (kyA a (gd (CH a) j)) < t ∨ (cK a (kyA a (gd (CH a) j)) = t ∧ b ≤ kyA a (gd (CH a) j))) → wp_X5_commonKey_L19 Q 16 M' f (nI b) (nI t) (nI k) := by
    intro f
    induction f with
    | zero => intro k b t _ h9; omega
    | succ f ih =>
      intro k b t hk hf hb ht h0 h1 hj
      refine ⟨rfl, f_size sm hP ?_⟩
      rw [nI_leI (by omega) (by omega)]
      refine ⟨fun q => ?_, fun q => f_part sm hc hP (p := 1) (by omega) (by decide) ?_⟩
      · obtain ⟨h2, h3⟩ := h1 (by omega)
        refine hfin b ⟨hb, by omega, fun c => ?_, fun c hcb => ?_⟩
        · by_cases z : ∃ j, j < (CH a).length ∧ kyA a (gd (CH a) j) = c
          · obtain ⟨j, z1, z2⟩ := z
            have := hj j (by omega)
            rw [z2] at this; omega
          · have := cK_none (a := a) (b := c) (fun j z1 z2 => z ⟨j, z1, z2⟩); omega
        · by_cases z : ∃ j, j < (CH a).length ∧ kyA a (gd (CH a) j) = c
          · obtain ⟨j, z1, z2⟩ := z
            have := hj j (by omega)
            rw [z2] at this; omega
          · have := cK_none (a := a) (b := c) (fun j z1 z2 => z ⟨j, z1, z2⟩); omega
      · have hky : kyA a (gd (CH a) k) ≤ 99 := hc.key _
        refine f_times sm hc hP (b := kyA a (gd (CH a) k)) (by omega) ?_
        have hp := cK_pos (a := a) (k := k) (by omega)
        have hc60 := hck (kyA a (gd (CH a) k))
        show (nI t < nI (cK a (kyA a (gd (CH a) k))) → ∀ x5_15 : Int32, x5_15 = nI k + 1 → wp_X5_commonKey_L19 Q 16 M' f (nI (kyA a (gd (CH a) k))) (nI (cK a (kyA a (gd (CH a) k)))) x5_15) ∧ (¬ nI t < nI (cK a (kyA a (gd (CH a) k))) → (¬ nI (cK a (kyA a (gd (CH a) k))) = nI t → _) ∧ (nI (cK a (kyA a (gd (CH a) k))) = nI t → (nI b ≤ nI (kyA a (gd (CH a) k)) → _) ∧ (¬ nI b ≤ nI (kyA a (gd (CH a) k)) → ∀ x5_18 : Int32, x5_18 = nI k + 1 → wp_X5_commonKey_L19 Q 16 M' f (nI (kyA a (gd (CH a) k))) (nI (cK a (kyA a (gd (CH a) k)))) x5_18)))
        generalize hg : kyA a (gd (CH a) k) = y at *
        rw [nI_ltI (by omega) (by omega), nI_eq (by omega) (by omega), nI_leI (by omega) (by omega)]
        have new : (t < cK a y ∨ (cK a y = t ∧ y < b)) → wp_X5_commonKey_L19 Q 16 M' f (nI y) (nI (cK a y)) (nI (k + 1)) := fun z => by
          refine ih (k + 1) y (cK a y) (by omega) (by omega) (by omega) (by omega) (by omega) (fun _ => ⟨rfl, hp⟩) (fun j hj2 => ?_)
          by_cases e2 : j = k
          · subst e2; rw [hg]; exact Or.inr ⟨rfl, Nat.le_refl _⟩
          · have := hj j (by omega); omega
        have old : (cK a y < t ∨ (cK a y = t ∧ b ≤ y)) → wp_X5_commonKey_L19 Q 16 M' f (nI b) (nI t) (nI (k + 1)) := fun z => by
          have hk0 : 0 < k := Nat.pos_of_ne_zero (fun e2 => by have := h0 e2; omega)
          refine ih (k + 1) b t (by omega) (by omega) hb ht (by omega) (fun _ => h1 hk0) (fun j hj2 => ?_)
          by_cases e2 : j = k
          · subst e2; rw [hg]; exact z
          · exact hj j (by omega)
        refine ⟨fun z x e => ?_, fun z => ⟨fun z2 x e => ?_, fun z2 => ⟨fun z3 x e => ?_, fun z3 x e => ?_⟩⟩⟩
        · rw [e, n1, nA]; exact new (Or.inl z)
        · rw [e, n1, nA]; exact old (Or.inl (by omega))
        · rw [e, n1, nA]; exact old (Or.inr ⟨z2, z3⟩)
        · rw [e, n1, nA]; exact new (Or.inr ⟨z2, by omega⟩)
  exact lp _ 0 99 0 (Nat.zero_le _) (Nat.lt_succ_self _) (by decide) (by decide) (fun _ => rfl) (fun w => absurd w (by decide)) (fun j hj => absurd hj (Nat.not_lt_zero _))
theorem c_stratum (hS : SIMC M G) (hW : WFG B G) (hB : B ≤ 1100000) {p1 p2 p3 : Int32} {Q : Int32 → MEM → Prop} {X : String → MEM → Prop}
    (x1 : ¬ (rng p1 0 3 ∧ rng p2 0 3) → X "java/lang/IndexOutOfBoundsException" M) (x2 : rng p1 0 3 ∧ rng p2 0 3 → ¬ rng p3 0 5 → X "java/lang/IllegalArgumentException" M)
    (x3 : ∀ s, s < 4 → p1 = nI s → rng p2 0 3 → rng p3 0 5 → sH ((gCur G).1 s) = false → X "java/lang/IllegalStateException" M)
    (hQ : ∀ s t w, s < 4 → p1 = nI s → t < 4 → p2 = nI t → w ≤ 5 → p3 = nI w → sH ((gCur G).1 s) = true → ∀ M', SIMC M' G → EqR M M' → Q (strA ((gCur G).1 s) t w (sN ((gCur G).1 s))) M') : wp_X5_stratum 1 p1 p2 p3 M Q X := by
  have sm : smp 16 15 := Or.inl ⟨rfl, rfl⟩
  refine ⟨rfl, s_slotAt (fun s hs e => ?_) (fun w => x1 (fun q => w q.1))⟩
  subst e
  have hc0 := hS.cs hW hB hs
  refine s_w32 0 3 (by decide) (by decide) (fun r2 => ⟨fun _ => ?_, fun e => absurd e (by decide)⟩) (fun r2 => ⟨fun e => absurd rfl e, fun _ => x1 (fun q => r2 q.2)⟩)
  refine s_w32 0 5 (by decide) (by decide) (fun r3 => s_need (fun _ => ?_) (fun e => absurd e (by decide))) (fun r3 => s_need (fun e => absurd rfl e) (fun _ => x2 ⟨rng_slot hs, r2⟩ r3))
  refine c_filled hc0 (fun ha => ?_) (x3 s hs rfl r2 r3)
  obtain ⟨t, ht, e2⟩ := slot_rng r2
  obtain ⟨w, e3, -, w2, -⟩ := rng_nI r3 (by decide)
  subst e2; subst e3
  refine s_find hS hc0 ha (fun M' hP hc S' E' => ?_)
  have hfin := hQ s t w hs rfl ht rfl (by omega) rfl ha M' S' E'
  generalize hga : (gCur G).1 s = a at *
  have hn := hc.n
  have lp : ∀ f m (od : Int32), (od = nI (w % 2)) → m ≤ sN a → sN a - m < f → wp_X5_stratum_L56 (nI t) (nI w) Q (100 + s) 16 M' od f (strA a t w m) (nI m) := by
    intro f
    induction f with
    | zero => intro m od _ _ h9; omega
    | succ f ih =>
      intro m od hod hm hf
      refine ⟨hc.kd, s_count hc.1 hc.h1 hc.h2 ?_⟩
      rw [nI_leI (by omega) (by omega)]
      refine ⟨fun q => ?_, fun q => c_part hc (p := 2) (by decide) (by omega) ?_⟩
      · rw [show m = sN a by omega]; exact hfin
      · have h9 := ih (m + 1) od hod (by omega) (by omega)
        unfold strA at h9
        have hs4 : stA a m < 4 := hc.str m
        show (¬ nI (stA a m) = nI t → _) ∧ (nI (stA a m) = nI t → _)
        rw [nI_eq (by omega) (by omega)]
        have j93 : stA a m = t → (w % 2 = 1 → m ∈ CH a) → wp_X5_stratum_J93 (nI w) (100 + s) M' (wp_X5_stratum_L56 (nI t) (nI w) Q (100 + s) 16 M' od f) (strA a t w m) (nI m) := fun e1 e2 => by
          rw [if_pos ⟨e1, e2⟩] at h9
          unfold wp_X5_stratum_J93
          rw [n2, n4, nI_leI (by omega) (by omega), nI_leI (by omega) (by omega)]
          refine ⟨fun z => ⟨fun z2 => c_part hc (p := 3) (by decide) (by omega) (fun x7 e7 x8 e8 => ?_), fun z2 => c_part hc (p := 4) (by decide) (by omega) (fun x7 e7 x8 e8 => ?_)⟩, fun z x7 e7 x8 e8 => ?_⟩
          · rw [if_neg (by omega), if_neg (by omega)] at h9
            rw [e7, e8, n1, nA]; exact h9
          · rw [if_neg (by omega), if_pos (by omega)] at h9
            rw [e7, e8, n1, nA]; exact h9
          · rw [if_pos (by omega)] at h9
            rw [e7, e8, nI_1]; exact h9
        refine ⟨fun c x8 e8 => ?_, fun c => ⟨fun z => j93 c (fun z2 => ?_), fun z => ⟨rfl, f_pos sm hc hP (by omega) ?_⟩⟩⟩
        · rw [if_neg (fun z => c z.1)] at h9
          rw [e8, n1, nA]; exact h9
        · rw [hod, z2] at z; exact absurd z (by decide)
        · obtain ⟨pn, -⟩ := pos_neg hc m
          rw [pn]
          refine ⟨fun z2 x8 e8 => ?_, fun z2 => j93 c (fun _ => Decidable.not_not.mp z2)⟩
          have hw1 : w % 2 = 1 := by
            rcases Nat.mod_two_eq_zero_or_one w with q0 | q0
            · rw [hod, q0] at z; exact absurd rfl z
            · exact q0
          rw [if_neg (fun z3 => z2 (z3.2 hw1))] at h9
          rw [e8, n1, nA]; exact h9
  have e0 : strA a t w 0 = 0 := rfl
  rw [nI_rem2 (by omega)]
  refine ⟨fun q => ⟨sN a + 1, ?_⟩, fun q => ⟨sN a + 1, ?_⟩⟩
  · have : w % 2 = 0 := by
      rcases Nat.mod_two_eq_zero_or_one w with q0 | q0
      · exact q0
      · rw [q0] at q; exact absurd rfl q
    exact lp _ 0 0 (by rw [this]; rfl) (Nat.zero_le _) (by omega)
  · have : w % 2 = 1 := by
      rcases Nat.mod_two_eq_zero_or_one w with q0 | q0
      · rw [q0] at q; exact absurd q (by decide)
      · exact q0
    exact lp _ 0 1 (by rw [this]; rfl) (Nat.zero_le _) (by omega)
theorem c_truth (hS : SIMC M G) (hW : WFG B G) (hB : B ≤ 1100000) {p1 p2 : Int32} {Q : Int64 → MEM → Prop} {X : String → MEM → Prop}
    (x1 : ¬ rng p1 0 3 → X "java/lang/IndexOutOfBoundsException" M) (x2 : rng p1 0 3 → ¬ rng p2 0 2 → X "java/lang/IllegalArgumentException" M)
    (x3 : ∀ s, s < 4 → p1 = nI s → rng p2 0 2 → sH ((gCur G).1 s) = false → X "java/lang/IllegalStateException" M)
    (hQ : ∀ s w, s < 4 → p1 = nI s → p2 = nI w → w ≤ 2 → sH ((gCur G).1 s) = true → ∀ M', SIMC M' G → EqR M M' → Q (trA ((gCur G).1 s) w (sN ((gCur G).1 s))) M') : wp_X5_truth 1 p1 p2 M Q X := by
  have sm : smp 16 15 := Or.inl ⟨rfl, rfl⟩
  refine ⟨rfl, s_slotAt (fun s hs e => ?_) x1⟩
  subst e
  have hc0 := hS.cs hW hB hs
  refine s_w32 0 2 (by decide) (by decide) (fun r3 => s_need (fun _ => ?_) (fun e => absurd e (by decide))) (fun r3 => s_need (fun e => absurd rfl e) (fun _ => x2 (rng_slot hs) r3))
  refine c_filled hc0 (fun ha => ?_) (x3 s hs rfl r3)
  obtain ⟨w, e3, -, w2, -⟩ := rng_nI r3 (by decide)
  subst e3
  refine s_find hS hc0 ha (fun M' hP hc S' E' => ?_)
  have hfin := hQ s w hs rfl rfl (by omega) ha M' S' E'
  generalize hga : (gCur G).1 s = a at *
  have hn := hc.n
  have lp : ∀ f m, m ≤ sN a → sN a - m < f → wp_X5_truth_L35 (nI w) Q (100 + s) 16 M' f (trA a w m) (nI m) := by
    intro f
    induction f with
    | zero => intro m _ h9; omega
    | succ f ih =>
      intro m hm hf
      refine ⟨hc.kd, s_count hc.1 hc.h1 hc.h2 ?_⟩
      rw [nI_leI (by omega) (by omega)]
      refine ⟨fun q => ?_, fun q => ⟨rfl, f_rank sm hc hP (i := m) (by omega) ?_⟩⟩
      · rw [show m = sN a by omega]; exact hfin
      · have h9 := ih (m + 1) (by omega) (by omega)
        unfold trA at h9
        have hrk := rnk_lt hc m
        by_cases c : candA a m = true
        · rw [if_pos c] at h9 ⊢
          refine ⟨fun z => absurd z (nI_pos (by omega)), fun _ => ?_⟩
          rw [n0, n1, nI_eq (by omega) (by omega), nI_eq (by omega) (by omega)]
          refine ⟨fun z => ⟨fun z2 => c_part hc (p := 3) (by decide) (by omega) (fun x5 e5 x7 e7 => ?_), fun z2 => c_part hc (p := 4) (by decide) (by omega) (fun x5 e5 x7 e7 => ?_)⟩, fun z x5 e5 x7 e7 => ?_⟩
          · rw [if_neg z, if_neg z2] at h9
            rw [e5, e7, nA]; exact h9
          · rw [if_neg z, if_pos z2] at h9
            rw [e5, e7, nA]; exact h9
          · rw [if_pos z] at h9
            rw [e5, e7, nA]; exact h9
        · rw [if_neg c] at h9 ⊢
          refine ⟨fun _ x7 e7 => by rw [e7, n1, nA]; exact h9, fun z => absurd (by decide) z⟩
  exact ⟨sN a + 1, lp _ 0 (Nat.zero_le _) (by omega)⟩
end PQ3
