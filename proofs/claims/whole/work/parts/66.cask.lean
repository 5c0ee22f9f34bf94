-- PURE: what the class is asked of a list and of its sample
section PQ1
variable {M : MEM} {o d h nx B : Nat} {a : SLT} {G : GST}
theorem FrS.sim {M' : MEM} (s : smp o d) (hF : FrS o d M M') (hS : SIMC M G) : SIMC M' G ∧ EqR M M' := by
  obtain ⟨o1, o2, o3, o4⟩ := smp_lt s
  exact ⟨hS.of (fun b hb j => hF.1 b (by unfold liveC at hb; omega) (by unfold liveC at hb; omega) j), fun b p q j => hF.1 b (by omega) (by omega) j⟩
/-- the search in an empty slot -/
theorem f_find0 (s : smp o d) (hc : CS nx M h a) (h0 : sN a = 0) {Q : MEM → Prop} (hQ : ∀ M', FrS o d M M' → Q M') : wp_X3_find o h M Q := by
  obtain ⟨o1, o2, o3, o4⟩ := smp_lt s
  refine ⟨smp_o s, fun M1 e1 M2 e2 M3 e3 => ⟨hc.kd, ?_⟩⟩
  have F3 : FrS o d M M3 := ⟨fun b q1 q2 j => by rw [e3, rd_ne (by omega), e2, rd_ne (by omega), e1]; rfl, fun b _ j => by rw [e3, e2, e1]; rfl, fun b hb => by rw [e3, e2, e1]; show (if b = o then h else mO M b) = _; rw [if_neg hb]⟩
  have c3 : CS nx M3 h a := FrS.cs hc s F3
  refine s_count c3.1 c3.h1 c3.h2 (fun v ev => ⟨1, ?_⟩)
  rw [h0] at ev
  have ev' : v = nI 0 := ev.trans (if_neg (by decide))
  subst ev'
  refine ⟨fun _ => ⟨smp_o s, 1, ⟨fun _ => hQ M3 F3, fun w => absurd ?_ w⟩⟩, fun w => absurd (by decide) w⟩
  rw [e3, rd_ne (by omega), e2, rd_eq]; decide
theorem c_needItem (hc : CS nx M h a) {p : Int32} {Q : Prop} {X : String → Prop} (h0 : sH a = false → Q) (h1 : ∀ i, sH a = true → p = nI i → i < sN a → Q) (hx : sH a = true → ¬ rng p 0 ((sN a : Int) - 1) → X "java/lang/IndexOutOfBoundsException") : wp_X5_needItem h p M Q X := by
  have hn := hc.n
  refine ⟨hc.kd, s_isFilled hc.1 hc.h1 hc.h2 ⟨fun c => ?_, fun c => ?_⟩⟩
  · refine h0 ?_
    cases hs : sH a with
    | false => rfl
    | true => rw [hs, if_pos rfl] at c; exact absurd c (by decide)
  · have hs : sH a = true := by
      cases hs : sH a with
      | true => rfl
      | false => rw [hs] at c; exact absurd rfl c
    refine s_count hc.1 hc.h1 hc.h2 (s_w32 0 ((sN a : Int) - 1) (by decide) ?_ (fun r => ⟨fun _ => ?_, fun e => absurd e (by decide)⟩) (fun r => ⟨fun e => absurd rfl e, fun _ => hx hs r⟩))
    · rw [Int32.toInt_toInt64]
      exact pk_sub_toInt (a := sN a) (b := 1) (by omega) (by decide)
    · obtain ⟨i, e, -, hi, -⟩ := rng_nI r (by decide)
      exact h1 i hs e (by omega)
theorem s_find {Q : Nat → MEM → Prop} (hS : SIMC M G) (hc : CS nx M h a) (ha : sH a = true) (hQ : ∀ M', SMP M' 16 15 h a → CS nx M' h a → SIMC M' G → EqR M M' → Q 16 M') : wp_X5_sampleOf 1 h M Q := by
  have s : smp 16 15 := Or.inl ⟨rfl, rfl⟩
  refine ⟨rfl, rfl, f_find s hc ha (fun M' hP hF => ?_)⟩
  obtain ⟨S', E'⟩ := hF.sim s hS
  exact hQ M' hP (FrS.cs hc s hF) S' E'
theorem CH_mem {x : Nat} (hst : ∀ i, stA a i < 4) (h : x ∈ CH a) : x < sN a ∧ candA a x = true := by
  rw [← ch_eq hst] at h
  have := (chA_sub (a := a) (ordC a) _ (Nat.le_refl _)).subset h
  rw [List.take_length] at this
  exact ordC_mem.mp this
theorem CH_nd (hst : ∀ i, stA a i < 4) : (CH a).Nodup := by
  rw [← ch_eq hst]
  have := chA_sub (a := a) (ordC a) _ (Nat.le_refl _)
  rw [List.take_length] at this
  exact (ordB_nd _).sublist this
theorem CH_le (hst : ∀ i, stA a i < 4) : (CH a).length ≤ (ordR a).length := by
  rw [← ch_eq hst, ← ord_len]
  have := chA_sub (a := a) (ordC a) _ (Nat.le_refl _)
  rw [List.take_length] at this
  exact this.length_le
theorem CS.st (hc : CS nx M h a) : ∀ i, stA a i < 4 := fun i => hc.str i
theorem CH_60 (hc : CS nx M h a) : (CH a).length ≤ 60 := Nat.le_trans (CH_le hc.st) (Nat.le_trans ordR_le hc.n)
theorem CH_gd (hc : CS nx M h a) {k : Nat} (hk : k < (CH a).length) : gd (CH a) k < sN a := by
  have : gd (CH a) k ∈ CH a := by rw [gd_eq hk]; exact List.getElem_mem _
  exact (CH_mem hc.st this).1
theorem f_size (s : smp o d) (hP : SMP M o d h a) {Q : Int32 → Prop} (hQ : Q (nI (CH a).length)) : wp_X3_size o M Q := ⟨smp_o s, by rw [hP.2.2.2.1]; exact hQ⟩
theorem f_complete (s : smp o d) (hc : CS nx M h a) (hP : SMP M o d h a) {Q : Int32 → Prop} (hQ : Q (if (CH a).length = (ordR a).length then 1 else 0)) : wp_X3_isComplete o M Q := by
  have h1 := CH_60 hc
  have h2 := Nat.le_trans (ordR_le (a := a)) hc.n
  refine ⟨smp_o s, ?_⟩
  rw [hP.2.2.2.1, hP.2.1, nI_eq (by omega) (by omega)]
  exact ⟨fun c => by rw [if_neg c] at hQ; exact hQ, fun c => by rw [if_pos c] at hQ; exact hQ⟩
theorem f_chosen (s : smp o d) (hc : CS nx M h a) (hP : SMP M o d h a) {k : Nat} (hk : k < (CH a).length) {Q : Int32 → Prop} (hQ : Q (nI (gd (CH a) k))) : wp_X3_chosenAt o (nI k) M Q := by
  have h1 := CH_60 hc
  refine ⟨smp_o s, fun w => absurd w (nI_pos (by omega)), fun _ => ⟨fun w => ?_, fun _ => ⟨fun _ => ?_, fun w => absurd (nI_lt (b := 60) (by omega) (by decide)) w⟩⟩⟩
  · rw [hP.2.2.2.1] at w; exact absurd w (nI_ge hk (by omega))
  · rw [smp_r s (by decide) (by decide)]
    exact ⟨smp_k s (by decide) (by decide), nV (by omega) (by decide), by rw [nC (by omega), hP.2.2.2.2.1 k hk]; exact hQ⟩
theorem f_part (s : smp o d) (hc : CS nx M h a) (hP : SMP M o d h a) {k p : Nat} (hk : k < (CH a).length) (hp : p < 5) {Q : Int32 → Prop} (hQ : Q (pt (it a (gd (CH a) k)) p)) : wp_X3_partAt o (nI k) (nI p) M Q := by
  have h1 := CH_gd hc hk
  have hn := hc.n
  refine ⟨smp_o s, f_chosen s hc hP hk ?_⟩
  rw [hP.1]
  exact ⟨hc.kd, c_part hc hp (by omega) hQ⟩
theorem f_rank (s : smp o d) (hc : CS nx M h a) (hP : SMP M o d h a) {i : Nat} (hi : i < sN a) {Q : Int32 → Prop} (hQ : Q (if candA a i = true then nI (rnkA a i) else -1)) : wp_X3_rankOf o (nI i) M Q := by
  have hn := hc.n
  refine ⟨smp_o s, fun w => absurd w (nI_pos (by omega)), fun _ => ?_⟩
  rw [hP.1, smp_r s (by decide) (by decide)]
  refine ⟨hc.kd, s_count hc.1 hc.h1 hc.h2 ⟨fun w => absurd w (nI_ge hi (by omega)), fun _ => ⟨fun _ => ?_, fun w => absurd (nI_lt (b := 60) (by omega) (by decide)) w⟩⟩⟩
  exact ⟨smp_k s (by decide) (by decide), nV (by omega) (by decide), by rw [nC (by omega), hP.2.2.2.2.2.1 i hi]; exact hQ⟩
def posA (a : SLT) (i : Nat) : Int32 := if i ∈ CH a then nI ((CH a).idxOf i) else -1
theorem f_pos (s : smp o d) (hc : CS nx M h a) (hP : SMP M o d h a) {i : Nat} (hi : i < sN a) {Q : Int32 → Prop} (hQ : Q (posA a i)) : wp_X3_placeOf o (nI i) M Q := by
  have hn := hc.n
  refine ⟨smp_o s, fun w => absurd w (nI_pos (by omega)), fun _ => ?_⟩
  rw [hP.1, smp_r s (by decide) (by decide)]
  refine ⟨hc.kd, s_count hc.1 hc.h1 hc.h2 ⟨fun w => absurd w (nI_ge hi (by omega)), fun _ => ⟨fun _ => ?_, fun w => absurd (nI_lt (b := 60) (by omega) (by decide)) w⟩⟩⟩
  exact ⟨smp_k s (by decide) (by decide), nV (by omega) (by decide), by rw [nC (by omega), hP.2.2.2.2.2.2.1 i hi]; exact hQ⟩
theorem rnk_lt (hc : CS nx M h a) (i : Nat) : rnkA a i < 100 := by
  have hn := hc.n
  have h2 := ordR_le (a := a)
  unfold rnkA
  split
  · have h9 : (grpA a (stA a i)).length ≤ (ordR a).length := List.length_filter_le _ _
    have := List.idxOf_le_length (a := i) (l := grpA a (stA a i))
    omega
  · have := List.idxOf_le_length (a := i) (l := ordR a)
    omega
theorem pos_neg (hc : CS nx M h a) (i : Nat) : (posA a i < 0 ↔ i ∉ CH a) ∧ (0 ≤ posA a i ↔ i ∈ CH a) := by
  have h1 := CH_60 hc
  unfold posA
  by_cases c : i ∈ CH a
  · rw [if_pos c]
    have := List.idxOf_le_length (a := i) (l := CH a)
    exact ⟨⟨fun w => absurd w (nI_pos (by omega)), fun w => absurd c w⟩, ⟨fun _ => c, fun _ => nI_pos' (by omega)⟩⟩
  · rw [if_neg c]
    exact ⟨⟨fun _ => c, fun _ => by decide⟩, ⟨fun w => absurd w (by decide), fun w => absurd w c⟩⟩
def sumA (a : SLT) (w : Nat) : Int32 := match w with
  | 0 => nI (sK a) | 1 => nI (sZ a) | 2 => sS a | 3 => nI (sP a) | 4 => nI (sN a) | 5 => nI (CH a).length
  | 6 => if (CH a).length = (ordR a).length then 1 else 0 | _ => nI (cntF (firstK a) (sN a))
theorem c_summary (hS : SIMC M G) (hW : WFG B G) (hB : B ≤ 1100000) {p1 p2 : Int32} {Q : Int32 → MEM → Prop} {X : String → MEM → Prop}
    (x1 : ¬ rng p1 0 3 → X "java/lang/IndexOutOfBoundsException" M) (x2 : rng p1 0 3 → ¬ rng p2 0 7 → X "java/lang/IllegalArgumentException" M)
    (x3 : ∀ s, s < 4 → p1 = nI s → rng p2 0 7 → sH ((gCur G).1 s) = false → X "java/lang/IllegalStateException" M)
    (hQ : ∀ s w, s < 4 → p1 = nI s → p2 = nI w → w ≤ 7 → sH ((gCur G).1 s) = true → ∀ M', SIMC M' G → EqR M M' → Q (sumA ((gCur G).1 s) w) M') : wp_X5_summary 1 p1 p2 M Q X := by
  refine ⟨rfl, s_slotAt (fun s hs e => ?_) x1⟩
  subst e
  have hc := hS.cs hW hB hs
  have sm : smp 16 15 := Or.inl ⟨rfl, rfl⟩
  refine s_w32 0 7 (by decide) (by decide) (fun r2 => s_need (fun _ => ?_) (fun e => absurd e (by decide))) (fun r2 => s_need (fun e => absurd rfl e) (fun _ => x2 (rng_slot hs) r2))
  refine c_filled hc (fun ha => ?_) (x3 s hs rfl r2)
  obtain ⟨w, e2, -, hw, -⟩ := rng_nI r2 (by decide)
  subst e2
  have hQ' := fun w hw => hQ s w hs rfl hw
  clear hQ x1 x2 x3
  obtain ⟨e1, e2, e3, e4, -⟩ := hc.1.2.2.2 ha
  rw [e1, e2, e3, e4]
  have same : ∀ k, nI w = nI k → k ≤ 7 → w = k := fun k hk h7 => (nI_eq (by omega) (by omega)).mp hk
  have hw7 : w ≤ 7 := by omega
  refine ⟨fun c => ⟨hc.kd, c_diff hc ?_⟩, fun c => ⟨hc.kd, ?_⟩, fun c => ⟨hc.kd, ?_⟩, fun c => ⟨hc.kd, ?_⟩, fun c => ⟨hc.kd, ?_⟩, fun c => ⟨hc.kd, s_count hc.1 hc.h1 hc.h2 ?_⟩, fun c => s_find hS hc ha (fun M' hP hc' S' E' => ⟨rfl, f_size sm hP ?_⟩), fun c => s_find hS hc ha (fun M' hP hc' S' E' => ⟨rfl, f_complete sm hc' hP ?_⟩)⟩
  · rw [nI_toInt (by omega)] at c
    have : w = 7 := by omega
    subst this
    exact hQ' 7 rfl (by decide) ha M hS (EqR.refl M)
  · have := same 0 c (by decide); subst this; exact hQ' 0 rfl (by decide) ha M hS (EqR.refl M)
  · have := same 1 c (by decide); subst this; exact hQ' 1 rfl (by decide) ha M hS (EqR.refl M)
  · have := same 2 c (by decide); subst this; exact hQ' 2 rfl (by decide) ha M hS (EqR.refl M)
  · have := same 3 c (by decide); subst this; exact hQ' 3 rfl (by decide) ha M hS (EqR.refl M)
  · have := same 4 c (by decide); subst this; exact hQ' 4 rfl (by decide) ha M hS (EqR.refl M)
  · have := same 5 c (by decide); subst this; exact hQ' 5 rfl (by decide) ha M' S' E'
  · have := same 6 c (by decide)
    subst this
    have h6 := hQ' 6 rfl (by decide) ha M' S' E'
    have e6 : sumA ((gCur G).1 s) 6 = if (CH ((gCur G).1 s)).length = (ordR ((gCur G).1 s)).length then 1 else 0 := rfl
    rw [e6] at h6
    by_cases q : (CH ((gCur G).1 s)).length = (ordR ((gCur G).1 s)).length
    · rw [if_pos q] at h6 ⊢; exact ⟨fun z => absurd z (by decide), fun _ => h6⟩
    · rw [if_neg q] at h6 ⊢; exact ⟨fun _ => h6, fun z => absurd rfl z⟩
end PQ1
