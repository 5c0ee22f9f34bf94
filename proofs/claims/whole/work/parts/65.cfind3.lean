-- PURE: the class finds the sample, whole
/-- what stands after the search -/
def SMP (M : MEM) (o d h : Nat) (a : SLT) : Prop :=
  mO M o = h ∧ mI M o 1 = nI (ordR a).length ∧ Arr M (d + 4) (ordC a) ∧ mI M o 2 = nI (CH a).length ∧ Arr M (d + 6) (CH a) ∧
  (∀ i, i < sN a → mI M (d + 5) i = if candA a i = true then nI (rnkA a i) else -1) ∧ (∀ i, i < sN a → mI M (d + 7) i = if i ∈ CH a then nI ((CH a).idxOf i) else -1) ∧
  ∀ i, i < sN a → mL M (d + 3) i = lN (mx a i)
/-- only the sample's own cells -/
def FrS (o d : Nat) (M M' : MEM) : Prop := (∀ b, b ≠ o → (b < d + 4 ∨ d + 7 < b) → ∀ j, mI M' b j = mI M b j) ∧ (∀ b, b ≠ d + 3 → ∀ j, mL M' b j = mL M b j) ∧ ∀ b, b ≠ o → mO M' b = mO M b
theorem FrS.trans {o d : Nat} {M M1 M2 : MEM} (h1 : FrS o d M M1) (h2 : FrS o d M1 M2) : FrS o d M M2 :=
  ⟨fun b p q j => (h2.1 b p q j).trans (h1.1 b p q j), fun b p j => (h2.2.1 b p j).trans (h1.2.1 b p j), fun b p => (h2.2.2 b p).trans (h1.2.2 b p)⟩
theorem FrQ.S {o d : Nat} {M M' : MEM} (h : FrQ o d M M') : FrS o d M M' :=
  ⟨h.1, fun b _ j => by show M'.2.1 b j = M.2.1 b j; rw [h.2], fun b _ => by show M'.2.2.1 b = M.2.2.1 b; rw [h.2]⟩
section PF3
variable {M : MEM} {o d h nx : Nat} {a : SLT}
theorem FrS.cs {M' : MEM} (hc : CS nx M h a) (s : smp o d) (hF : FrS o d M M') : CS nx M' h a := by
  obtain ⟨o1, o2, o3, o4⟩ := smp_lt s
  exact hc.of (fun b hb j => hF.1 b (by have := hc.h1; unfold inH at hb; omega) (by have := hc.h1; unfold inH at hb; omega) j)
theorem f_cand (s : smp o d) {l : List Nat} (hl : l.length ≤ 60) (h1 : mI M o 1 = nI l.length) (hA : Arr M (d + 4) l) {k : Nat} (hk : k < l.length) {Q : Int32 → Prop} (hQ : Q (nI (gd l k))) : wp_X3_candidateAt o (nI k) M Q := by
  refine ⟨smp_o s, fun w => absurd w (nI_pos (by omega)), fun _ => ⟨fun w => ?_, fun _ => ⟨fun _ => ?_, fun w => absurd (nI_lt (b := 60) (by omega) (by decide)) w⟩⟩⟩
  · rw [h1] at w; exact absurd w (nI_ge hk (by omega))
  · rw [smp_r s (by decide) (by decide)]
    exact ⟨smp_k s (by decide) (by decide), nV (by omega) (by decide), by rw [nC (by omega), hA k hk]; exact hQ⟩
theorem f_choose (s : smp o d) (hO : mO M o = h) (hc : CS nx M h a) (ha : sH a = true) (hP : CHP M o d a (ordC a) 0) {Q : MEM → Prop} (hQ : ∀ M', CHP M' o d a (ordC a) (ordC a).length → FrQ o d M M' → Q M') : wp_X3_choose o M Q := by
  have hn := hc.n
  have hl60 : (ordC a).length ≤ sN a := by rw [ord_len]; exact ordR_le
  refine ⟨smp_o s, (ordC a).length + 1, ?_⟩
  have lp : ∀ f k M1 x1, k ≤ (ordC a).length → (ordC a).length - k < f → CHP M1 o d a (ordC a) k → FrQ o d M M1 → x1 = (if k = 0 then -1 else nI (rkA a (ordC a) (k - 1))) → wp_X3_choose_L4 o Q f x1 (nI k) M1 := by
    intro f
    induction f with
    | zero => intro k M1 x1 _ h9; omega
    | succ f ih =>
      intro k M1 x1 hk hf hP1 hF1 hx
      have hc1 : CS nx M1 h a := FrQ.cs hc s hF1
      have eO : mO M1 o = h := by show M1.2.2.1 o = h; rw [hF1.2]; exact hO
      obtain ⟨e1, -, -, -, -⟩ := hc1.1.2.2.2 ha
      obtain ⟨v1, -⟩ := hc.2.1.2.2.1 ha
      unfold wp_X3_choose_L4
      rw [hP1.1]
      refine ⟨fun w => ?_, fun w => ?_⟩
      · have : (ordC a).length ≤ k := (nI_leI (by omega) (by omega)).mp w
        rw [show k = (ordC a).length by omega] at hP1
        exact hQ M1 hP1 hF1
      · have hk' : k < (ordC a).length := Nat.not_le.mp (fun q => w (nI_le q (by omega)))
        have go : ∀ x1', x1' = nI (rkA a (ordC a) k) → wp_X3_place o (nI (gd (ordC a) k)) x1' M1 (fun M_9 => ∀ x2_10 : Int32, x2_10 = nI k + 1 → (wp_X3_choose_L4 o Q f x1' x2_10 M_9)) := fun x1' e1' => by
          rw [e1']
          refine f_place s eO hc1 ha hk' hP1 (fun M2 hP2 hF2 x2 e2 => ?_)
          rw [e2, n1, nA]
          exact ih (k + 1) M2 _ (by omega) (by omega) hP2 (hF1.trans hF2) (by rw [if_neg (by omega), Nat.add_sub_cancel])
        have j65 : rkA a (ordC a) k = 0 → wp_X3_choose_J65 o (wp_X3_choose_L4 o Q f) x1 (nI k) M1 (nI (gd (ordC a) k)) 1 := fun e => ⟨fun z => absurd z (by decide), fun _ => go 0 (by rw [e]; rfl)⟩
        have j64 : x1 + 1 = nI (rkA a (ordC a) k) → wp_X3_choose_J64 o (wp_X3_choose_L4 o Q f) x1 (nI k) M1 (nI (gd (ordC a) k)) := fun e => ⟨fun _ x e2 => by rw [e2]; exact go (x1 + 1) e, fun z => absurd rfl z⟩
        refine f_cand s (by omega) hP1.1 hP1.2.1 hk' ⟨fun z => ?_, fun z => ?_⟩
        · have hk0 : k = 0 := by have := (nI_leI (b := 0) (by omega) (by decide)).mp z; omega
          subst hk0
          exact j64 (by rw [hx, if_pos rfl]; exact (by decide : (-1 : Int32) + 1 = nI 0))
        · obtain ⟨k, rfl⟩ : ∃ j, k = j + 1 := ⟨k - 1, by have : k ≠ 0 := fun e => z (by rw [e]; decide); omega⟩
          rw [if_neg (by omega), Nat.add_sub_cancel] at hx
          have hrs : rkA a (ordC a) (k + 1) = if sK a = 2 ∧ stA a (gd (ordC a) (k + 1)) ≠ stA a (gd (ordC a) k) then 0 else rkA a (ordC a) k + 1 := rfl
          have hx1 : x1 + 1 = nI (rkA a (ordC a) k + 1) := by rw [hx, n1, nA]
          have hg : ∀ j, j < (ordC a).length → gd (ordC a) j < sN a := fun j hj => by
            have : gd (ordC a) j ∈ ordC a := by rw [gd_eq hj]; exact List.getElem_mem _
            exact (ordC_mem.mp this).1
          have g1 := hg (k + 1) hk'
          have g2 := hg k (by omega)
          rw [eO, e1]
          refine ⟨hc.kd, fun q => j64 ?_, fun q => c_part hc1 (p := 2) (by decide) (by omega) ?_⟩
          · rw [hx1, hrs, if_neg (fun w2 => q (by rw [w2.1]; rfl))]
          · rw [n1, nm1]
            refine f_cand s (by omega) hP1.1 hP1.2.1 (by omega) (c_part hc1 (p := 2) (by decide) (by omega) ⟨fun q2 => j64 ?_, fun q2 => j65 ?_⟩)
            · have := (nI_eq (Nat.lt_trans (hc.str _) (by decide)) (Nat.lt_trans (hc.str _) (by decide))).mp q2
              rw [hx1, hrs, if_neg (fun w2 => w2.2 this)]
            · have hk2 : sK a = 2 := (nI_eq (b := 2) (by omega) (by decide)).mp q
              rw [hrs, if_pos ⟨hk2, fun e => q2 (congrArg nI e)⟩]
  exact lp _ 0 M (-1) (Nat.zero_le _) (by omega) hP ⟨fun _ _ _ _ => rfl, rfl⟩ (by rw [if_pos rfl])
theorem f_find (s : smp o d) (hc : CS nx M h a) (ha : sH a = true) {Q : MEM → Prop} (hQ : ∀ M', SMP M' o d h a → FrS o d M M' → Q M') : wp_X3_find o h M Q := by
  obtain ⟨o1, o2, o3, o4⟩ := smp_lt s
  have hne : o ≠ d + 4 ∧ o ≠ d + 5 ∧ o ≠ d + 6 ∧ o ≠ d + 7 := by rcases s with ⟨rfl, rfl⟩ | ⟨rfl, rfl⟩ <;> decide
  have hn := hc.n
  have hst : ∀ i, stA a i < 4 := fun i => hc.str i
  refine ⟨smp_o s, fun M1 e1 M2 e2 M3 e3 => ⟨hc.kd, ?_⟩⟩
  have F3 : FrS o d M M3 := ⟨fun b q1 q2 j => by rw [e3, rd_ne (by omega), e2, rd_ne (by omega), e1]; rfl, fun b _ j => by rw [e3, e2, e1]; rfl, fun b hb => by rw [e3, e2, e1]; show (if b = o then h else mO M b) = _; rw [if_neg hb]⟩
  have c3 : CS nx M3 h a := FrS.cs hc s F3
  refine s_count c3.1 c3.h1 c3.h2 (fun v ev => ⟨sN a + 1, ?_⟩)
  have ev' : v = nI (sN a) := by
    rw [ev]
    by_cases q : 60 < sN a
    · omega
    · exact if_neg (nI_nlt (a := 60) (b := sN a) (Nat.not_lt.mp q) (by decide))
  subst ev'
  have lp : ∀ f i M1, i ≤ sN a → sN a - i < f → FrS o d M M1 → mO M1 o = h → mI M1 o 1 = nI (ordB (befC a) (candA a) i).length → mI M1 o 2 = 0 → Arr M1 (d + 4) (ordB (befC a) (candA a) i) → (∀ j, j < i → mI M1 (d + 5) j = -1 ∧ mI M1 (d + 7) j = -1 ∧ mL M1 (d + 3) j = lN (mx a j)) → wp_X3_find_L27 o h Q (nI (sN a)) f (nI i) M1 := by
    intro f
    induction f with
    | zero => intro i M1 _ h9; omega
    | succ f ih =>
      intro i M1 hi hf hF1 hO1 hc1 hz1 hA1 hj1
      have cs1 : CS nx M1 h a := FrS.cs hc s hF1
      unfold wp_X3_find_L27
      refine ⟨fun w => ?_, fun w => ?_⟩
      · have : i = sN a := by have := (nI_leI (by omega) (by omega)).mp w; omega
        subst this
        have hP : CHP M1 o d a (ordC a) 0 := by
          refine ⟨hc1, hA1, hz1, fun k hk => absurd hk (Nat.not_lt_zero _), fun i hi => ?_, fun i hi => ?_⟩
          · rw [(hj1 i hi).1, List.take_zero, if_neg List.not_mem_nil]
          · rw [(hj1 i hi).2.1]; show _ = if i ∈ [] then _ else _; rw [if_neg List.not_mem_nil]
        refine f_choose s hO1 cs1 ha hP (fun M2 hP2 hF2 => ?_)
        obtain ⟨p1, p2, p3, p4, p5, p6⟩ := hP2
        rw [ch_eq hst] at p3 p4 p6
        rw [List.take_length] at p5
        refine hQ M2 ⟨by show M2.2.2.1 o = h; rw [hF2.2]; exact hO1, by rw [← ord_len]; exact p1, p2, p3, p4, fun i hi => ?_, p6, fun i hi => ?_⟩ (hF1.trans hF2.S)
        · rw [p5 i hi]
          by_cases c : candA a i = true
          · rw [if_pos (ordC_mem.mpr ⟨hi, c⟩), if_pos c]
          · rw [if_neg (fun w => c (ordC_mem.mp w).2), if_neg c]
        · show M2.2.1 (d + 3) i = _
          rw [hF2.2]; exact (hj1 i hi).2.2
      · have hi' : i < sN a := Nat.not_le.mp (fun q => w (nI_le q (by omega)))
        obtain ⟨v1, -⟩ := hc.2.1.2.2.1 ha
        rw [smp_r s (k := 3) (by decide) (by decide), smp_r s (k := 5) (by decide) (by decide), smp_r s (k := 7) (by decide) (by decide)]
        refine s_mixAt cs1.1 cs1.h1 cs1.h2 ha hn v1 (by omega) ⟨smp_k3 s, nV (by omega) (by decide), fun M16 e16 => ⟨smp_k s (by decide) (by decide), nV (by omega) (by decide), fun M19 e19 => ⟨smp_k s (by decide) (by decide), nV (by omega) (by decide), fun M22 e22 => ?_⟩⟩⟩
        rw [nC (by omega)] at e16 e19 e22
        have iO : ∀ b, b ≠ d + 5 → b ≠ d + 7 → ∀ j, mI M22 b j = mI M1 b j := fun b h5 h7 j => by rw [e22, rd_ne (by omega), e19, rd_ne (by omega), e16]; rfl
        have F22 : FrS o d M1 M22 := ⟨fun b q1 q2 j => iO b (by omega) (by omega) j, fun b hb j => by rw [e22, e19, e16]; show (if b = d + 3 ∧ j = i then _ else mL M1 b j) = _; rw [if_neg (fun w => hb w.1)], fun b hb => by rw [e22, e19, e16]; rfl⟩
        have c22 : CS nx M22 h a := FrS.cs cs1 s F22
        have o22 : mO M22 o = h := by rw [e22, e19, e16]; exact hO1
        have m22 : ∀ j, j < i + 1 → mI M22 (d + 5) j = -1 ∧ mI M22 (d + 7) j = -1 ∧ mL M22 (d + 3) j = lN (mx a j) := fun j hj => by
          have hL : mL M22 (d + 3) j = if j = i then lN (mx a i) else mL M1 (d + 3) j := by
            rw [e22, e19, e16]
            show (if d + 3 = d + 3 ∧ j = i then _ else mL M1 (d + 3) j) = _
            by_cases c : j = i
            · rw [if_pos ⟨rfl, c⟩, if_pos c]; rfl
            · rw [if_neg (fun w => c w.2), if_neg c]
          rw [hL]
          by_cases c : j = i
          · subst c
            refine ⟨by rw [e22, rd_ne (by omega), e19, rd_eq], by rw [e22, rd_eq], by rw [if_pos rfl]⟩
          · have := hj1 j (by omega)
            refine ⟨by rw [e22, rd_ne (by omega), e19, rd_ne (by omega), e16]; exact this.1, by rw [e22, rd_ne (by omega), e19, rd_ne (by omega), e16]; exact this.2.1, by rw [if_neg c]; exact this.2.2⟩
        have hlen : (ordB (befC a) (candA a) i).length ≤ i := by rw [ordB_len]; exact cntF_le _ _
        have k1 : mI M22 o 1 = nI (ordB (befC a) (candA a) i).length := by rw [iO o (by omega) (by omega)]; exact hc1
        have kz : mI M22 o 2 = 0 := by rw [iO o (by omega) (by omega)]; exact hz1
        have kA : Arr M22 (d + 4) (ordB (befC a) (candA a) i) := fun k hk => by rw [iO _ (by omega) (by omega)]; exact hA1 k hk
        have ho : ordB (befC a) (candA a) (i + 1) = if candA a i = true then insB (befC a i) (ordB (befC a) (candA a) i) i else ordB (befC a) (candA a) i := rfl
        have ins : candA a i = true → wp_X3_insert o (nI i) M22 (fun M_24 => ∀ x3_25 : Int32, x3_25 = nI i + 1 → (wp_X3_find_L27 o h Q (nI (sN a)) f x3_25 M_24)) := fun hcd => by
          refine f_insert s o22 c22 ha hi' (fun x hx => by have := (ordB_mem.mp hx).1; omega) (by omega) k1 kA (m22 i (by omega)).2.2 (fun x hx => (m22 x (by have := (ordB_mem.mp hx).1; omega)).2.2) (fun M24 a24 b24 f24 g24 h24 x3 e3 => ?_)
          rw [e3, n1, nA]
          have F24 : FrS o d M22 M24 := ⟨fun b q1 q2 j => f24 b (by omega) q1 j, fun b hb j => by show M24.2.1 b j = M22.2.1 b j; rw [h24], fun b hb => by show M24.2.2.1 b = M22.2.2.1 b; rw [h24]⟩
          refine ih (i + 1) M24 (by omega) (by omega) ((hF1.trans F22).trans F24) (by show M24.2.2.1 o = h; rw [h24]; exact o22) ?_ (by rw [g24 2 (by decide)]; exact kz) ?_ (fun j hj => ?_)
          · rw [b24, ho, if_pos hcd, insB_len]
          · rw [ho, if_pos hcd]; exact a24
          · obtain ⟨q1, q2, q3⟩ := m22 j hj
            exact ⟨by rw [f24 _ (by omega) (by omega)]; exact q1, by rw [f24 _ (by omega) (by omega)]; exact q2, by show M24.2.1 _ _ = _; rw [h24]; exact q3⟩
        rw [(c22.1.2.2.2 ha).1]
        refine ⟨fun q => ins ?_, fun q => ?_⟩
        · unfold candA; rw [if_neg (fun e => q (by rw [e]; rfl))]
        · have hk3 : sK a = 3 := (nI_eq (b := 3) (by omega) (by decide)).mp q
          have hcd : candA a i = firstK a i := by unfold candA; rw [if_pos hk3]
          refine c_first c22 hi' ⟨fun z x3 e3 => ?_, fun z => ins ?_⟩
          · have hnf : ¬ candA a i = true := fun w => by rw [← hcd, if_pos w] at z; exact absurd z (by decide)
            rw [e3, n1, nA]
            refine ih (i + 1) M22 (by omega) (by omega) (hF1.trans F22) o22 (by rw [k1, ho, if_neg hnf]) kz (by rw [ho, if_neg hnf]; exact kA) m22
          · rw [hcd]
            exact Decidable.byContradiction (fun w => by rw [if_neg w] at z; exact z rfl)
  refine lp _ 0 M3 (Nat.zero_le _) (by omega) F3 (by rw [e3, e2, e1]; show (if o = o then h else _) = h; rw [if_pos rfl]) (by rw [e3, rd_ne (by omega), e2, rd_eq]; rfl) (by rw [e3, rd_eq]) (fun k hk => absurd hk (Nat.not_lt_zero _)) (fun j hj => absurd hj (Nat.not_lt_zero _))
end PF3
