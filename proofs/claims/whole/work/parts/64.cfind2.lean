-- PURE: the class finds the sample: the ranks, the chosen ones
theorem arr_app {M : MEM} {x : Nat} {l : List Nat} {i : Nat} (h : ∀ k, k < l.length → mI M x k = nI (gd l k)) (h2 : mI M x l.length = nI i) : Arr M x (l ++ [i]) := by
  intro k hk
  rw [List.length_append] at hk
  have hk' : k < l.length + 1 := hk
  have e : gd (l ++ [i]) k = if k < l.length then gd l k else i := by
    rw [gd_eq (by rw [List.length_append]; exact hk), List.getElem_append]
    split
    · rename_i c; rw [gd_eq c]
    · simp
  rw [e]
  split
  · rename_i c; exact h k c
  · rw [show k = l.length by omega]; exact h2
theorem idx_app {l : List Nat} {i x : Nat} (hn : i ∉ l) : (l ++ [i]).idxOf x = if x ∈ l then l.idxOf x else if x = i then l.length else l.length + 1 := by
  rw [List.idxOf_append]
  split
  · rfl
  · split
    · rename_i c e; subst e; rw [List.idxOf_cons_self, Nat.zero_add]
    · rename_i c e
      rw [List.idxOf_cons, show (i == x) = false by simp; exact fun w => e w.symm]
      simp [List.idxOf_nil]; omega
/-- what stands when k of the order are placed -/
def CHP (M : MEM) (o d : Nat) (a : SLT) (l : List Nat) (k : Nat) : Prop :=
  mI M o 1 = nI l.length ∧ Arr M (d + 4) l ∧ mI M o 2 = nI (chA a l k).length ∧ Arr M (d + 6) (chA a l k) ∧
  (∀ i, i < sN a → mI M (d + 5) i = if i ∈ l.take k then nI (rnkA a i) else -1) ∧ ∀ i, i < sN a → mI M (d + 7) i = if i ∈ chA a l k then nI ((chA a l k).idxOf i) else -1
/-- only the sample's own ints -/
def FrQ (o d : Nat) (M M' : MEM) : Prop := (∀ b, b ≠ o → (b < d + 4 ∨ d + 7 < b) → ∀ j, mI M' b j = mI M b j) ∧ M'.2 = M.2
theorem FrQ.trans {o d : Nat} {M M1 M2 : MEM} (h1 : FrQ o d M M1) (h2 : FrQ o d M1 M2) : FrQ o d M M2 := ⟨fun b p q j => (h2.1 b p q j).trans (h1.1 b p q j), h2.2.trans h1.2⟩
section PF2
variable {M : MEM} {o d h nx : Nat} {a : SLT}
theorem FrQ.cs {M' : MEM} (hc : CS nx M h a) (s : smp o d) (hF : FrQ o d M M') : CS nx M' h a := by
  obtain ⟨o1, o2, o3, o4⟩ := smp_lt s
  exact hc.of (fun b hb j => hF.1 b (by have := hc.h1; unfold inH at hb; omega) (by have := hc.h1; unfold inH at hb; omega) j)
theorem lim_le (hc : CS nx M h a) (ha : sH a = true) (i : Nat) : limA a i ≤ 12 := by
  obtain ⟨v1, v2, v3, v4, v5, v6⟩ := hc.2.1.2.2.1 ha
  unfold limA
  split
  · exact v5 _ (hc.str i)
  · exact v3
theorem f_place (s : smp o d) (hO : mO M o = h) (hc : CS nx M h a) (ha : sH a = true) {k : Nat} (hk : k < (ordC a).length) (hP : CHP M o d a (ordC a) k) {Q : MEM → Prop} (hQ : ∀ M', CHP M' o d a (ordC a) (k + 1) → FrQ o d M M' → Q M') : wp_X3_place o (nI (gd (ordC a) k)) (nI (rkA a (ordC a) k)) M Q := by
  obtain ⟨o1, o2, o3, o4⟩ := smp_lt s
  have hne : o ≠ d + 4 ∧ o ≠ d + 5 ∧ o ≠ d + 6 ∧ o ≠ d + 7 := by rcases s with ⟨rfl, rfl⟩ | ⟨rfl, rfl⟩ <;> decide
  have hn := hc.n
  have hst : ∀ i, stA a i < 4 := fun i => hc.str i
  have hl60 : (ordC a).length ≤ sN a := by rw [ord_len]; exact ordR_le
  obtain ⟨p1, p2, p3, p4, p5, p6⟩ := hP
  have hi : gd (ordC a) k < sN a := by
    have : gd (ordC a) k ∈ ordC a := by rw [gd_eq hk]; exact List.getElem_mem _
    exact (ordC_mem.mp this).1
  have hnd : (ordC a).Nodup := ordB_nd _
  have htk := take_s hk
  have hnt : gd (ordC a) k ∉ (ordC a).take k := fun w => by
    have h2 := hnd.sublist (List.take_sublist (k + 1) (ordC a))
    rw [htk] at h2
    exact (List.nodup_append.mp h2).2.2 _ w _ (List.mem_singleton.mpr rfl) rfl
  have hsub := chA_sub (a := a) (ordC a) k (by omega)
  have hchl : (chA a (ordC a) k).length ≤ k := by
    have := hsub.length_le
    rw [List.length_take] at this; omega
  have hnc : gd (ordC a) k ∉ chA a (ordC a) k := fun w => hnt (hsub.subset w)
  have hrk := rk_eq hk
  have hrkl : rkA a (ordC a) k < 100 := by
    rw [hrk]; unfold rnkA
    split
    · have h9 : (grpA a (stA a (gd (ordC a) k))).length ≤ (ordR a).length := List.length_filter_le _ _
      have := List.idxOf_le_length (a := gd (ordC a) k) (l := grpA a (stA a (gd (ordC a) k)))
      have := ordR_le (a := a)
      omega
    · have := List.idxOf_le_length (a := gd (ordC a) k) (l := ordR a)
      have := ordR_le (a := a)
      omega
  have hlim := lim_le hc ha (gd (ordC a) k)
  generalize hgi : gd (ordC a) k = i at *
  refine ⟨smp_o s, fun w => absurd w (nI_pos (by omega)), fun _ => ⟨fun w => absurd w (nI_ge (b := 60) (by omega) (by decide)), fun _ => ⟨fun _ => ?_, fun w => absurd (by rw [p3]; exact nI_lt (b := 60) (by omega) (by decide)) w⟩⟩⟩
  rw [smp_r s (k := 5) (by decide) (by decide), smp_r s (k := 6) (by decide) (by decide), smp_r s (k := 7) (by decide) (by decide)]
  refine ⟨smp_k s (by decide) (by decide), nV (by omega) (by decide), fun M3 e3 => ?_⟩
  rw [nC (by omega)] at e3
  have F3 : FrQ o d M M3 := ⟨fun b q1 q2 j => by rw [e3, rd_ne (by omega)], by rw [e3]; rfl⟩
  have eO : mO M3 o = h := by rw [e3]; exact hO
  have c3 : CS nx M3 h a := FrQ.cs hc s F3
  rw [eO]
  have hrank : ∀ M', (∀ j, mI M' (d + 5) j = mI M3 (d + 5) j) → ∀ x, x < sN a → mI M' (d + 5) x = if x ∈ (ordC a).take (k + 1) then nI (rnkA a x) else -1 := fun M' he x hx => by
    rw [he x, e3, htk]
    by_cases c : x = i
    · subst c
      rw [rd_eq, if_pos (List.mem_append.mpr (Or.inr (List.mem_singleton.mpr rfl))), hrk]
    · rw [rd_ne (by omega), p5 x hx]
      by_cases c2 : x ∈ (ordC a).take k
      · rw [if_pos c2, if_pos (List.mem_append.mpr (Or.inl c2))]
      · rw [if_neg c2, if_neg (fun w => (List.mem_append.mp w).elim c2 (fun w => c (List.mem_singleton.mp w)))]
  have hcs : chA a (ordC a) (k + 1) = if rkA a (ordC a) k < limA a i then chA a (ordC a) k ++ [i] else chA a (ordC a) k := by
    show (if rkA a (ordC a) k < limA a (gd (ordC a) k) then chA a (ordC a) k ++ [gd (ordC a) k] else chA a (ordC a) k) = _
    rw [hgi]
  refine ⟨c3.kd, s_limitFor c3.1 c3.h1 c3.h2 ha hn (c3.2.1.2.2.1 ha).1 (by omega) (hc.str i) ?_⟩
  show (nI (limA a i) ≤ nI (rkA a (ordC a) k) → _) ∧ (¬ nI (limA a i) ≤ nI (rkA a (ordC a) k) → _)
  rw [nI_leI (by omega) (by omega)]
  refine ⟨fun q => ?_, fun q => ?_⟩
  · have hcs2 : chA a (ordC a) (k + 1) = chA a (ordC a) k := by rw [hcs, if_neg (by omega)]
    have ho : ∀ b, b ≠ d + 5 → ∀ j, mI M3 b j = mI M b j := fun b hb j => by rw [e3, rd_ne (by omega)]
    refine hQ M3 ⟨by rw [ho o (by omega)]; exact p1, fun j hj => by rw [ho _ (by omega)]; exact p2 j hj, by rw [hcs2, ho o (by omega)]; exact p3, fun j hj => ?_, hrank M3 (fun _ => rfl), fun x hx => by rw [hcs2, ho _ (by omega)]; exact p6 x hx⟩ F3
    rw [hcs2] at hj ⊢
    rw [ho _ (by omega)]; exact p4 j hj
  · have hcs2 : chA a (ordC a) (k + 1) = chA a (ordC a) k ++ [i] := by rw [hcs, if_pos (by omega)]
    have c3o : mI M3 o 2 = nI (chA a (ordC a) k).length := by rw [e3, rd_ne (by omega)]; exact p3
    rw [c3o]
    refine ⟨smp_k s (by decide) (by decide), nV (by omega) (by decide), fun M9 e9 => ⟨smp_k s (by decide) (by decide), nV (by omega) (by decide), fun M12 e12 M13 e13 => ?_⟩⟩
    rw [nC (by omega)] at e9
    have c9 : mI M9 o 2 = nI (chA a (ordC a) k).length := by rw [e9, rd_ne (by omega)]; exact c3o
    rw [nC (by omega), c9] at e12
    have c12 : mI M12 o 2 = nI (chA a (ordC a) k).length := by rw [e12, rd_ne (by omega)]; exact c9
    rw [c12, n1, nA] at e13
    have ho : ∀ b, b ≠ d + 5 → b ≠ d + 6 → b ≠ d + 7 → ∀ j, (b ≠ o ∨ j ≠ 2) → mI M13 b j = mI M b j := fun b h5 h6 h7 j hj => by
      rw [e13, rd_ne (by omega), e12, rd_ne (by omega), e9, rd_ne (by omega), e3, rd_ne (by omega)]
    refine hQ M13 ⟨by rw [ho o (by omega) (by omega) (by omega) 1 (by omega)]; exact p1, fun j hj => by rw [ho _ (by omega) (by omega) (by omega) j (by omega)]; exact p2 j hj, ?_, ?_, hrank M13 (fun j => by rw [e13, rd_ne (by omega), e12, rd_ne (by omega), e9, rd_ne (by omega)]), fun x hx => ?_⟩ ⟨fun b q1 q2 j => ho b (by omega) (by omega) (by omega) j (Or.inl q1), by rw [e13, e12, e9, e3]; rfl⟩
    · rw [e13, rd_eq, hcs2, List.length_append]; rfl
    · rw [hcs2]
      refine arr_app (fun j hj => ?_) ?_
      · rw [e13, rd_ne (by omega), e12, rd_ne (by omega), e9, rd_ne (by omega), e3, rd_ne (by omega)]; exact p4 j hj
      · rw [e13, rd_ne (by omega), e12, rd_ne (by omega), e9, rd_eq]
    · rw [hcs2, e13, rd_ne (by omega), e12]
      by_cases c : x = i
      · subst c
        rw [rd_eq, if_pos (List.mem_append.mpr (Or.inr (List.mem_singleton.mpr rfl))), idx_app hnc, if_neg hnc, if_pos rfl]
      · rw [rd_ne (by omega), e9, rd_ne (by omega), e3, rd_ne (by omega), p6 x hx, idx_app hnc]
        by_cases c2 : x ∈ chA a (ordC a) k
        · rw [if_pos c2, if_pos (List.mem_append.mpr (Or.inl c2)), if_pos c2]
        · rw [if_neg c2, if_neg (fun w => (List.mem_append.mp w).elim c2 (fun w => c (List.mem_singleton.mp w)))]
end PF2
