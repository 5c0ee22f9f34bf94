-- PURE: what a merged list is
abbrev asc (l : List ITM) : Prop := l.Pairwise (fun x y => x.1 < y.1)
theorem asc_cons {x : ITM} {l : List ITM} (h : asc (x :: l)) : (∀ y ∈ l, x.1 < y.1) ∧ asc l := List.pairwise_cons.mp h
theorem mrg_mem (g t : List ITM) : ∀ x ∈ mrg g t, x ∈ g ∨ x ∈ t := by
  fun_induction mrg g t with
  | case1 => intro x h; exact Or.inr h
  | case2 => intro x h; exact Or.inl h
  | case3 x g y t c ih =>
    intro z hz
    rcases List.mem_cons.mp hz with rfl | hz
    · exact Or.inl List.mem_cons_self
    · exact (ih z hz).imp (List.mem_cons_of_mem _) id
  | case4 x g y t c d ih =>
    intro z hz
    exact (ih z hz).imp (List.mem_cons_of_mem _) id
  | case5 x g y t c d ih =>
    intro z hz
    rcases List.mem_cons.mp hz with rfl | hz
    · exact Or.inr List.mem_cons_self
    · exact (ih z hz).imp id (List.mem_cons_of_mem _)
theorem mrg_asc (g t : List ITM) (hg : asc g) (ht : asc t) : asc (mrg g t) := by
  fun_induction mrg g t with
  | case1 => exact ht
  | case2 => exact hg
  | case3 x g y t c ih =>
    obtain ⟨a, b⟩ := asc_cons hg
    obtain ⟨a2, -⟩ := asc_cons ht
    refine List.pairwise_cons.mpr ⟨fun z hz => ?_, ih b ht⟩
    rcases mrg_mem _ _ z hz with hz | hz
    · exact a z hz
    · rcases List.mem_cons.mp hz with rfl | hz
      · exact c
      · exact Nat.lt_trans c (a2 z hz)
  | case4 x g y t c d ih => exact ih (asc_cons hg).2 ht
  | case5 x g y t c d ih =>
    obtain ⟨a, b⟩ := asc_cons ht
    obtain ⟨a2, -⟩ := asc_cons hg
    refine List.pairwise_cons.mpr ⟨fun z hz => ?_, ih hg b⟩
    rcases mrg_mem _ _ z hz with hz | hz
    · rcases List.mem_cons.mp hz with rfl | hz
      · omega
      · have := a2 z hz; omega
    · exact a z hz
theorem mrg_length (g t : List ITM) (hg : asc g) (ht : asc t) : (mrg g t).length = t.length + (g.filter (fun x => !(t.any (fun y => y.1 == x.1)))).length := by
  fun_induction mrg g t with
  | case1 => simp
  | case2 x g =>
    have e : g.filter (fun _ => true) = g := List.filter_eq_self.mpr (fun _ _ => rfl)
    simp [e]
  | case3 x g y t c ih =>
    obtain ⟨a, b⟩ := asc_cons hg
    obtain ⟨a2, -⟩ := asc_cons ht
    rw [List.length_cons, ih b ht, List.filter_cons_of_pos (by
      simp only [Bool.not_eq_true', List.any_eq_false, beq_iff_eq]
      intro z hz
      rcases List.mem_cons.mp hz with rfl | hz
      · omega
      · have := a2 z hz; omega)]
    simp only [List.length_cons]
    omega
  | case4 x g y t c d ih =>
    rw [ih (asc_cons hg).2 ht, List.filter_cons_of_neg (by simp; exact fun w => absurd d.symm w)]
  | case5 x g y t c d ih =>
    obtain ⟨a, b⟩ := asc_cons ht
    obtain ⟨a2, -⟩ := asc_cons hg
    rw [List.length_cons, ih hg b, List.length_cons]
    have : (x :: g).filter (fun x => !((y :: t).any (fun y => y.1 == x.1))) = (x :: g).filter (fun x => !(t.any (fun y => y.1 == x.1))) := by
      refine List.filter_congr (fun z hz => ?_)
      have hyz : (y.1 == z.1) = false := by
        rcases List.mem_cons.mp hz with rfl | hz
        · simp; omega
        · have := a2 z hz; simp; omega
      rw [List.any_cons, hyz, Bool.false_or]
    rw [this]
    omega
theorem list_range_map {α : Type} (l : List α) (d : α) : (List.range l.length).map (fun i => l.getD i d) = l := by
  refine List.ext_getElem (by simp) (fun i h1 h2 => ?_)
  simp [List.getD_eq_getElem?_getD, h2]
theorem cntF_filter (a : SLT) (P : ITM → Bool) : cntF (fun i => P (it a i)) (sN a) = ((sL a).filter P).length := by
  have h := list_range_map (sL a) (0, 0, 0, 0, 0)
  calc cntF (fun i => P (it a i)) (sN a) = (((List.range (sL a).length).map (fun i => (sL a).getD i (0, 0, 0, 0, 0))).filter P).length := by
        rw [List.filter_map, List.length_map]; rfl
    _ = _ := by rw [h]
theorem any_hasN (a : SLT) (v : Nat) : (sL a).any (fun y => y.1 == v) = hasN a v := by
  have h := list_range_map (sL a) (0, 0, 0, 0, 0)
  calc (sL a).any (fun y => y.1 == v) = ((List.range (sL a).length).map (fun i => (sL a).getD i (0, 0, 0, 0, 0))).any (fun y => y.1 == v) := by rw [h]
    _ = _ := by rw [List.any_map]; rfl
theorem it_mem {a : SLT} {i : Nat} (h : i < sN a) : it a i ∈ sL a := by
  unfold it
  rw [List.getD_eq_getElem?_getD, List.getElem?_eq_getElem h]
  exact List.getElem_mem _
theorem mem_it {a : SLT} {x : ITM} (h : x ∈ sL a) : ∃ i, i < sN a ∧ it a i = x := by
  obtain ⟨i, hi, e⟩ := List.getElem_of_mem h
  refine ⟨i, hi, ?_⟩
  unfold it
  rw [List.getD_eq_getElem?_getD, List.getElem?_eq_getElem hi]
  exact e
theorem WF.asc {nx : Nat} {a : SLT} (h : WF nx a) : Jvm.Pilot.CSampleBenchLaw_law_r6121_bd6fca.asc (sL a) := by
  refine List.pairwise_iff_getElem.mpr (fun i j hi hj hij => ?_)
  have := h.2.2.2.2 i j hij hj
  unfold it at this
  rw [List.getD_eq_getElem?_getD, List.getElem?_eq_getElem hi, List.getD_eq_getElem?_getD, List.getElem?_eq_getElem hj] at this
  exact this
theorem WF.okI {nx : Nat} {a : SLT} (h : WF nx a) {x : ITM} (hx : x ∈ sL a) : Jvm.Pilot.CSampleBenchLaw_law_r6121_bd6fca.okI nx x := by
  obtain ⟨i, hi, rfl⟩ := mem_it hx
  exact h.2.2.2.1 i hi
theorem missing_len {nx : Nat} {g t : SLT} (hg : WF nx g) (ht : WF nx t) : sN t + cntF (fun i => !hasN t (it g i).1) (sN g) = (mrg (sL g) (sL t)).length := by
  rw [mrg_length _ _ hg.asc ht.asc]
  congr 1
  rw [cntF_filter g (fun x => !hasN t x.1)]
  congr 1
  exact List.filter_congr (fun x _ => by rw [any_hasN])
theorem WF_fold {nx : Nat} : ∀ (m : List ITM) (D : SLT), WF nx D → sH D = true → (sP D = 0 → sN D + m.length ≤ 60) → (∀ x ∈ m, okI nx x) → asc m → (∀ i, i < sN D → ∀ x ∈ m, (it D i).1 < x.1) → WF nx (m.foldl pushA D) := by
  intro m
  induction m with
  | nil => intro D h _ _ _ _ _; exact h
  | cons x m ih =>
    intro D h ha h0 hok has hl
    obtain ⟨a1, a2⟩ := asc_cons has
    have h0' : sP D = 0 → sN D < 60 := fun c => by have := h0 c; rw [List.length_cons] at this; omega
    refine ih (pushA D x) (h.push ha h0' (hok x List.mem_cons_self) (Nat.le_refl _) (fun i hi => hl i hi x List.mem_cons_self)) ha (fun c => ?_) (fun y hy => hok y (List.mem_cons_of_mem _ hy)) a2 (fun i hi y hy => ?_)
    · have := h0 c
      rw [List.length_cons] at this
      rw [pushA_n, if_neg (fun w => w.1 c)]; omega
    · have hy' : x.1 < y.1 := a1 y hy
      rw [pushA_n] at hi
      rw [it_push]
      split at hi
      · rename_i c
        rw [if_pos c]
        split
        · exact hl _ (by omega) y (List.mem_cons_of_mem _ hy)
        · rw [if_pos (by omega)]; exact hy'
      · rename_i c
        rw [if_neg c]
        split
        · exact hl _ (by omega) y (List.mem_cons_of_mem _ hy)
        · rw [if_pos (by omega)]; exact hy'
theorem joinA_ok {nx : Nat} {g t : SLT} (hg : WF nx g) (ht : WF nx t) (hb : sH t = true) (h0 : sP t = 0 → (mrg (sL g) (sL t)).length ≤ 60) : WF nx (joinA g t) := by
  obtain ⟨v1, v2, v3, v4, v5, v6⟩ := ht.2.2.1 hb
  refine WF_fold _ _ ⟨Nat.zero_le _, fun _ => rfl, fun _ => ⟨v1, v2, v3, v4, v5, fun _ => Nat.zero_le _⟩, fun i hi => absurd hi (Nat.not_lt_zero _), fun i j _ hj => absurd hj (Nat.not_lt_zero _)⟩ hb (fun c => ?_) (fun x hx => ?_) (mrg_asc _ _ hg.asc ht.asc) (fun i hi => absurd hi (Nat.not_lt_zero _))
  · have := h0 c
    show 0 + _ ≤ 60
    omega
  · rcases mrg_mem _ _ x hx with h | h
    · exact hg.okI h
    · exact ht.okI h
theorem fold_list : ∀ (m : List ITM) (D : SLT), (sP D ≠ 0 → sN D ≤ sP D) → sL (m.foldl pushA D) = if sP D = 0 then sL D ++ m else (sL D ++ m).drop ((sL D ++ m).length - sP D) := by
  intro m
  induction m with
  | nil =>
    intro D h
    split
    · simp
    · rename_i c
      have := h c
      have h2 : (sL D ++ []).length - sP D = 0 := by simp; exact Nat.sub_eq_zero_of_le this
      rw [h2]; simp
  | cons x m ih =>
    intro D h
    rw [List.foldl_cons, ih]
    · have hp : sP (pushA D x) = sP D := rfl
      rw [hp]
      by_cases c : sP D = 0
      · rw [if_pos c, if_pos c]
        show (if sP D ≠ 0 ∧ sP D ≤ sN D then (sL D).drop 1 else sL D) ++ [x] ++ m = _
        rw [if_neg (fun w => w.1 c)]; simp
      · rw [if_neg c, if_neg c]
        have hc := h c
        show (((if sP D ≠ 0 ∧ sP D ≤ sN D then (sL D).drop 1 else sL D) ++ [x]) ++ m).drop ((((if sP D ≠ 0 ∧ sP D ≤ sN D then (sL D).drop 1 else sL D) ++ [x]) ++ m).length - sP D) = _
        by_cases d : sP D ≤ sN D
        · rw [if_pos ⟨c, d⟩]
          have hl : 1 ≤ (sL D).length := by show 1 ≤ sN D; omega
          have e : (sL D).drop 1 ++ [x] ++ m = (sL D ++ x :: m).drop 1 := by
            rw [List.drop_append_of_le_length hl]; simp
          rw [e, List.drop_drop]
          congr 1
          simp only [List.length_drop, List.length_append, List.length_cons]
          have : (sL D).length = sN D := rfl
          omega
        · rw [if_neg (fun w => d w.2)]; simp
    · intro c
      have := h c
      rw [show sP (pushA D x) = sP D from rfl] at c ⊢
      rw [pushA_n]
      split <;> omega
theorem fold_set : ∀ (m : List ITM) (D : SLT), (m.foldl pushA D).1 = D.1 ∧ (m.foldl pushA D).2.1 = D.2.1 ∧ (m.foldl pushA D).2.2.1 = D.2.2.1 := by
  intro m
  induction m with
  | nil => intro D; exact ⟨rfl, rfl, rfl⟩
  | cons x m ih => intro D; exact ih (pushA D x)
