-- PURE: the sample as it is meant
def mx (a : SLT) (i : Nat) : Nat := mixN (sS a) (pt (it a i) (if sK a = 3 then 1 else 0))
abbrev stA (a : SLT) (i : Nat) : Nat := (it a i).2.2.1
abbrev wtA (a : SLT) (i : Nat) : Nat := (it a i).2.2.2.1
theorem mx_pos (a : SLT) (i : Nat) : 1 ≤ mx a i ∧ mx a i ≤ 2147483648 := mixN_pos _ _
def befA (a : SLT) (i j : Nat) : Bool := if sK a = 1 then decide (mx a i * wtA a j < mx a j * wtA a i) else decide (mx a i < mx a j)
def befC (a : SLT) (i j : Nat) : Bool := if sK a = 2 ∧ stA a i ≠ stA a j then decide (stA a i < stA a j) else befA a i j
def candA (a : SLT) (i : Nat) : Bool := if sK a = 3 then firstK a i else true
def ordR (a : SLT) : List Nat := ordB (befA a) (candA a) (sN a)
def ordC (a : SLT) : List Nat := ordB (befC a) (candA a) (sN a)
def limA (a : SLT) (i : Nat) : Nat := if sK a = 2 then sQ a (stA a i) else sZ a
def grpA (a : SLT) (t : Nat) : List Nat := (ordR a).filter (fun x => stA a x == t)
/-- the sample -/
def CH (a : SLT) : List Nat := if sK a = 2 then (grpA a 0).take (sQ a 0) ++ (grpA a 1).take (sQ a 1) ++ (grpA a 2).take (sQ a 2) ++ (grpA a 3).take (sQ a 3) else (ordR a).take (sZ a)
/-- how many candidates, for kind 2 of its stratum, are before one -/
def rnkA (a : SLT) (i : Nat) : Nat := if sK a = 2 then (grpA a (stA a i)).idxOf i else (ordR a).idxOf i
section PSA
variable {a : SLT}
theorem ordC_eq (h : sK a ≠ 2) : ordC a = ordR a := by
  unfold ordC ordR
  have : befC a = befA a := funext fun i => funext fun j => by unfold befC; rw [if_neg (fun w => h w.1)]
  rw [this]
theorem ordR_mem {x : Nat} : x ∈ ordR a ↔ x < sN a ∧ candA a x = true := ordB_mem
theorem ordC_mem {x : Nat} : x ∈ ordC a ↔ x < sN a ∧ candA a x = true := ordB_mem
theorem ord_len : (ordC a).length = (ordR a).length := by unfold ordC ordR; rw [ordB_len, ordB_len]
theorem ordR_le : (ordR a).length ≤ sN a := by unfold ordR; rw [ordB_len]; exact cntF_le _ _
def keyC (a : SLT) (i : Nat) : Nat := stA a i * 4294967296 + mx a i
theorem befC_key (h : sK a = 2) (i j : Nat) : befC a i j = decide (keyC a i < keyC a j) := by
  have h1 := mx_pos a i
  have h2 := mx_pos a j
  unfold befC befA keyC
  by_cases c : stA a i = stA a j
  · rw [if_neg (fun w => w.2 c), if_neg (by omega)]
    by_cases d : mx a i < mx a j
    · rw [decide_eq_true d, decide_eq_true (by omega)]
    · rw [decide_eq_false d, decide_eq_false (by omega)]
  · rw [if_pos ⟨h, c⟩]
    by_cases d : stA a i < stA a j
    · rw [decide_eq_true d, decide_eq_true (by omega)]
    · rw [decide_eq_false d, decide_eq_false (by omega)]
theorem befA_key (h : sK a = 2) (i j : Nat) : befA a i j = decide (mx a i < mx a j) := by
  unfold befA; rw [if_neg (by omega)]
theorem ordC_key (h : sK a = 2) : ordC a = ordB (fun i x => decide (keyC a i < keyC a x)) (candA a) (sN a) := by
  unfold ordC
  have : befC a = fun i x => decide (keyC a i < keyC a x) := funext fun i => funext fun j => befC_key h i j
  rw [this]
theorem ordR_key (h : sK a = 2) : ordR a = ordB (fun i x => decide (mx a i < mx a x)) (candA a) (sN a) := by
  unfold ordR
  have : befA a = fun i x => decide (mx a i < mx a x) := funext fun i => funext fun j => befA_key h i j
  rw [this]
theorem ordC_srt (h : sK a = 2) : srt (stA a) (ordC a) := by
  rw [ordC_key h]
  refine (ordB_srt (key := keyC a) (sN a)).imp (fun {x y} hxy => ?_)
  have h1 := mx_pos a x
  have h2 := mx_pos a y
  unfold keyC at hxy
  omega
theorem ordC_grp (h : sK a = 2) (t : Nat) : (ordC a).filter (fun x => stA a x == t) = grpA a t := by
  unfold grpA
  rw [ordC_key h, ordR_key h]
  refine ordB_group (fun i x hi hx => ?_) _
  have hi' : stA a i = t := by simpa using hi
  have hx' : stA a x = t := by simpa using hx
  unfold keyC
  omega
/-- the class's ranks along its order -/
def rkA (a : SLT) (l : List Nat) : Nat → Nat
  | 0 => 0
  | k + 1 => if sK a = 2 ∧ stA a (gd l (k + 1)) ≠ stA a (gd l k) then 0 else rkA a l k + 1
def chA (a : SLT) (l : List Nat) : Nat → List Nat
  | 0 => []
  | k + 1 => if rkA a l k < limA a (gd l k) then chA a l k ++ [gd l k] else chA a l k
theorem take_s {l : List Nat} {k : Nat} (h : k < l.length) : l.take (k + 1) = l.take k ++ [gd l k] := by
  rw [List.take_add_one, List.getElem?_eq_getElem h, gd_eq h]; rfl
theorem rkA_one (h : sK a ≠ 2) (l : List Nat) : ∀ k, rkA a l k = k
  | 0 => rfl
  | k + 1 => by
    show (if _ then 0 else rkA a l k + 1) = k + 1
    rw [if_neg (fun w => h w.1), rkA_one h l k]
theorem chA_one (h : sK a ≠ 2) (l : List Nat) : ∀ k, k ≤ l.length → chA a l k = (l.take k).take (sZ a)
  | 0, _ => by simp [chA]
  | k + 1, hk => by
    have ih := chA_one h l k (by omega)
    show (if rkA a l k < limA a (gd l k) then chA a l k ++ [gd l k] else chA a l k) = _
    rw [rkA_one h, ih, take_s (by omega)]
    unfold limA
    rw [if_neg h]
    have hl : (l.take k).length = k := by rw [List.length_take]; omega
    split
    · rename_i c
      rw [List.take_of_length_le (l := l.take k) (by omega), List.take_of_length_le (l := l.take k ++ [gd l k]) (by rw [List.length_append, hl]; exact c)]
    · rename_i c
      rw [List.take_append_of_le_length (by omega)]
theorem rkA_two (h : sK a = 2) {l : List Nat} (hs : srt (stA a) l) : ∀ k, k < l.length → rkA a l k = ((l.take k).filter (fun x => stA a x == stA a (gd l k))).length
  | 0, _ => by simp [rkA]
  | k + 1, hk => by
    have ih := rkA_two h hs k (by omega)
    show (if sK a = 2 ∧ stA a (gd l (k + 1)) ≠ stA a (gd l k) then 0 else rkA a l k + 1) = _
    by_cases c : stA a (gd l (k + 1)) = stA a (gd l k)
    · rw [if_neg (fun w => w.2 c), ih, take_s (by omega), c, List.filter_append, List.length_append]
      simp
    · rw [if_pos ⟨h, c⟩]
      rw [filter_no (fun x hx => ?_)]
      · rfl
      · obtain ⟨j, hj, e⟩ := List.getElem_of_mem hx
        rw [List.length_take] at hj
        rw [List.getElem_take] at e
        have h1 : stA a (gd l j) ≤ stA a (gd l k) := by
          by_cases q : j = k
          · subst q; exact Nat.le_refl _
          · have := List.pairwise_iff_getElem.mp hs j k (by omega) (by omega) (by omega)
            rw [gd_eq (by omega), gd_eq (by omega)]; exact this
        have h2 : stA a (gd l k) ≤ stA a (gd l (k + 1)) := by
          have := List.pairwise_iff_getElem.mp hs k (k + 1) (by omega) (by omega) (by omega)
          rw [gd_eq (by omega), gd_eq (by omega)]; exact this
        rw [gd_eq (by omega), e] at h1
        simp; omega
theorem chA_two (h : sK a = 2) {l : List Nat} (hs : srt (stA a) l) (t : Nat) : ∀ k, k ≤ l.length → (chA a l k).filter (fun x => stA a x == t) = ((l.take k).filter (fun x => stA a x == t)).take (sQ a t)
  | 0, _ => by simp [chA]
  | k + 1, hk => by
    have ih := chA_two h hs t k (by omega)
    have hr := rkA_two h hs k (by omega)
    show (if rkA a l k < limA a (gd l k) then chA a l k ++ [gd l k] else chA a l k).filter _ = _
    rw [take_s (by omega), List.filter_append]
    unfold limA
    rw [if_pos h]
    by_cases c : stA a (gd l k) = t
    · rw [hr, c]
      have e1 : [gd l k].filter (fun x => stA a x == t) = [gd l k] := by simp [c]
      rw [e1]
      split
      · rename_i q
        rw [List.filter_append, e1, ih, List.take_of_length_le (l := (l.take k).filter (fun x => stA a x == t)) (by omega), List.take_of_length_le (l := (l.take k).filter (fun x => stA a x == t) ++ [gd l k]) (by rw [List.length_append]; exact q)]
      · rename_i q
        rw [ih, List.take_append_of_le_length (by omega)]
    · have e1 : [gd l k].filter (fun x => stA a x == t) = [] := by simp [c]
      rw [e1, List.append_nil]
      split
      · rw [List.filter_append, e1, List.append_nil, ih]
      · exact ih
theorem chA_sub (l : List Nat) : ∀ k, k ≤ l.length → (chA a l k).Sublist (l.take k)
  | 0, _ => List.nil_sublist _
  | k + 1, hk => by
    have ih := chA_sub l k (by omega)
    show (if rkA a l k < limA a (gd l k) then chA a l k ++ [gd l k] else chA a l k).Sublist _
    rw [take_s (by omega)]
    split
    · exact ih.append (List.Sublist.refl _)
    · exact ih.trans (List.sublist_append_left _ _)
/-- what the class chooses is the sample -/
theorem ch_eq (hst : ∀ i, stA a i < 4) : chA a (ordC a) (ordC a).length = CH a := by
  unfold CH
  by_cases h : sK a = 2
  · rw [if_pos h]
    have hs := ordC_srt h
    have hc := chA_sub (a := a) (ordC a) (ordC a).length (Nat.le_refl _)
    rw [List.take_length] at hc
    have g := srt_groups (hs.sublist hc) (fun x _ => hst x)
    have e : ∀ t, (chA a (ordC a) (ordC a).length).filter (fun x => stA a x == t) = (grpA a t).take (sQ a t) := fun t => by
      rw [chA_two h hs t _ (Nat.le_refl _), List.take_length, ordC_grp h]
    rw [e 0, e 1, e 2, e 3] at g
    exact g
  · rw [if_neg h, chA_one h _ _ (Nat.le_refl _), List.take_length, ordC_eq h]
theorem idx_take {l : List Nat} (hn : l.Nodup) {k : Nat} (hk : k < l.length) (P : Nat → Bool) (hp : P (gd l k) = true) : (l.filter P).idxOf (gd l k) = ((l.take k).filter P).length := by
  have hs : l = l.take k ++ gd l k :: l.drop (k + 1) := by
    rw [gd_eq hk, List.getElem_cons_drop, List.take_append_drop]
  have hnot : gd l k ∉ (l.take k).filter P := fun h => by
    have h1 := (List.mem_filter.mp h).1
    rw [hs] at hn
    have := (List.nodup_append.mp hn).2.2
    exact this _ h1 _ List.mem_cons_self rfl
  conv => lhs; rw [show l.filter P = (l.take k).filter P ++ gd l k :: (l.drop (k + 1)).filter P by conv => lhs; rw [hs, List.filter_append, List.filter_cons_of_pos hp]]
  rw [List.idxOf_append, if_neg hnot, List.idxOf_cons_self, Nat.zero_add]
theorem rk_eq {k : Nat} (hk : k < (ordC a).length) : rkA a (ordC a) k = rnkA a (gd (ordC a) k) := by
  have hn : (ordC a).Nodup := ordB_nd _
  unfold rnkA
  by_cases h : sK a = 2
  · rw [if_pos h, rkA_two h (ordC_srt h) k hk, ← ordC_grp h]
    exact (idx_take hn hk _ (by simp)).symm
  · rw [if_neg h, rkA_one h, ← ordC_eq h]
    have := idx_take hn hk (fun _ => true) rfl
    rw [filter_all (fun _ _ => rfl), filter_all (fun _ _ => rfl), List.length_take] at this
    rw [this]; omega
end PSA
