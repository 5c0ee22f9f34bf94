-- PURE: the order of the candidates, the sample, as lists
def gd (l : List Nat) (k : Nat) : Nat := l.getD k 0
theorem gd_eq {l : List Nat} {k : Nat} (h : k < l.length) : gd l k = l[k] := by
  unfold gd; rw [List.getD_eq_getElem?_getD, List.getElem?_eq_getElem h]; rfl
def cut (b : Nat → Bool) (l : List Nat) : Nat → Nat
  | 0 => 0
  | n + 1 => if b (gd l n) = true then cut b l n else n + 1
theorem cut_le (b : Nat → Bool) (l : List Nat) : ∀ n, cut b l n ≤ n
  | 0 => Nat.le_refl _
  | n + 1 => by
    show (if b (gd l n) = true then cut b l n else n + 1) ≤ n + 1
    split
    · exact Nat.le_succ_of_le (cut_le b l n)
    · exact Nat.le_refl _
def insB (b : Nat → Bool) (l : List Nat) (i : Nat) : List Nat := l.take (cut b l l.length) ++ i :: l.drop (cut b l l.length)
def ordB (f : Nat → Nat → Bool) (c : Nat → Bool) : Nat → List Nat
  | 0 => []
  | m + 1 => if c m = true then insB (f m) (ordB f c m) m else ordB f c m
theorem insB_mem {b : Nat → Bool} {l : List Nat} {i x : Nat} : x ∈ insB b l i ↔ x = i ∨ x ∈ l := by
  unfold insB
  rw [List.mem_append, List.mem_cons]
  have h := List.take_append_drop (cut b l l.length) l
  constructor
  · rintro (h1 | h1 | h1)
    · exact Or.inr (List.mem_of_mem_take h1)
    · exact Or.inl h1
    · exact Or.inr (List.mem_of_mem_drop h1)
  · rintro (h1 | h1)
    · exact Or.inr (Or.inl h1)
    · rw [← h] at h1
      rcases List.mem_append.mp h1 with h1 | h1
      · exact Or.inl h1
      · exact Or.inr (Or.inr h1)
theorem insB_len (b : Nat → Bool) (l : List Nat) (i : Nat) : (insB b l i).length = l.length + 1 := by
  unfold insB
  have := cut_le b l l.length
  simp; omega
theorem insB_perm (b : Nat → Bool) (l : List Nat) (i : Nat) : (insB b l i).Perm (i :: l) := by
  unfold insB
  exact List.perm_middle.trans (by rw [List.take_append_drop])
theorem ordB_mem {f : Nat → Nat → Bool} {c : Nat → Bool} : ∀ {m x : Nat}, x ∈ ordB f c m ↔ x < m ∧ c x = true
  | 0, x => by simp [ordB]
  | m + 1, x => by
    show x ∈ (if c m = true then insB (f m) (ordB f c m) m else ordB f c m) ↔ _
    split
    · rename_i h
      rw [insB_mem, ordB_mem]
      constructor
      · rintro (rfl | ⟨h1, h2⟩)
        · exact ⟨Nat.lt_succ_self _, h⟩
        · exact ⟨by omega, h2⟩
      · rintro ⟨h1, h2⟩
        by_cases e : x = m
        · exact Or.inl e
        · exact Or.inr ⟨by omega, h2⟩
    · rename_i h
      rw [ordB_mem]
      constructor
      · rintro ⟨h1, h2⟩; exact ⟨by omega, h2⟩
      · rintro ⟨h1, h2⟩
        refine ⟨?_, h2⟩
        by_cases e : x = m
        · subst e; exact absurd h2 h
        · omega
theorem ordB_nd {f : Nat → Nat → Bool} {c : Nat → Bool} : ∀ m, (ordB f c m).Nodup
  | 0 => List.nodup_nil
  | m + 1 => by
    show (if c m = true then insB (f m) (ordB f c m) m else ordB f c m).Nodup
    split
    · exact (insB_perm _ _ _).nodup_iff.mpr (List.nodup_cons.mpr ⟨fun h => absurd (ordB_mem.mp h).1 (Nat.lt_irrefl _), ordB_nd m⟩)
    · exact ordB_nd m
theorem ordB_len {f : Nat → Nat → Bool} {c : Nat → Bool} : ∀ m, (ordB f c m).length = cntF c m
  | 0 => rfl
  | m + 1 => by
    rw [cntF_s]
    show (if c m = true then insB (f m) (ordB f c m) m else ordB f c m).length = _
    split
    · rw [insB_len, ordB_len m]
    · rw [ordB_len m]; rfl
/-- where b grows along l the cut parts what is not b from what is -/
theorem cut_spec {b : Nat → Bool} {l : List Nat} (hm : ∀ j k, j ≤ k → k < l.length → b (gd l j) = true → b (gd l k) = true) : ∀ n, n ≤ l.length → (∀ k, k < cut b l n → b (gd l k) = false) ∧ ∀ k, cut b l n ≤ k → k < n → b (gd l k) = true
  | 0, _ => ⟨fun k h => absurd h (Nat.not_lt_zero _), fun k _ h => absurd h (Nat.not_lt_zero _)⟩
  | n + 1, hn => by
    have ih := cut_spec hm n (by omega)
    show (∀ k, k < (if b (gd l n) = true then cut b l n else n + 1) → _) ∧ ∀ k, (if b (gd l n) = true then cut b l n else n + 1) ≤ k → _
    split
    · rename_i c
      refine ⟨ih.1, fun k h1 h2 => ?_⟩
      by_cases e : k = n
      · subst e; exact c
      · exact ih.2 k h1 (by omega)
    · rename_i c
      refine ⟨fun k h => ?_, fun k h1 h2 => by omega⟩
      cases hb : b (gd l k) with
      | false => rfl
      | true => exact absurd (hm k n (by omega) (by omega) hb) c
theorem filter_all {α : Type} {l : List α} {p : α → Bool} (h : ∀ x ∈ l, p x = true) : l.filter p = l := List.filter_eq_self.mpr h
theorem filter_no {α : Type} {l : List α} {p : α → Bool} (h : ∀ x ∈ l, p x = false) : l.filter p = [] := List.filter_eq_nil_iff.mpr (fun x hx => by rw [h x hx]; decide)
theorem cut_filter {b : Nat → Bool} {l : List Nat} (hm : ∀ j k, j ≤ k → k < l.length → b (gd l j) = true → b (gd l k) = true) : l.take (cut b l l.length) = l.filter (fun x => !b x) ∧ l.drop (cut b l l.length) = l.filter b := by
  obtain ⟨h1, h2⟩ := cut_spec hm l.length (Nat.le_refl _)
  have hc := cut_le b l l.length
  have t1 : ∀ x ∈ l.take (cut b l l.length), b x = false := fun x hx => by
    obtain ⟨k, hk, e⟩ := List.getElem_of_mem hx
    rw [List.length_take] at hk
    have := h1 k (by omega)
    rw [gd_eq (by omega)] at this
    rw [List.getElem_take] at e
    rw [← e]; exact this
  have t2 : ∀ x ∈ l.drop (cut b l l.length), b x = true := fun x hx => by
    obtain ⟨k, hk, e⟩ := List.getElem_of_mem hx
    rw [List.length_drop] at hk
    have := h2 (cut b l l.length + k) (by omega) (by omega)
    rw [gd_eq (by omega)] at this
    rw [List.getElem_drop] at e
    rw [← e]; exact this
  have hl := List.take_append_drop (cut b l l.length) l
  constructor
  · conv => rhs; rw [← hl]
    rw [List.filter_append, filter_all (fun x hx => by rw [t1 x hx]; rfl), filter_no (fun x hx => by rw [t2 x hx]; rfl), List.append_nil]
  · conv => rhs; rw [← hl]
    rw [List.filter_append, filter_no t1, filter_all t2, List.nil_append]
abbrev srt (key : Nat → Nat) (l : List Nat) : Prop := l.Pairwise (fun x y => key x ≤ key y)
theorem srt_mono {key : Nat → Nat} {l : List Nat} (h : srt key l) (v : Nat) : ∀ j k, j ≤ k → k < l.length → decide (v < key (gd l j)) = true → decide (v < key (gd l k)) = true := by
  intro j k hjk hk hb
  have hb' := of_decide_eq_true hb
  by_cases e : j = k
  · subst e; exact hb
  · have := List.pairwise_iff_getElem.mp h j k (by omega) hk (by omega)
    rw [gd_eq (by omega)] at hb'
    rw [gd_eq hk]
    exact decide_eq_true (by omega)
theorem insB_srt {key : Nat → Nat} {l : List Nat} (h : srt key l) (i : Nat) : srt key (insB (fun x => decide (key i < key x)) l i) := by
  obtain ⟨h1, h2⟩ := cut_filter (b := fun x => decide (key i < key x)) (srt_mono h (key i))
  unfold insB
  refine List.pairwise_append.mpr ⟨h.sublist (List.take_sublist _ _), List.pairwise_cons.mpr ⟨fun y hy => ?_, h.sublist (List.drop_sublist _ _)⟩, fun x hx y hy => ?_⟩
  · rw [h2] at hy
    have := of_decide_eq_true (List.mem_filter.mp hy).2
    omega
  · rw [h1] at hx
    have hx' := (List.mem_filter.mp hx).2
    have hx2 : key x ≤ key i := by simpa using hx'
    rcases List.mem_cons.mp hy with rfl | hy
    · exact hx2
    · rw [h2] at hy
      have := of_decide_eq_true (List.mem_filter.mp hy).2
      omega
theorem ordB_srt {key : Nat → Nat} {c : Nat → Bool} : ∀ m, srt key (ordB (fun i x => decide (key i < key x)) c m)
  | 0 => List.Pairwise.nil
  | m + 1 => by
    show srt key (if c m = true then insB _ (ordB _ c m) m else ordB _ c m)
    split
    · exact insB_srt (ordB_srt m) m
    · exact ordB_srt m
/-- two keys that agree within a group give the group the same order -/
theorem ordB_group {k1 k2 : Nat → Nat} {c P : Nat → Bool} (h : ∀ i x, P i = true → P x = true → (k1 i < k1 x ↔ k2 i < k2 x)) : ∀ m, (ordB (fun i x => decide (k1 i < k1 x)) c m).filter P = (ordB (fun i x => decide (k2 i < k2 x)) c m).filter P
  | 0 => rfl
  | m + 1 => by
    have ih := ordB_group (c := c) h m
    show (if c m = true then insB (fun x => decide (k1 m < k1 x)) (ordB (fun i x => decide (k1 i < k1 x)) c m) m else ordB (fun i x => decide (k1 i < k1 x)) c m).filter P = (if c m = true then insB (fun x => decide (k2 m < k2 x)) (ordB (fun i x => decide (k2 i < k2 x)) c m) m else ordB (fun i x => decide (k2 i < k2 x)) c m).filter P
    generalize h1 : ordB (fun i x => decide (k1 i < k1 x)) c m = l1 at ih ⊢
    generalize h2 : ordB (fun i x => decide (k2 i < k2 x)) c m = l2 at ih ⊢
    have s1 : srt k1 l1 := by rw [← h1]; exact ordB_srt m
    have s2 : srt k2 l2 := by rw [← h2]; exact ordB_srt m
    split
    · obtain ⟨a1, a2⟩ := cut_filter (b := fun x => decide (k1 m < k1 x)) (srt_mono s1 (k1 m))
      obtain ⟨b1, b2⟩ := cut_filter (b := fun x => decide (k2 m < k2 x)) (srt_mono s2 (k2 m))
      by_cases hp : P m = true
      · unfold insB
        rw [List.filter_append, List.filter_append, List.filter_cons_of_pos hp, List.filter_cons_of_pos hp, a1, a2, b1, b2]
        have e1 : (l1.filter (fun x => !decide (k1 m < k1 x))).filter P = (l2.filter (fun x => !decide (k2 m < k2 x))).filter P := by
          rw [List.filter_filter, List.filter_filter, show (l1.filter fun x => P x && !decide (k1 m < k1 x)) = (l1.filter P).filter (fun x => !decide (k1 m < k1 x)) by rw [List.filter_filter]; exact List.filter_congr (fun x _ => Bool.and_comm _ _), show (l2.filter fun x => P x && !decide (k2 m < k2 x)) = (l2.filter P).filter (fun x => !decide (k2 m < k2 x)) by rw [List.filter_filter]; exact List.filter_congr (fun x _ => Bool.and_comm _ _), ih]
          exact List.filter_congr (fun x hx => by simp only [h m x hp (List.mem_filter.mp hx).2])
        have e2 : (l1.filter (fun x => decide (k1 m < k1 x))).filter P = (l2.filter (fun x => decide (k2 m < k2 x))).filter P := by
          rw [List.filter_filter, List.filter_filter, show (l1.filter fun x => P x && decide (k1 m < k1 x)) = (l1.filter P).filter (fun x => decide (k1 m < k1 x)) by rw [List.filter_filter]; exact List.filter_congr (fun x _ => Bool.and_comm _ _), show (l2.filter fun x => P x && decide (k2 m < k2 x)) = (l2.filter P).filter (fun x => decide (k2 m < k2 x)) by rw [List.filter_filter]; exact List.filter_congr (fun x _ => Bool.and_comm _ _), ih]
          exact List.filter_congr (fun x hx => by simp only [h m x hp (List.mem_filter.mp hx).2])
        rw [e1, e2]
      · unfold insB
        rw [List.filter_append, List.filter_append, List.filter_cons_of_neg hp, List.filter_cons_of_neg hp, ← List.filter_append, ← List.filter_append, List.take_append_drop, List.take_append_drop]
        exact ih
    · exact ih
/-- a list in the order of its groups is its groups, one behind the other -/
theorem srt_groups {st : Nat → Nat} : ∀ {l : List Nat}, srt st l → (∀ x ∈ l, st x < 4) → l = l.filter (fun x => st x == 0) ++ l.filter (fun x => st x == 1) ++ l.filter (fun x => st x == 2) ++ l.filter (fun x => st x == 3)
  | [], _, _ => rfl
  | x :: l, h, h4 => by
    obtain ⟨a, b⟩ := List.pairwise_cons.mp h
    have ih := srt_groups b (fun y hy => h4 y (List.mem_cons_of_mem _ hy))
    have hx := h4 x List.mem_cons_self
    have no : ∀ t, t < st x → l.filter (fun y => st y == t) = [] := fun t ht => filter_no (fun y hy => by have := a y hy; simp; omega)
    rcases (show st x = 0 ∨ st x = 1 ∨ st x = 2 ∨ st x = 3 by omega) with e | e | e | e
    · rw [List.filter_cons_of_pos (by simp [e]), List.filter_cons_of_neg (by simp [e]), List.filter_cons_of_neg (by simp [e]), List.filter_cons_of_neg (by simp [e])]
      rw [List.cons_append, List.cons_append, List.cons_append, ← ih]
    · rw [List.filter_cons_of_neg (by simp [e]), List.filter_cons_of_pos (by simp [e]), List.filter_cons_of_neg (by simp [e]), List.filter_cons_of_neg (by simp [e])]
      rw [no 0 (by omega)] at ih ⊢
      rw [List.nil_append, List.cons_append, List.cons_append]
      rw [List.nil_append] at ih
      rw [← ih]
    · rw [List.filter_cons_of_neg (by simp [e]), List.filter_cons_of_neg (by simp [e]), List.filter_cons_of_pos (by simp [e]), List.filter_cons_of_neg (by simp [e])]
      rw [no 0 (by omega), no 1 (by omega)] at ih ⊢
      rw [List.nil_append, List.nil_append, List.cons_append]
      rw [List.nil_append, List.nil_append] at ih
      rw [← ih]
    · rw [List.filter_cons_of_neg (by simp [e]), List.filter_cons_of_neg (by simp [e]), List.filter_cons_of_neg (by simp [e]), List.filter_cons_of_pos (by simp [e])]
      rw [no 0 (by omega), no 1 (by omega), no 2 (by omega)] at ih ⊢
      rw [List.nil_append, List.nil_append, List.nil_append]
      rw [List.nil_append, List.nil_append, List.nil_append] at ih
      rw [← ih]
