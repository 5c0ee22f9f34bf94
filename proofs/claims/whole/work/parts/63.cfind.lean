-- PURE: the class finds the sample: the order
def smp (o d : Nat) : Prop := (o = 16 ∧ d = 15) ∨ (o = 17 ∧ d = 21)
section PF1
variable {M : MEM} {o d h nx : Nat} {a : SLT}
theorem smp_o (s : smp o d) : KD o = (13, 0) := by rcases s with ⟨rfl, rfl⟩ | ⟨rfl, rfl⟩ <;> rfl
theorem smp_r (s : smp o d) {k : Nat} (h1 : 3 ≤ k) (h2 : k ≤ 8) : RF o k = d + k := by
  rcases s with ⟨rfl, rfl⟩ | ⟨rfl, rfl⟩ <;> rfl
theorem smp_k (s : smp o d) {k : Nat} (h1 : 4 ≤ k) (h2 : k ≤ 8) : KD (d + k) = (0, 60) := by
  rcases s with ⟨rfl, rfl⟩ | ⟨rfl, rfl⟩ <;> rcases (show k = 4 ∨ k = 5 ∨ k = 6 ∨ k = 7 ∨ k = 8 by omega) with rfl | rfl | rfl | rfl | rfl <;> rfl
theorem smp_k3 (s : smp o d) : KD (d + 3) = (2, 60) := by rcases s with ⟨rfl, rfl⟩ | ⟨rfl, rfl⟩ <;> rfl
theorem smp_lt (s : smp o d) : o < 18 ∧ 15 ≤ d ∧ d < 22 ∧ 16 ≤ o := by rcases s with ⟨rfl, rfl⟩ | ⟨rfl, rfl⟩ <;> decide
theorem f_mixAt (s : smp o d) {i : Nat} (hi : i < 60) {v : Int64} (hv : mL M (d + 3) i = v) {Q : Int64 → Prop} (hQ : Q v) : wp_X3_mixAt o (nI i) M Q := by
  refine ⟨(smp_o s), fun w => absurd w (nI_pos (by omega)), fun _ => ⟨fun _ => ?_, fun w => absurd (nI_lt (b := 60) hi (by decide)) w⟩⟩
  rw [smp_r s (by decide) (by decide)]
  exact ⟨smp_k3 s, nV hi (by decide), by rw [nC (by omega), hv]; exact hQ⟩
theorem nle64 {x y : Int64} : ¬ x ≤ y ↔ y < x := by rw [Int64.le_iff_toInt_le, Int64.lt_iff_toInt_lt]; omega
theorem lN_w {x w : Nat} (hw : w < 2147483648) : lN x * (nI w).toInt64 = lN (x * w) := by
  rw [nI_l hw]; exact (Int64.ofNat_mul x w).symm
theorem f_before (s : smp o d) (hO : mO M o = h) (hc : CS nx M h a) (ha : sH a = true) {i j : Nat} (hi : i < sN a) (hj : j < sN a) (hmi : mL M (d + 3) i = lN (mx a i)) (hmj : mL M (d + 3) j = lN (mx a j)) {Q : Int32 → Prop} (hQ : Q (if befC a i j = true then 1 else 0)) : wp_X3_comesBefore o (nI i) (nI j) M Q := by
  have hn := hc.n
  obtain ⟨e1, -, -, -, -⟩ := hc.1.2.2.2 ha
  obtain ⟨v1, -, -, -, -, -⟩ := hc.2.1.2.2.1 ha
  have si : stA a i < 4 := hc.str i
  have sj : stA a j < 4 := hc.str j
  have wi : wtA a i ≤ 99 := hc.wgt i
  have wj : wtA a j ≤ 99 := hc.wgt j
  have mi := mx_pos a i
  have mj := mx_pos a j
  have hJ : (sK a = 2 → stA a i = stA a j) → wp_X3_comesBefore_J50 o (nI i) (nI j) M Q := fun hst => by
    have hb : befC a i j = befA a i j := by unfold befC; rw [if_neg (fun w => w.2 (hst w.1))]
    rw [hb] at hQ
    unfold wp_X3_comesBefore_J50
    rw [hO, e1]
    unfold befA at hQ
    refine ⟨fun w => ?_, fun w => ?_⟩
    · have hk : sK a ≠ 1 := fun e => w (by rw [e]; rfl)
      rw [if_neg hk] at hQ
      refine f_mixAt s (by omega) hmi (f_mixAt s (by omega) hmj ?_)
      rw [pk_lLE (by omega) (by omega)]
      refine ⟨fun q => ?_, fun q => ?_⟩
      · rw [if_neg (by simp; omega)] at hQ; exact hQ
      · rw [if_pos (by simp; omega)] at hQ; exact hQ
    · have hk : sK a = 1 := (nI_eq (b := 1) (by omega) (by decide)).mp w
      rw [if_pos hk] at hQ
      refine f_mixAt s (by omega) hmi (c_part hc (p := 3) (by decide) (by omega) (f_mixAt s (by omega) hmj (c_part hc (p := 3) (by decide) (by omega) ?_)))
      have b1 : mx a i * wtA a j ≤ 2147483648 * 99 := Nat.mul_le_mul mi.2 wj
      have b2 : mx a j * wtA a i ≤ 2147483648 * 99 := Nat.mul_le_mul mj.2 wi
      rw [show pt (it a j) 3 = nI (wtA a j) from rfl, show pt (it a i) 3 = nI (wtA a i) from rfl, lN_w (by omega), lN_w (by omega), pk_lLE (by omega) (by omega)]
      refine ⟨fun q => ?_, fun q => ?_⟩
      · rw [if_neg (by simp; omega)] at hQ; exact hQ
      · rw [if_pos (by simp; omega)] at hQ; exact hQ
  unfold wp_X3_comesBefore
  rw [hO, e1]
  refine ⟨(smp_o s), hc.kd, c_part hc (p := 2) (by decide) (by omega) (c_part hc (p := 2) (by decide) (by omega) ⟨fun w => ?_, fun w => ⟨fun q => ?_, fun q => ?_⟩⟩)⟩
  · exact hJ (fun e => absurd (by rw [e]; rfl) w)
  · exact hJ (fun _ => (nI_eq (by omega) (by omega)).mp q)
  · have hk : sK a = 2 := (nI_eq (b := 2) (by omega) (by decide)).mp w
    have hne : stA a i ≠ stA a j := fun e => q (congrArg nI e)
    have hb : befC a i j = decide (stA a i < stA a j) := by unfold befC; rw [if_pos ⟨hk, hne⟩]
    rw [hb] at hQ
    have hcmp : (nI (stA a j) ≤ nI (stA a i)) ↔ stA a j ≤ stA a i := nI_leI (by omega) (by omega)
    show (nI (stA a j) ≤ nI (stA a i) → Q 0) ∧ (¬ nI (stA a j) ≤ nI (stA a i) → Q 1)
    rw [hcmp]
    refine ⟨fun q => ?_, fun q => ?_⟩
    · rw [if_neg (by simp; omega)] at hQ; exact hQ
    · rw [if_pos (by simp; omega)] at hQ; exact hQ
theorem gd_ins {l : List Nat} {t i : Nat} (ht : t ≤ l.length) (k : Nat) : gd (l.take t ++ i :: l.drop t) k = if k < t then gd l k else if k = t then i else gd l (k - 1) := by
  unfold gd
  simp only [List.getD_eq_getElem?_getD]
  have hl : (l.take t).length = t := by rw [List.length_take]; omega
  by_cases c : k < t
  · rw [if_pos c, List.getElem?_append_left (by omega), List.getElem?_take, if_pos c]
  · rw [if_neg c, List.getElem?_append_right (by omega), hl]
    by_cases e : k = t
    · rw [if_pos e, e, Nat.sub_self]; rfl
    · rw [if_neg e, show k - t = (k - t - 1) + 1 by omega, List.getElem?_cons_succ, List.getElem?_drop, show t + (k - t - 1) = k - 1 by omega]
/-- an int array that begins with l -/
def Arr (M : MEM) (x : Nat) (l : List Nat) : Prop := ∀ k, k < l.length → mI M x k = nI (gd l k)
theorem f_insert (s : smp o d) (hO : mO M o = h) (hc : CS nx M h a) (ha : sH a = true) {l : List Nat} {i : Nat} (hi : i < sN a) (hl : ∀ x ∈ l, x < sN a) (hlen : l.length < 60) (hcnt : mI M o 1 = nI l.length) (hA : Arr M (d + 4) l) (hmi : mL M (d + 3) i = lN (mx a i)) (hml : ∀ x ∈ l, mL M (d + 3) x = lN (mx a x)) {Q : MEM → Prop}
    (hQ : ∀ M', Arr M' (d + 4) (insB (befC a i) l i) → mI M' o 1 = nI (l.length + 1) → (∀ b, b ≠ d + 4 → ¬ (b = o) → ∀ j, mI M' b j = mI M b j) → (∀ j, j ≠ 1 → mI M' o j = mI M o j) → M'.2 = M.2 → Q M') : wp_X3_insert o (nI i) M Q := by
  obtain ⟨o1, o2, o3, o4⟩ := smp_lt s
  have hn := hc.n
  have hne : o ≠ d + 4 := by rcases s with ⟨rfl, rfl⟩ | ⟨rfl, rfl⟩ <;> decide
  refine ⟨(smp_o s), fun _ x2 e2 => ⟨l.length + 1, ?_⟩, fun w => absurd (by rw [hcnt]; exact nI_lt hlen (by decide)) w⟩
  rw [hcnt] at e2
  subst e2
  have lp : ∀ f t M1, t ≤ l.length → t < f → (∀ k, k < t → mI M1 (d + 4) k = nI (gd l k)) → (∀ k, t ≤ k → k < l.length → mI M1 (d + 4) (k + 1) = nI (gd l k)) → (∀ b, b ≠ d + 4 → ∀ j, mI M1 b j = mI M b j) → M1.2 = M.2 → cut (befC a i) l t = cut (befC a i) l l.length → wp_X3_insert_L15 o (nI i) Q f (nI t) M1 := by
    intro f
    induction f with
    | zero => intro t M1 _ h9; omega
    | succ f ih =>
      intro t M1 ht hf h1 h2 h3 h4 hct
      have fin : cut (befC a i) l t = t → wp_X3_insert_J55 o (nI i) Q (nI t) M1 := fun hcut => by
        unfold wp_X3_insert_J55
        rw [smp_r s (by decide) (by decide)]
        refine ⟨smp_k s (by decide) (by decide), nV (by omega) (by decide), fun M6 e6 M7 e7 => ?_⟩
        rw [nC (by omega)] at e6
        have c6 : mI M6 o 1 = nI l.length := by rw [e6, rd_ne (by omega), h3 o hne]; exact hcnt
        rw [c6, n1, nA] at e7
        refine hQ M7 (fun k hk => ?_) (by rw [e7, rd_eq]) (fun b hb hbo j => by rw [e7, rd_ne (by omega), e6, rd_ne (by omega)]; exact h3 b hb j) (fun j hj => by rw [e7, rd_ne (by omega), e6, rd_ne (by omega)]; exact h3 o hne j) (by rw [e7, e6]; exact h4)
        rw [insB_len] at hk
        unfold insB
        rw [← hct, hcut, gd_ins ht, e7, rd_ne (by omega), e6]
        by_cases c : k < t
        · rw [if_pos c, rd_ne (by omega)]; exact h1 k c
        · rw [if_neg c]
          by_cases e : k = t
          · rw [if_pos e, e, rd_eq]
          · rw [if_neg e, rd_ne (by omega)]
            have := h2 (k - 1) (by omega) (by omega)
            rw [show k - 1 + 1 = k by omega] at this
            exact this
      unfold wp_X3_insert_L15
      cases t with
      | zero => exact ⟨fun _ => fin rfl, fun w => absurd (by decide) w⟩
      | succ t =>
        refine ⟨fun w => absurd w (nI_nle (Nat.succ_pos _) (by omega)), fun _ => ?_⟩
        rw [smp_r s (by decide) (by decide), n1, nm1]
        refine ⟨smp_k s (by decide) (by decide), nV (by omega) (by decide), ?_⟩
        rw [nC (by omega), h1 t (by omega)]
        have hm : gd l t ∈ l := by rw [gd_eq (by omega)]; exact List.getElem_mem _
        have eL : mL M1 = mL M := by unfold mL; rw [h4]
        have eO : mO M1 = mO M := by unfold mO; rw [h4]
        have hc1 : CS nx M1 h a := hc.of (fun b hb j => h3 b (by have := hc.h1; unfold inH at hb; omega) j)
        refine f_before s (by rw [eO]; exact hO) hc1 ha hi (hl _ hm) (by rw [eL]; exact hmi) (by rw [eL]; exact hml _ hm) ?_
        have hcs : cut (befC a i) l (t + 1) = if befC a i (gd l t) = true then cut (befC a i) l t else t + 1 := rfl
        refine ⟨fun w => ?_, fun w => ⟨nV (by omega) (by decide), nV (by omega) (by decide), fun M14 e14 x2 e2 => ?_⟩⟩
        · have hb : ¬ befC a i (gd l t) = true := fun z => by rw [if_pos z] at w; exact absurd w (by decide)
          exact fin (by rw [hcs, if_neg hb])
        · have hb : befC a i (gd l t) = true := Decidable.byContradiction (fun z => by rw [if_neg z] at w; exact w rfl)
          rw [nC (by omega)] at e14
          rw [e2, show nI (t + 1) + -nI 1 = nI t from pk_m1 t]
          rw [hcs, if_pos hb] at hct
          refine ih t M14 (by omega) (by omega) (fun k hk => by rw [e14, rd_ne (by omega)]; exact h1 k (by omega)) (fun k hk1 hk2 => ?_) (fun b hb j => by rw [e14, rd_ne (by omega)]; exact h3 b hb j) (by rw [e14]; exact h4) hct
          by_cases e : k = t
          · subst e; rw [e14, rd_eq]
          · rw [e14, rd_ne (by omega)]; exact h2 k (by omega) hk2
  exact lp _ l.length M (Nat.le_refl _) (Nat.lt_succ_self _) (fun k hk => hA k hk) (fun k h1 h2 => by omega) (fun _ _ _ => rfl) rfl rfl
end PF1
