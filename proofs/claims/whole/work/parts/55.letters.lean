-- PURE: rows of characters
def emit (v : Nat) : Nat → List Nat
  | 0 => [48 + v / 10 ^ 0 % 10]
  | e + 1 => (48 + v / 10 ^ (e + 1) % 10) :: emit v e
def lg : Nat → Nat → Nat
  | 0, _ => 0
  | f + 1, v => if v < 10 then 0 else lg f (v / 10) + 1
theorem lg_le : ∀ f v, lg f v ≤ f := by
  intro f
  induction f with
  | zero => intro v; exact Nat.le_refl _
  | succ f ih =>
    intro v
    show (if v < 10 then 0 else lg f (v / 10) + 1) ≤ f + 1
    split
    · exact Nat.zero_le _
    · exact Nat.succ_le_succ (ih _)
theorem lg_up : ∀ f v, v < 10 ^ (f + 1) → v < 10 ^ (lg f v + 1) := by
  intro f
  induction f with
  | zero => intro v h; exact h
  | succ f ih =>
    intro v h
    show v < 10 ^ ((if v < 10 then 0 else lg f (v / 10) + 1) + 1)
    split
    · rename_i c; simpa using c
    · have h2 : v / 10 < 10 ^ (f + 1) := by
        rw [Nat.pow_succ] at h
        omega
      have := ih _ h2
      rw [Nat.pow_succ]
      omega
theorem lg_lo : ∀ f v i, i < lg f v → 10 ^ (i + 1) ≤ v := by
  intro f
  induction f with
  | zero => intro v i h; exact absurd h (Nat.not_lt_zero _)
  | succ f ih =>
    intro v i h
    have h' : i < (if v < 10 then 0 else lg f (v / 10) + 1) := h
    split at h'
    · exact absurd h' (Nat.not_lt_zero _)
    · rename_i c
      cases i with
      | zero => simp; omega
      | succ i =>
        have := ih (v / 10) i (by omega)
        rw [Nat.pow_succ]
        omega
theorem lg_dig {v k : Nat} (hk : 1 ≤ k) (h : v < 10 ^ k) (f : Nat) : lg f v + 1 ≤ k := by
  rcases Nat.lt_or_ge (lg f v) k with c | c
  · exact c
  · have h1 := lg_lo f v (k - 1) (by omega)
    rw [show k - 1 + 1 = k by omega] at h1
    omega
theorem emit_len (v : Nat) : ∀ e, (emit v e).length = e + 1
  | 0 => rfl
  | e + 1 => by simp [emit, emit_len v e]
theorem emit_lt (v : Nat) : ∀ e, ∀ c ∈ emit v e, c < 128
  | 0 => by simp [emit]; omega
  | e + 1 => by
    intro c hc
    rcases List.mem_cons.mp hc with rfl | hc
    · omega
    · exact emit_lt v e c hc
def numA (x : Int32) : List Nat := (if x.toInt < 0 then [45] else []) ++ emit x.toInt.natAbs (lg 9 x.toInt.natAbs)
theorem numA_lt (x : Int32) : ∀ c ∈ numA x, c < 128 := by
  intro c hc
  rcases List.mem_append.mp hc with h | h
  · split at h
    · simp at h; omega
    · simp at h
  · exact emit_lt _ _ c h
theorem numA_len {x : Int32} {k : Nat} (hk : 1 ≤ k) (h : x.toInt.natAbs < 10 ^ k) : (numA x).length ≤ k + (if x.toInt < 0 then 1 else 0) := by
  unfold numA
  have := lg_dig hk h 9
  rw [List.length_append, emit_len]
  split <;> simp <;> omega
theorem numN_len {n k : Nat} (hn : n < 2147483648) (hk : 1 ≤ k) (h : n < 10 ^ k) : (numA (nI n)).length ≤ k := by
  have h1 := nI_toInt hn
  have h2 := numA_len (x := nI n) hk (by rw [h1]; exact h)
  rw [h1, if_neg (by omega)] at h2
  exact h2
/-- a row of characters in an object of letters -/
def Let (M : MEM) (o : Nat) (cs : List Nat) : Prop := mI M o 1 = nI cs.length ∧ ∀ k (hk : k < cs.length), mI M (o + 1) k = nI cs[k]
def inL (o : Nat) : Nat → Prop := fun b => b = o ∨ b = o + 1
theorem gC_n {c : Nat} (h : c < 65536) : gC (nI c) := (pk_charN h).1
theorem Let.of {M M' : MEM} {o : Nat} {cs : List Nat} (h : Let M o cs) (e : ∀ b, inL o b → ∀ j, mI M' b j = mI M b j) : Let M' o cs :=
  ⟨by rw [e o (Or.inl rfl)]; exact h.1, fun k hk => by rw [e (o + 1) (Or.inr rfl)]; exact h.2 k hk⟩
section PLT
variable {M : MEM}
theorem app_get {cs : List Nat} {c k : Nat} (h : k < (cs ++ [c]).length) : (cs ++ [c])[k] = if h2 : k < cs.length then cs[k] else c := by
  rw [List.getElem_append]
  split
  · rfl
  · simp
theorem l_addG {o cap : Nat} (ho : KD o = (11, 0)) (hr : RF o 0 = o + 1) (hc : KD (o + 1) = (1, cap)) (hcap : cap < 2147483648) {cs : List Nat} (hL : Let M o cs) (hl : cs.length < cap) {c : Nat} (hc16 : c < 65536) {Q : MEM → Prop} (hQ : ∀ M', Let M' o (cs ++ [c]) → FrI (inL o) M M' → Q M') : wp_X1_add o (nI c) M Q := by
  obtain ⟨h1, h2⟩ := hL
  unfold wp_X1_add
  rw [h1, hr]
  refine ⟨ho, fun w => absurd w (nI_pos (by omega)), fun _ => ⟨cap, hc, fun w => absurd ((nI_leI (by omega) (by omega)).mp w) (by omega), fun _ => ⟨nV hl hcap, gC_n hc16, fun M5 e5 M6 e6 => ?_⟩⟩⟩
  rw [nC (by omega)] at e5
  have k5 : mI M5 o 1 = nI cs.length := by rw [e5, rd_ne (by omega)]; exact h1
  rw [k5, n1, nA] at e6
  refine hQ M6 ⟨by rw [e6, rd_eq, List.length_append]; rfl, fun k hk => ?_⟩ (by rw [e6, e5]; exact (FrI.uI (Or.inr rfl)).uIs (Or.inl rfl))
  rw [app_get hk, e6, rd_ne (by omega), e5]
  split
  · rename_i q; rw [rd_ne (by omega)]; exact h2 k q
  · rename_i q
    have hk' : k < cs.length + 1 := by rw [List.length_append] at hk; exact hk
    rw [show k = cs.length by omega, rd_eq]
theorem l_add10 {cs : List Nat} (hL : Let M 10 cs) (hl : cs.length < 2048) {c : Nat} (hc16 : c < 65536) {Q : MEM → Prop} (hQ : ∀ M', Let M' 10 (cs ++ [c]) → FrI (inL 10) M M' → Q M') : wp_X1_add 10 (nI c) M Q := l_addG (cap := 2048) rfl rfl rfl (by decide) hL hl hc16 hQ
theorem lN_dig {v u : Nat} (hv : v < 2 ^ 63) (h0 : 0 < u) (hu : u < 2 ^ 63) : gch ((48 + ((lN v / lN u) - (lN v / lN u) / 10 * 10) : Int64).toInt32) = nI (48 + v / u % 10) := by
  have e1 : lN v / lN u = lN (v / u) := pk_lDiv hv h0 hu
  have hlt : v / u < 2 ^ 63 := Nat.lt_of_le_of_lt (Nat.div_le_self _ _) hv
  have e2 : lN (v / u) - lN (v / u) / 10 * 10 = lN (v / u % 10) := pk_lRem (b := 10) hlt (by decide) (by decide)
  have e3 : (48 : Int64) + lN (v / u % 10) = lN (48 + v / u % 10) := (Int64.ofNat_add 48 _).symm
  rw [e1, e2, e3, lN_i]
  have := gC_n (c := 48 + v / u % 10) (by omega)
  unfold gch
  rw [pk_char, pk_tn (by omega)]
  congr 1; omega
theorem l_emit {cs : List Nat} (v : Nat) (hv : v < 10000000000) {Q : MEM → Prop} : ∀ e (hE : e ≤ 9) (M : MEM) (cs : List Nat), Let M 10 cs → cs.length + (e + 1) ≤ 2048 → (∀ M', Let M' 10 (cs ++ emit v e) → FrI (inL 10) M M' → Q M') → ∀ f, e + 1 < f → wp_X1_addNumber_L56 10 Q (lN v) f (lN (10 ^ e)) M := by
  intro e
  induction e with
  | zero =>
    intro hE M cs hL hl hQ f hf
    obtain ⟨f, rfl⟩ : ∃ g, f = g + 2 := ⟨f - 2, by omega⟩
    show (lN (10 ^ 0) ≤ 0 → _) ∧ (¬ lN (10 ^ 0) ≤ 0 → _)
    refine ⟨fun w => absurd w (by decide), fun _ => ⟨by decide, ?_⟩⟩
    rw [lN_dig (by omega) (by decide) (by decide)]
    refine l_add10 hL (by omega) (by omega) (fun M1 h1 F1 x e1 => ?_)
    have : x = 0 := by rw [e1]; decide
    subst this
    exact ⟨fun _ => hQ M1 h1 F1, fun w => absurd (by decide) w⟩
  | succ e ih =>
    intro hE M cs hL hl hQ f hf
    obtain ⟨f, rfl⟩ : ∃ g, f = g + 1 := ⟨f - 1, by omega⟩
    have hp : 0 < 10 ^ (e + 1) := Nat.pow_pos (by decide)
    have hp2 : 10 ^ (e + 1) < 2 ^ 63 := Nat.lt_of_le_of_lt (Nat.pow_le_pow_right (by decide) hE) (by decide)
    show (lN (10 ^ (e + 1)) ≤ 0 → _) ∧ (¬ lN (10 ^ (e + 1)) ≤ 0 → _)
    have hnle : ¬ lN (10 ^ (e + 1)) ≤ 0 := fun w => absurd ((pk_lLE (b := 0) hp2 (by decide)).mp w) (by omega)
    refine ⟨fun w => absurd w hnle, fun _ => ⟨fun w => hnle (by rw [w]; decide), ?_⟩⟩
    rw [lN_dig (by omega) hp hp2]
    refine l_add10 hL (by omega) (by omega) (fun M1 h1 F1 x e1 => ?_)
    have hx : x = lN (10 ^ e) := by
      rw [e1]
      have := pk_lDiv (a := 10 ^ (e + 1)) (b := 10) hp2 (by decide) (by decide)
      refine this.trans (congrArg lN ?_)
      rw [Nat.pow_succ]; omega
    subst hx
    refine ih (by omega) M1 _ h1 (by rw [List.length_append]; simp; omega) (fun M2 h2 F2 => hQ M2 ?_ (F1.trans F2)) f (by omega)
    rw [List.append_assoc] at h2
    exact h2
theorem l_J18 (v : Nat) (hv : v < 10000000000) {cs : List Nat} (hL : Let M 10 cs) (hl : cs.length + 11 ≤ 2048) {Q : MEM → Prop} (hQ : ∀ M', Let M' 10 (cs ++ emit v (lg 9 v)) → FrI (inL 10) M M' → Q M') : wp_X1_addNumber_J18 10 Q (lN v) M := by
  have hg := lg_le 9 v
  have hup := lg_up 9 v hv
  refine ⟨lg 9 v + 1, ?_⟩
  have fin : wp_X1_addNumber_J56 10 Q (lN v) M (lN (10 ^ (lg 9 v))) := ⟨lg 9 v + 3, l_emit (cs := cs) v hv _ hg M cs hL (by omega) hQ _ (by omega)⟩
  have lp : ∀ f e, e ≤ lg 9 v → lg 9 v - e < f → wp_X1_addNumber_L24 10 Q (lN v) M f (lN (10 ^ e)) (nI (e + 1)) := by
    intro f
    induction f with
    | zero => intro e _ h; omega
    | succ f ih =>
      intro e he hf
      have hp2 : 10 ^ (e + 1) < 2 ^ 63 := Nat.lt_of_le_of_lt (Nat.pow_le_pow_right (by decide) (show e + 1 ≤ 10 by omega)) (by decide)
      have emul : lN (10 ^ e) * 10 = lN (10 ^ (e + 1)) := by rw [Nat.pow_succ]; exact (Int64.ofNat_mul _ 10).symm
      unfold wp_X1_addNumber_L24
      rw [emul]
      by_cases c : e = lg 9 v
      · subst c
        refine ⟨fun _ => fin, fun _ => ⟨fun _ => fin, fun w => absurd ((pk_lLT (by omega) hp2).mpr hup) w⟩⟩
      · have hlo := lg_lo 9 v e (by omega)
        refine ⟨fun w => absurd ((nI_leI (a := 10) (by decide) (by omega)).mp w) (by omega), fun _ => ⟨fun w => absurd ((pk_lLT (by omega) hp2).mp w) (by omega), fun _ x4 e4 x6 e6 => ?_⟩⟩
        rw [e4, e6, n1, nA]
        exact ih (e + 1) (by omega) (by omega)
  exact lp _ 0 (Nat.zero_le _) (by omega)
theorem l_addNumber {x : Int32} {cs : List Nat} (hL : Let M 10 cs) (hl : cs.length + 12 ≤ 2048) {Q : MEM → Prop} (hQ : ∀ M', Let M' 10 (cs ++ numA x) → FrI (inL 10) M M' → Q M') : wp_X1_addNumber 10 x M Q := by
  refine ⟨rfl, fun x2 e2 => ?_⟩
  have hx1 := x.toInt_lt
  have hx2 := x.le_toInt
  unfold numA at hQ
  have ht : x2.toInt = x.toInt := by rw [e2]; exact Int32.toInt_toInt64 x
  by_cases c : x.toInt < 0
  · rw [if_pos c] at hQ
    refine ⟨fun w => absurd (Int64.le_iff_toInt_le.mp w) (by rw [ht]; simp; omega), fun _ => ?_⟩
    refine l_add10 (c := 45) hL (by omega) (by decide) (fun M1 h1 F1 x3 e3 => ?_)
    have hx3 : x3 = lN x.toInt.natAbs := by
      refine Int64.toInt_inj.mp ?_
      rw [e3, pk_lT (by omega), Int64.toInt_neg, ht]
      rw [Int.bmod_eq_of_le (by omega) (by omega)]
      omega
    rw [hx3]
    refine l_J18 _ (by omega) h1 (by rw [List.length_append]; simp; omega) (fun M2 h2 F2 => hQ M2 ?_ (F1.trans F2))
    rw [List.append_assoc] at h2
    exact h2
  · rw [if_neg c] at hQ
    refine ⟨fun _ => ?_, fun w => absurd (Int64.le_iff_toInt_le.mpr (by rw [ht]; simp; omega)) w⟩
    have hx3 : x2 = lN x.toInt.natAbs := by
      refine Int64.toInt_inj.mp ?_
      rw [pk_lT (by omega), ht]; omega
    rw [hx3]
    exact l_J18 _ (by omega) hL (by omega) hQ
end PLT
