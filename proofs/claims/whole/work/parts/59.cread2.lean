-- PURE: the class reads a text: ranges, the new list
def nAt (ns : List Int) (i : Nat) : Int := ns.getD i 0
def prsR (cs : List Nat) : Option Nat × List Int := prs cs 61 0 0 []
theorem prs_ok (cs : List Nat) (hl : cs.length ≤ 120) : ∀ f k p ns, ns.length = k → 2 * k ≤ p → p ≤ cs.length → (∀ v ∈ ns, -10000000000 < v ∧ v < 10000000000) → (prs cs f k p ns).1 = none → (prs cs f k p ns).2.length ≤ 60 ∧ 1 ≤ (prs cs f k p ns).2.length ∧ lastP ((prs cs f k p ns).2.length - 1) = true ∧ ∀ v ∈ (prs cs f k p ns).2, -10000000000 < v ∧ v < 10000000000 := by
  intro f
  induction f with
  | zero => intro k p ns _ _ _ _ h; exact absurd h (by simp [prs])
  | succ f ih =>
    intro k p ns hn hp hp2 hv h
    have hE := numE_le hp2
    have hv2 : ∀ v ∈ ns ++ [numV cs p], -10000000000 < v ∧ v < 10000000000 := fun v hm => by
      rcases List.mem_append.mp hm with hm | hm
      · exact hv v hm
      · rw [List.mem_singleton.mp hm]; exact numV_lt cs p
    have hlen : (ns ++ [numV cs p]).length = k + 1 := by rw [List.length_append, hn]; rfl
    rw [prs] at h ⊢
    split at h
    · exact absurd h (by simp)
    · rename_i c1
      have hgt := numE_gt hp2 c1
      rw [if_neg c1]
      split at h
      · rename_i c2
        rw [if_pos c2]
        split at h
        · rename_i c3
          rw [if_pos c3]
          refine ⟨by show (ns ++ [numV cs p]).length ≤ 60; omega, by show 1 ≤ (ns ++ [numV cs p]).length; omega, ?_, hv2⟩
          show lastP ((ns ++ [numV cs p]).length - 1) = true
          rw [hlen]; exact c3
        · exact absurd h (by simp)
      · rename_i c2
        rw [if_neg c2]
        split at h
        · rename_i c3
          rw [if_pos c3]
          exact ih (k + 1) _ _ hlen (by omega) (by omega) hv2 h
        · exact absurd h (by simp)
theorem last_form {n : Nat} (h1 : 1 ≤ n) (h : lastP (n - 1) = true) : ∃ m, n = 4 + 5 * m := by
  unfold lastP at h
  split at h
  · have := of_decide_eq_true h
    exact ⟨0, by omega⟩
  · have : (n - 1 - 4) % 5 = 4 := of_decide_eq_true h
    exact ⟨(n - 4) / 5, by omega⟩
/-- what a text that is read to its end has -/
def okN (ns : List Int) (m : Nat) : Prop := ns.length = 4 + 5 * m ∧ m ≤ 11 ∧ ∀ i, -10000000000 < nAt ns i ∧ nAt ns i < 10000000000
theorem prs_okN {cs : List Nat} (hl : cs.length ≤ 120) (h : (prsR cs).1 = none) : ∃ m, okN (prsR cs).2 m := by
  obtain ⟨h1, h2, h3, h4⟩ := prs_ok cs hl 61 0 0 [] rfl (Nat.le_refl _) (Nat.zero_le _) (fun v hv => absurd hv List.not_mem_nil) h
  obtain ⟨m, hm⟩ := last_form h2 h3
  have hm' : (prsR cs).2.length = 4 + 5 * m := hm
  have h1' : (prsR cs).2.length ≤ 60 := h1
  refine ⟨m, hm, by omega, fun i => ?_⟩
  unfold nAt
  by_cases c : i < (prsR cs).2.length
  · rw [List.getD_eq_getElem?_getD, List.getElem?_eq_getElem c]; exact h4 _ (List.getElem_mem c)
  · rw [List.getD_eq_getElem?_getD, List.getElem?_eq_none (Nat.not_lt.mp c)]; decide
def okSt (ns : List Int) : Prop := (0 ≤ nAt ns 0 ∧ nAt ns 0 ≤ 3) ∧ (1 ≤ nAt ns 1 ∧ nAt ns 1 ≤ 12) ∧ (0 ≤ nAt ns 3 ∧ nAt ns 3 ≤ 40) ∧ (-2147483648 ≤ nAt ns 2 ∧ nAt ns 2 ≤ 2147483647)
def prvN (ns : List Int) (i : Nat) : Int := if i = 0 then -1 else nAt ns (4 + 5 * (i - 1))
def okRw (ns : List Int) (i : Nat) : Prop := (prvN ns i < nAt ns (4 + 5 * i) ∧ nAt ns (4 + 5 * i) ≤ 999999) ∧ (0 ≤ nAt ns (4 + 5 * i + 1) ∧ nAt ns (4 + 5 * i + 1) ≤ 99) ∧ (0 ≤ nAt ns (4 + 5 * i + 2) ∧ nAt ns (4 + 5 * i + 2) ≤ 3) ∧ (1 ≤ nAt ns (4 + 5 * i + 3) ∧ nAt ns (4 + 5 * i + 3) ≤ 99) ∧ (-999 ≤ nAt ns (4 + 5 * i + 4) ∧ nAt ns (4 + 5 * i + 4) ≤ 999)
def okT (ns : List Int) (m : Nat) : Prop := okSt ns ∧ ∀ i, i < m → okRw ns i
def itmR (ns : List Int) (i : Nat) : ITM := ((nAt ns (4 + 5 * i)).toNat, (nAt ns (4 + 5 * i + 1)).toNat, (nAt ns (4 + 5 * i + 2)).toNat, (nAt ns (4 + 5 * i + 3)).toNat, Int32.ofInt (nAt ns (4 + 5 * i + 4)))
def readA (ns : List Int) (m : Nat) : SLT := (true, ((nAt ns 0).toNat, (nAt ns 1).toNat, Int32.ofInt (nAt ns 2), (nAt ns 3).toNat), (fun _ => (nAt ns 1).toNat), (List.range m).map (itmR ns))
def nxR (ns : List Int) (m nx : Nat) : Nat := if m = 0 then nx else max nx ((nAt ns (4 + 5 * (m - 1))).toNat + 1)
def fitsS (ns : List Int) (m : Nat) : Prop := (m : Int) ≤ if nAt ns 3 = 0 then 60 else nAt ns 3
theorem iL32 {v : Int} (h0 : 0 ≤ v) (h1 : v < 2147483648) : (iL v).toInt32 = nI v.toNat := by
  have : iL v = lN v.toNat := (iL_of (by rw [pk_lT (by omega)]; omega)).symm
  rw [this, lN_i]
theorem iL32i (v : Int) : (iL v).toInt32 = Int32.ofInt v := by
  unfold iL
  exact Int64.toInt32_ofInt
theorem ofInt_toInt {v : Int} (h1 : -2147483648 ≤ v) (h2 : v < 2147483648) : (Int32.ofInt v).toInt = v := Int32.toInt_ofInt_of_le (by omega) (by omega)
theorem itm_ok {ns : List Int} {i : Nat} (h : okRw ns i) {nx : Nat} (hx : nAt ns (4 + 5 * i) < nx) (h0 : 0 ≤ nAt ns (4 + 5 * i)) : okI nx (itmR ns i) := by
  obtain ⟨a, b, c, d, e⟩ := h
  have := ofInt_toInt (v := nAt ns (4 + 5 * i + 4)) (by omega) (by omega)
  refine ⟨?_, ?_, ?_, ?_, ?_, ?_, ?_⟩
  · show (nAt ns (4 + 5 * i)).toNat < nx; omega
  · show (nAt ns (4 + 5 * i + 1)).toNat ≤ 99; omega
  · show (nAt ns (4 + 5 * i + 2)).toNat < 4; omega
  · show 1 ≤ (nAt ns (4 + 5 * i + 3)).toNat; omega
  · show (nAt ns (4 + 5 * i + 3)).toNat ≤ 99; omega
  · show -999 ≤ (Int32.ofInt (nAt ns (4 + 5 * i + 4))).toInt; omega
  · show (Int32.ofInt (nAt ns (4 + 5 * i + 4))).toInt ≤ 999; omega
theorem okT_asc {ns : List Int} {m : Nat} (h : okT ns m) : ∀ i j, i < j → j < m → nAt ns (4 + 5 * i) < nAt ns (4 + 5 * j) := by
  intro i j
  induction j with
  | zero => intro h; omega
  | succ j ih =>
    intro hij hj
    have h1 := (h.2 (j + 1) hj).1.1
    unfold prvN at h1
    rw [if_neg (by omega), Nat.add_sub_cancel] at h1
    by_cases c : i = j
    · subst c; exact h1
    · have := ih (by omega) (by omega); omega
theorem okT_nn {ns : List Int} {m : Nat} (h : okT ns m) {i : Nat} (hi : i < m) : 0 ≤ nAt ns (4 + 5 * i) := by
  by_cases c : i = 0
  · subst c
    have h1 := (h.2 0 hi).1.1
    unfold prvN at h1
    rw [if_pos rfl] at h1; omega
  · have h2 := okT_asc h 0 i (by omega) hi
    have h1 := (h.2 0 (by omega)).1.1
    unfold prvN at h1
    rw [if_pos rfl] at h1; omega
theorem it_read {ns : List Int} {m i : Nat} (hi : i < m) : it (readA ns m) i = itmR ns i := by
  unfold it readA
  show ((List.range m).map (itmR ns)).getD i _ = _
  rw [List.getD_eq_getElem?_getD, List.getElem?_eq_getElem (by simpa using hi)]
  simp
theorem sN_read (ns : List Int) (m : Nat) : sN (readA ns m) = m := by
  show ((List.range m).map (itmR ns)).length = m; simp
theorem read_ok {ns : List Int} {m nx : Nat} (hm : m ≤ 11) (h : okT ns m) (hf : fitsS ns m) : WF (nxR ns m nx) (readA ns m) := by
  obtain ⟨s0, s1, s3, s2⟩ := h.1
  refine ⟨by rw [sN_read]; omega, (fun w => by cases w), fun _ => ⟨?_, ?_, ?_, ?_, fun t _ => ?_, fun w => ?_⟩, fun i hi => ?_, fun i j hij hj => ?_⟩
  · show (nAt ns 0).toNat ≤ 3; omega
  · show 1 ≤ (nAt ns 1).toNat; omega
  · show (nAt ns 1).toNat ≤ 12; omega
  · show (nAt ns 3).toNat ≤ 40; omega
  · show (nAt ns 1).toNat ≤ 12; omega
  · have w' : (nAt ns 3).toNat ≠ 0 := w
    rw [sN_read]
    show m ≤ (nAt ns 3).toNat
    unfold fitsS at hf
    rw [if_neg (by omega)] at hf
    omega
  · rw [sN_read] at hi
    rw [it_read hi]
    have h0 := okT_nn h hi
    refine itm_ok (h.2 i hi) ?_ h0
    unfold nxR
    rw [if_neg (by omega)]
    have : nAt ns (4 + 5 * i) ≤ nAt ns (4 + 5 * (m - 1)) := by
      by_cases c : i = m - 1
      · rw [c]; exact Int.le_refl _
      · exact Int.le_of_lt (okT_asc h i (m - 1) (by omega) (by omega))
    have := Nat.le_max_right nx ((nAt ns (4 + 5 * (m - 1))).toNat + 1)
    omega
  · rw [sN_read] at hj
    rw [it_read (by omega), it_read hj]
    have h1 := okT_asc h i j hij hj
    have h0 := okT_nn h (i := i) (by omega)
    show (nAt ns (4 + 5 * i)).toNat < (nAt ns (4 + 5 * j)).toNat
    omega
theorem nxR_le {ns : List Int} {m nx B : Nat} (h : okT ns m) (hB : nx ≤ B) (hB2 : 1000000 ≤ B) : nx ≤ nxR ns m nx ∧ nxR ns m nx ≤ B := by
  unfold nxR
  split
  · exact ⟨Nat.le_refl _, hB⟩
  · have := (h.2 (m - 1) (by omega)).1.2
    exact ⟨Nat.le_max_left _ _, Nat.max_le.mpr ⟨hB, by omega⟩⟩
theorem w64 {M : MEM} {v l u : Int} {lo hi : Int64} (hl : lo.toInt = l) (hu : hi.toInt = u) (hv : -10000000000 < v ∧ v < 10000000000) {Q : Int32 → Prop} (h1 : l ≤ v ∧ v ≤ u → Q 1) (h0 : ¬ (l ≤ v ∧ v ≤ u) → Q 0) : wp_X5_isWithin (iL v) lo hi M Q := by
  have e := iL_toInt (v := v) (by omega) (by omega)
  unfold wp_X5_isWithin
  rw [Int64.lt_iff_toInt_lt, Int64.lt_iff_toInt_lt, e, hl, hu]
  exact ⟨fun c => h0 (by omega), fun c => ⟨fun d => h0 (by omega), fun d => h1 (by omega)⟩⟩
section PRD
variable {M : MEM} {ns : List Int} {m p : Nat}
theorem p_num (hP : Par M ns p) (hN : okN ns m) {i : Nat} (hi : i < 100) {Q : Int64 → Prop} (hQ : Q (iL (nAt ns i))) : wp_X2_numberAt 12 (nI i) M Q := by
  obtain ⟨g1, g2, g3⟩ := hP
  obtain ⟨n1, n2, n3⟩ := hN
  unfold wp_X2_numberAt
  rw [g1]
  by_cases c : i < ns.length
  · have e : nAt ns i = ns[i] := by unfold nAt; rw [List.getD_eq_getElem?_getD, List.getElem?_eq_getElem c]; rfl
    rw [e] at hQ
    refine ⟨rfl, fun w => absurd w (nI_pos (by omega)), fun _ => ⟨fun w => absurd w (nI_ge c (by omega)), fun _ => ⟨rfl, fun _ => ⟨nV (by omega) (by decide), ?_⟩, fun w => absurd (nI_lt (b := 60) (by omega) (by decide)) w⟩⟩⟩
    rw [nC (by omega), show mL M (RF 12 0) i = iL ns[i] from g3 i c]
    exact hQ
  · have e : nAt ns i = 0 := by unfold nAt; rw [List.getD_eq_getElem?_getD, List.getElem?_eq_none (Nat.not_lt.mp c)]; rfl
    rw [e] at hQ
    exact ⟨rfl, fun w => absurd w (nI_pos (by omega)), fun _ => ⟨fun _ => hQ, fun w => absurd (nI_le (Nat.not_lt.mp c) (by omega)) w⟩⟩
theorem p_items (hP : Par M ns p) (hN : okN ns m) {Q : Int32 → Prop} (hQ : Q (nI m)) : wp_X2_items 12 M Q := by
  refine ⟨rfl, ?_⟩
  obtain ⟨e1, e2, -⟩ := hN
  rw [hP.1, n4, pk_sub (by omega), n5, pk_div (by omega) (by decide) (by decide), show (ns.length - 4) / 5 = m by omega]
  exact hQ
theorem p_partAt (hP : Par M ns p) (hN : okN ns m) {i q : Nat} (hi : i < 12) (hq : q < 5) {Q : Int64 → Prop} (hQ : Q (iL (nAt ns (4 + 5 * i + q)))) : wp_X2_partAt 12 (nI i) (nI q) M Q := by
  refine ⟨rfl, ?_⟩
  rw [n4, n5, nM, nA, nA, Nat.mul_comm i 5]
  exact p_num hP hN (by omega) hQ
theorem p_range (hP : Par M ns p) (hN : okN ns m) {Q : Int32 → Prop} (h1 : okT ns m → Q 1) (h0 : ¬ okT ns m → Q 0) : wp_X2_isInRange 12 M Q := by
  have hb := hN.2.2
  have hm := hN.2.1
  have y : ∀ {x : Prop} , (1 : Int32) = 0 → x := fun e => absurd e (by decide)
  refine ⟨rfl, p_num hP hN (i := 0) (by decide) (p_num hP hN (i := 1) (by decide) (p_num hP hN (i := 3) (by decide) ?_))⟩
  unfold wp_X5_areSettings
  refine w64 (l := 0) (u := 3) (by decide) (by decide) (hb 0) (fun a => ⟨y, fun _ => w64 (l := 1) (u := 12) (by decide) (by decide) (hb 1) (fun b => ⟨y, fun _ => w64 (l := 0) (u := 40) (by decide) (by decide) (hb 3) (fun c => ⟨y, fun _ => ⟨y, fun _ => p_num hP hN (i := 2) (by decide) (w64 (l := -2147483648) (u := 2147483647) (by decide) (by decide) (hb 2) (fun d => ⟨fun _ => ⟨m + 1, ?_⟩, y⟩) (fun d => ⟨fun e => absurd rfl e, fun _ => h0 (fun w => d w.1.2.2.2)⟩))⟩⟩) (fun c => ⟨fun _ => ⟨fun _ => h0 (fun w => c w.1.2.2.1), fun e => absurd rfl e⟩, fun e => absurd rfl e⟩)⟩) (fun b => ⟨fun _ => ⟨fun _ => h0 (fun w => b w.1.2.1), fun e => absurd rfl e⟩, fun e => absurd rfl e⟩)⟩) (fun a => ⟨fun _ => ⟨fun _ => h0 (fun w => a w.1.1), fun e => absurd rfl e⟩, fun e => absurd rfl e⟩)
  have lp : ∀ f i, i ≤ m → m - i < f → (∀ j, j < i → okRw ns j) → wp_X2_isInRange_L46 12 M Q f (iL (prvN ns i)) (nI i) := by
    intro f
    induction f with
    | zero => intro i _ h9; omega
    | succ f ih =>
      intro i hi hf hok
      have hpb : -10000000000 < prvN ns i ∧ prvN ns i < 10000000000 := by
        unfold prvN; split
        · decide
        · exact hb _
      refine p_items hP hN ⟨fun w => ?_, fun w => ?_⟩
      · have : m ≤ i := (nI_leI (by omega) (by omega)).mp w
        exact h1 ⟨⟨a, b, c, d⟩, fun j hj => hok j (by omega)⟩
      · have him : i < m := Nat.not_le.mp (fun q => w (nI_le q (by omega)))
        refine p_partAt hP hN (q := 0) (by omega) (by decide) ?_
        rw [Nat.add_zero, Int64.le_iff_toInt_le, Int64.lt_iff_toInt_lt, iL_toInt (by have := hb (4 + 5 * i); omega) (by have := hb (4 + 5 * i); omega), iL_toInt (by omega) (by omega)]
        refine ⟨fun c1 => h0 (fun w => by have := (w.2 i him).1.1; omega), fun c1 => ⟨fun c2 => h0 (fun w => by have := (w.2 i him).1.2; have c2' : (999999 : Int) < _ := c2; omega), fun c2 => ?_⟩⟩
        have c2' : ¬ (999999 : Int) < nAt ns (4 + 5 * i) := c2
        refine p_partAt hP hN (q := 1) (by omega) (by decide) (p_partAt hP hN (q := 2) (by omega) (by decide) (p_partAt hP hN (q := 3) (by omega) (by decide) (p_partAt hP hN (q := 4) (by omega) (by decide) ?_)))
        unfold wp_X5_areParts
        refine w64 (l := 0) (u := 99) (by decide) (by decide) (hb _) (fun a1 => ⟨y, fun _ => w64 (l := 0) (u := 3) (by decide) (by decide) (hb _) (fun a2 => ⟨y, fun _ => w64 (l := 1) (u := 99) (by decide) (by decide) (hb _) (fun a3 => ⟨y, fun _ => w64 (l := -999) (u := 999) (by decide) (by decide) (hb _) (fun a4 => ⟨y, fun _ => ⟨fun _ x3 e3 => ?_, y⟩⟩) (fun a4 => ⟨fun _ => ⟨fun e => absurd rfl e, fun _ => h0 (fun w => a4 (w.2 i him).2.2.2.2)⟩, fun e => absurd rfl e⟩)⟩) (fun a3 => ⟨fun _ => ⟨fun e => absurd rfl e, fun _ => h0 (fun w => a3 (w.2 i him).2.2.2.1)⟩, fun e => absurd rfl e⟩)⟩) (fun a2 => ⟨fun _ => ⟨fun e => absurd rfl e, fun _ => h0 (fun w => a2 (w.2 i him).2.2.1)⟩, fun e => absurd rfl e⟩)⟩) (fun a1 => ⟨fun _ => ⟨fun e => absurd rfl e, fun _ => h0 (fun w => a1 (w.2 i him).2.1)⟩, fun e => absurd rfl e⟩)
        rw [e3, n1, nA]
        have := ih (i + 1) (by omega) (by omega) (fun j hj => by
          by_cases e : j = i
          · subst e; exact ⟨⟨by omega, by omega⟩, a1, a2, a3, a4⟩
          · exact hok j (by omega))
        rw [show prvN ns (i + 1) = nAt ns (4 + 5 * i) from by unfold prvN; rw [if_neg (by omega), Nat.add_sub_cancel]] at this
        exact this
  exact lp (m + 1) 0 (Nat.zero_le _) (by omega) (fun _ h => absurd h (Nat.not_lt_zero _))
theorem p_fits (hP : Par M ns p) (hN : okN ns m) {Q : Int32 → Prop} (h1 : fitsS ns m → Q 1) (h0 : ¬ fitsS ns m → Q 0) : wp_X2_fitsSpan 12 M Q := by
  have hb := hN.2.2 3
  have hm := hN.2.1
  refine ⟨rfl, p_num hP hN (i := 3) (by decide) (p_items hP hN ?_)⟩
  have e0 : iL (nAt ns 3) = 0 ↔ nAt ns 3 = 0 := by
    rw [← Int64.toInt_inj, iL_toInt (by omega) (by omega)]; exact Iff.rfl
  rw [e0, nI_l (by omega), Int64.lt_iff_toInt_lt, Int64.lt_iff_toInt_lt, iL_toInt (by omega) (by omega), pk_lT (by omega)]
  unfold fitsS at h1 h0
  refine ⟨fun c => ?_, fun c => ?_⟩
  · rw [if_neg c] at h1 h0
    exact ⟨fun d => h0 (by omega), fun d => h1 (by omega)⟩
  · rw [if_pos c] at h1 h0
    exact ⟨fun d => h0 (by have d' : (60 : Int) < m := d; omega), fun d => h1 (by have d' : ¬ (60 : Int) < m := d; omega)⟩
end PRD
