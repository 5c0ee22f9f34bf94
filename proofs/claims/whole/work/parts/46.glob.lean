-- PURE: ranges; the whole state as it is meant, and what the class's objects say of it
def rng (x : Int32) (l u : Int) : Prop := l ≤ x.toInt ∧ x.toInt ≤ u
theorem rng_nI {x : Int32} {l u : Int} (h : rng x l u) (hl : 0 ≤ l) : ∃ n : Nat, x = nI n ∧ l ≤ n ∧ (n : Int) ≤ u ∧ n < 2147483648 := by
  obtain ⟨h1, h2⟩ := h
  have h3 := x.toInt_lt
  refine ⟨x.toInt.toNat, Int32.toInt_inj.mp ?_, by omega, by omega, by omega⟩
  rw [nI_toInt (by omega)]
  omega
theorem rng_of {n : Nat} (hn : n < 2147483648) {l u : Int} : rng (nI n) l u ↔ l ≤ n ∧ (n : Int) ≤ u := by
  unfold rng; rw [nI_toInt hn]
theorem i64_lt {x : Int32} {lo : Int64} {l : Int} (hl : lo.toInt = l) : x.toInt64 < lo ↔ x.toInt < l := by
  rw [Int64.lt_iff_toInt_lt, Int32.toInt_toInt64, hl]
theorem i64_gt {x : Int32} {lo : Int64} {l : Int} (hl : lo.toInt = l) : lo < x.toInt64 ↔ l < x.toInt := by
  rw [Int64.lt_iff_toInt_lt, Int32.toInt_toInt64, hl]
section PG
variable {M : MEM}
theorem s_w32 {x : Int32} {lo hi : Int64} (l u : Int) {Q : Int32 → Prop} (hl : lo.toInt = l) (hu : hi.toInt = u) (h1 : rng x l u → Q 1) (h0 : ¬ rng x l u → Q 0) : wp_X5_isWithin x.toInt64 lo hi M Q := by
  unfold wp_X5_isWithin
  rw [i64_lt hl, i64_gt hu]
  refine ⟨fun c => h0 (fun w => by have := w.1; omega), fun c => ⟨fun d => h0 (fun w => by have := w.2; omega), fun d => h1 ⟨by omega, by omega⟩⟩⟩
theorem q_w32 {x : Int32} {lo hi : Int64} (l u : Int) {Q : Int32 → Prop} (hl : lo.toInt = l) (hu : hi.toInt = u) (h1 : rng x l u → Q 1) (h0 : ¬ rng x l u → Q 0) : wp_X6_isBetween x.toInt64 lo hi M Q := by
  unfold wp_X6_isBetween
  rw [i64_lt hl, i64_gt hu]
  refine ⟨fun c => h0 (fun w => by have := w.1; omega), fun c => ⟨fun d => h0 (fun w => by have := w.2; omega), fun d => h1 ⟨by omega, by omega⟩⟩⟩
def setOk (k z p : Int32) : Prop := rng k 0 3 ∧ rng z 1 12 ∧ rng p 0 40
theorem s_settings {k z p : Int32} {Q : Int32 → Prop} (h1 : setOk k z p → Q 1) (h0 : ¬ setOk k z p → Q 0) : wp_X5_areSettings k.toInt64 z.toInt64 p.toInt64 M Q := by
  unfold wp_X5_areSettings
  refine s_w32 0 3 (by decide) (by decide) (fun a => ⟨fun e => absurd e (by decide), fun _ => s_w32 1 12 (by decide) (by decide) (fun b => ⟨fun e => absurd e (by decide), fun _ => s_w32 0 40 (by decide) (by decide) (fun c => ⟨fun e => absurd e (by decide), fun _ => h1 ⟨a, b, c⟩⟩) (fun c => ⟨fun _ => h0 (fun w => c w.2.2), fun e => absurd rfl e⟩)⟩) (fun b => ⟨fun _ => h0 (fun w => b w.2.1), fun e => absurd rfl e⟩)⟩) (fun a => ⟨fun _ => h0 (fun w => a w.1), fun e => absurd rfl e⟩)
theorem q_settings {k z p : Int32} {Q : Int32 → Prop} (h1 : setOk k z p → Q 1) (h0 : ¬ setOk k z p → Q 0) : wp_X6_isSummary k.toInt64 z.toInt64 p.toInt64 M Q := by
  unfold wp_X6_isSummary
  refine q_w32 0 3 (by decide) (by decide) (fun a => ⟨fun e => absurd e (by decide), fun _ => q_w32 1 12 (by decide) (by decide) (fun b => ⟨fun e => absurd e (by decide), fun _ => q_w32 0 40 (by decide) (by decide) (fun c => ⟨fun e => absurd e (by decide), fun _ => h1 ⟨a, b, c⟩⟩) (fun c => ⟨fun _ => h0 (fun w => c w.2.2), fun e => absurd rfl e⟩)⟩) (fun b => ⟨fun _ => h0 (fun w => b w.2.1), fun e => absurd rfl e⟩)⟩) (fun a => ⟨fun _ => h0 (fun w => a w.1), fun e => absurd rfl e⟩)
def partOk (k t w v : Int32) : Prop := rng k 0 99 ∧ rng t 0 3 ∧ rng w 1 99 ∧ rng v (-999) 999
theorem s_parts {k t w v : Int32} {Q : Int32 → Prop} (h1 : partOk k t w v → Q 1) (h0 : ¬ partOk k t w v → Q 0) : wp_X5_areParts k.toInt64 t.toInt64 w.toInt64 v.toInt64 M Q := by
  unfold wp_X5_areParts
  refine s_w32 0 99 (by decide) (by decide) (fun a => ⟨fun e => absurd e (by decide), fun _ => s_w32 0 3 (by decide) (by decide) (fun b => ⟨fun e => absurd e (by decide), fun _ => s_w32 1 99 (by decide) (by decide) (fun c => ⟨fun e => absurd e (by decide), fun _ => s_w32 (-999) 999 (by decide) (by decide) (fun d => ⟨fun e => absurd e (by decide), fun _ => h1 ⟨a, b, c, d⟩⟩) (fun c => ⟨fun _ => h0 (fun w => c w.2.2.2), fun e => absurd rfl e⟩)⟩) (fun c => ⟨fun _ => h0 (fun w => c w.2.2.1), fun e => absurd rfl e⟩)⟩) (fun b => ⟨fun _ => h0 (fun w => b w.2.1), fun e => absurd rfl e⟩)⟩) (fun a => ⟨fun _ => h0 (fun w => a w.1), fun e => absurd rfl e⟩)
theorem q_isSlot {p : Int32} {Q : Int32 → Prop} (h1 : rng p 0 3 → Q 1) (h0 : ¬ rng p 0 3 → Q 0) : wp_X6_isSlot p M Q := by
  unfold wp_X6_isSlot
  refine ⟨fun c => h0 (fun w => ?_), fun c => ⟨fun d => h0 (fun w => ?_), fun d => h1 ⟨?_, ?_⟩⟩⟩
  · have := Int32.lt_iff_toInt_lt.mp c; have := w.1; simp at *; omega
  · have := Int32.le_iff_toInt_le.mp d; have := w.2; simp at *; omega
  · have := mt Int32.lt_iff_toInt_lt.mpr c; simp at *; omega
  · have := mt Int32.le_iff_toInt_le.mpr d; simp at *; omega
theorem q_isStratum {p : Int32} {Q : Int32 → Prop} (h1 : rng p 0 3 → Q 1) (h0 : ¬ rng p 0 3 → Q 0) : wp_X6_isStratum p M Q := by
  unfold wp_X6_isStratum
  refine ⟨fun c => h0 (fun w => ?_), fun c => ⟨fun d => h0 (fun w => ?_), fun d => h1 ⟨?_, ?_⟩⟩⟩
  · have := Int32.lt_iff_toInt_lt.mp c; have := w.1; simp at *; omega
  · have := Int32.le_iff_toInt_le.mp d; have := w.2; simp at *; omega
  · have := mt Int32.lt_iff_toInt_lt.mpr c; simp at *; omega
  · have := mt Int32.le_iff_toInt_le.mpr d; simp at *; omega
theorem q_isItem {k t w v : Int32} {Q : Int32 → Prop} (h1 : partOk k t w v → Q 1) (h0 : ¬ partOk k t w v → Q 0) : wp_X6_isItem k t w v M Q := by
  unfold wp_X6_isItem
  refine q_w32 0 99 (by decide) (by decide) (fun a => ⟨fun e => absurd e (by decide), fun _ => q_isStratum (fun b => ⟨fun e => absurd e (by decide), fun _ => q_w32 1 99 (by decide) (by decide) (fun c => ⟨fun e => absurd e (by decide), fun _ => q_w32 (-999) 999 (by decide) (by decide) (fun d => ⟨fun e => absurd e (by decide), fun _ => h1 ⟨a, b, c, d⟩⟩) (fun c => ⟨fun _ => h0 (fun w => c w.2.2.2), fun e => absurd rfl e⟩)⟩) (fun c => ⟨fun _ => h0 (fun w => c w.2.2.1), fun e => absurd rfl e⟩)⟩) (fun b => ⟨fun _ => h0 (fun w => b w.2.1), fun e => absurd rfl e⟩)⟩) (fun a => ⟨fun _ => h0 (fun w => a w.1), fun e => absurd rfl e⟩)
theorem s_slotAt {p : Int32} {Q : Nat → Prop} {X : String → Prop} (h1 : ∀ s, s < 4 → p = nI s → Q (100 + s)) (h0 : ¬ rng p 0 3 → X "java/lang/IndexOutOfBoundsException") : wp_X5_slotAt 1 p M Q X := by
  unfold wp_X5_slotAt
  refine ⟨rfl, fun c => h0 (fun w => ?_), fun c => ⟨fun d => ⟨rfl, ?_⟩, fun d => h0 (fun w => ?_)⟩⟩
  · have := Int32.lt_iff_toInt_lt.mp c; have := w.1; simp at *; omega
  · have h2 : rng p 0 3 := by
      have h3 := mt Int32.lt_iff_toInt_lt.mpr c
      have h4 := Int32.lt_iff_toInt_lt.mp d
      refine ⟨?_, ?_⟩ <;> simp at * <;> omega
    obtain ⟨n, rfl, -, hn, -⟩ := rng_nI h2 (by decide)
    have hn4 : n < 4 := by omega
    refine ⟨nV hn4 (by decide), ?_⟩
    rw [nC (by omega)]
    exact h1 n hn4 rfl
  · have := mt Int32.lt_iff_toInt_lt.mpr d; have := w.2; simp at *; omega
end PG
-- the whole state: slots and next number; what is saved; the changes with their slots, the latest first; input; output
abbrev FULL : Type := (Nat → SLT) × Nat
abbrev GST : Type := FULL × Option FULL × List (Nat × FULL) × List Nat × List Nat
abbrev gCur (G : GST) : FULL := G.1
abbrev gSav (G : GST) : Option FULL := G.2.1
abbrev gHis (G : GST) : List (Nat × FULL) := G.2.2.1
abbrev gInp (G : GST) : List Nat := G.2.2.2.1
abbrev gOut (G : GST) : List Nat := G.2.2.2.2
def chain : FULL → List (Nat × FULL) → Prop
  | _, [] => True
  | c, (s, F) :: r => s < 4 ∧ (∀ i, i ≠ s → F.1 i = c.1 i) ∧ chain F r
def okF (B : Nat) (F : FULL) : Prop := F.2 ≤ B ∧ ∀ i, i < 4 → WF F.2 (F.1 i)
def WFG (B : Nat) (G : GST) : Prop :=
  okF B (gCur G) ∧ (∀ F, gSav G = some F → okF B F) ∧ (∀ q ∈ gHis G, okF B q.2) ∧ chain (gCur G) (gHis G) ∧ (gHis G).length ≤ 10 ∧
  ((gInp G).length ≤ 120 ∧ ∀ c ∈ gInp G, c < 65536) ∧ (gOut G).length ≤ 1279 ∧ ∀ c ∈ gOut G, c < 128
/-- the object that holds the j-th latest change, where the next one goes to tp -/
def rix (tp j : Nat) : Nat := (tp + 9 - j) % 10
def hist0 : Nat × FULL := (0, fun _ => (false, (0, 0, 0, 0), fun _ => 0, []), 0)
def SIMC (M : MEM) (G : GST) : Prop :=
  (∀ i, i < 4 → RepC M (100 + i) ((gCur G).1 i)) ∧ mI M 1 4 = nI (gCur G).2 ∧
  (mI M 1 2 = if (gSav G).isSome = true then 1 else 0) ∧ (∀ F, gSav G = some F → (∀ i, i < 4 → RepC M (104 + i) (F.1 i)) ∧ mI M 1 3 = nI F.2) ∧
  (mI M 4 3 = nI (gHis G).length ∧ ∃ tp, tp < 10 ∧ mI M 4 4 = nI tp ∧ ∀ j (hj : j < (gHis G).length), mI M 6 (rix tp j) = nI ((gHis G)[j]).1 ∧ RepC M (111 + rix tp j) (((gHis G)[j]).2.1 ((gHis G)[j]).1) ∧ mI M 7 (rix tp j) = nI ((gHis G)[j]).2.2) ∧
  (mI M 8 1 = nI (gInp G).length ∧ ∀ k (hk : k < (gInp G).length), mI M 9 k = nI (gInp G)[k]) ∧
  (mI M 10 1 = nI (gOut G).length ∧ ∀ k (hk : k < (gOut G).length), mI M 11 k = nI (gOut G)[k])
/-- the objects that the class's state stands in -/
def liveC (b : Nat) : Prop := b = 1 ∨ b = 4 ∨ (6 ≤ b ∧ b ≤ 11) ∨ (100 ≤ b ∧ b < 400 ∧ b % 100 ≠ 8)
theorem SIMC.of {M M' : MEM} {G : GST} (h : SIMC M G) (e : ∀ b, liveC b → ∀ j, mI M' b j = mI M b j) : SIMC M' G := by
  obtain ⟨h1, h2, h3, h4, ⟨h5, tp, ht, h6, h7⟩, h8, h9⟩ := h
  have hr : ∀ {h a}, 100 ≤ h → h < 121 → h ≠ 108 → RepC M h a → RepC M' h a := fun h1 h2 h3 hr => hr.of (fun b hb j => e b (Or.inr (Or.inr (Or.inr (by unfold inH at hb; omega)))) j)
  have e1 := e 1 (Or.inl rfl)
  have e4 := e 4 (Or.inr (Or.inl rfl))
  have e6 := e 6 (Or.inr (Or.inr (Or.inl ⟨by decide, by decide⟩)))
  have e7 := e 7 (Or.inr (Or.inr (Or.inl ⟨by decide, by decide⟩)))
  have e8 := e 8 (Or.inr (Or.inr (Or.inl ⟨by decide, by decide⟩)))
  have e9 := e 9 (Or.inr (Or.inr (Or.inl ⟨by decide, by decide⟩)))
  have e10 := e 10 (Or.inr (Or.inr (Or.inl ⟨by decide, by decide⟩)))
  have e11 := e 11 (Or.inr (Or.inr (Or.inl ⟨by decide, by decide⟩)))
  refine ⟨fun i hi => hr (by omega) (by omega) (by omega) (h1 i hi), by rw [e1]; exact h2, by rw [e1]; exact h3, fun F hF => ⟨fun i hi => hr (by omega) (by omega) (by omega) ((h4 F hF).1 i hi), by rw [e1]; exact (h4 F hF).2⟩, ⟨by rw [e4]; exact h5, tp, ht, by rw [e4]; exact h6, fun j hj => ?_⟩, ?_, ?_⟩
  · obtain ⟨a, b, c⟩ := h7 j hj
    have hx : rix tp j < 10 := Nat.mod_lt _ (by decide)
    exact ⟨by rw [e6]; exact a, hr (by omega) (by omega) (by omega) b, by rw [e7]; exact c⟩
  · exact ⟨by rw [e8]; exact h8.1, fun k hk => by rw [e9]; exact h8.2 k hk⟩
  · exact ⟨by rw [e10]; exact h9.1, fun k hk => by rw [e11]; exact h9.2 k hk⟩
theorem SIMC.cs {B : Nat} {M : MEM} {G : GST} (h : SIMC M G) (hw : WFG B G) (hB : B ≤ 1100000) {s : Nat} (hs : s < 4) : CS (gCur G).2 M (100 + s) ((gCur G).1 s) :=
  ⟨h.1 s hs, hw.1.2 s hs, by omega, by omega, Nat.le_trans hw.1.1 hB⟩
