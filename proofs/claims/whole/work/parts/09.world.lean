-- THE WORLD: objects by numbers of our own; what each is stands in KD (kind, length), where its references lead in RF
def KD (i : Nat) : Nat × Nat :=
  if 100 ≤ i ∧ i < 121 then (14, 0) else if 200 ≤ i ∧ i < 221 then (0, 4) else if 300 ≤ i ∧ i < 321 then (0, 300) else
  match i with
  | 1 => (15, 0) | 2 => (4, 4) | 3 => (4, 4) | 4 => (10, 0) | 5 => (4, 10) | 6 => (0, 10) | 7 => (0, 10) | 8 => (11, 0) | 9 => (1, 120) | 10 => (11, 0) | 11 => (1, 2048)
  | 12 => (12, 0) | 13 => (2, 60) | 14 => (0, 4) | 15 => (0, 4) | 16 => (13, 0) | 17 => (13, 0)
  | 18 => (2, 60) | 19 => (0, 60) | 20 => (0, 60) | 21 => (0, 60) | 22 => (0, 60) | 23 => (0, 60) | 24 => (2, 60) | 25 => (0, 60) | 26 => (0, 60) | 27 => (0, 60) | 28 => (0, 60) | 29 => (0, 60)
  | 40 => (16, 0) | 41 => (0, 1241) | 42 => (0, 60) | 43 => (0, 60) | 44 => (0, 60) | 45 => (0, 4) | 46 => (0, 4) | 47 => (0, 600) | 48 => (0, 60) | 49 => (0, 60) | 50 => (0, 60) | 51 => (1, 120) | 52 => (2, 128) | 53 => (0, 1400) | 54 => (0, 12410) | 55 => (0, 1241)
  | 60 => (2, 1) | 61 => (3, 1)
  | _ => (99, 0)
def RF (i k : Nat) : Nat :=
  if 100 ≤ i ∧ i < 121 then (if k = 6 then i + 100 else i + 200) else
  match i with
  | 1 => (match k with | 0 => 2 | 1 => 3 | 5 => 4 | 6 => 108 | 7 => 16 | 8 => 17 | 9 => 8 | 10 => 10 | 11 => 12 | 12 => 14 | _ => 15)
  | 2 => 100 + k | 3 => 104 + k | 5 => 111 + k
  | 4 => (match k with | 0 => 5 | 1 => 6 | _ => 7)
  | 8 => 9 | 10 => 11 | 12 => 13
  | 16 => 15 + k | 17 => 21 + k
  | 40 => (match k with | 1 => 41 | 2 => 42 | 3 => 43 | 4 => 44 | 7 => 45 | 8 => 46 | 9 => 47 | 14 => 48 | 15 => 49 | 16 => 50 | 18 => 51 | 19 => 52 | 20 => 53 | 25 => 54 | _ => 55)
  | _ => 0
/-- the numbers in use -/
def DOM : List Nat := (List.range 400).filter (fun i => (KD i).1 != 99)
theorem KD_lt {i : Nat} (h : 400 ≤ i) : KD i = (99, 0) := by
  unfold KD
  rw [if_neg (by omega), if_neg (by omega), if_neg (by omega)]
  split <;> first | omega | rfl
theorem DOM_mem {i k n : Nat} (h : KD i = (k, n)) (hk : k ≠ 99) : i ∈ DOM := by
  have h1 : i < 400 := by
    rcases Nat.lt_or_ge i 400 with q | q
    · exact q
    · rw [KD_lt q] at h
      exact absurd (Prod.mk.inj h).1.symm hk
  exact List.mem_filter.mpr ⟨List.mem_range.mpr h1, by rw [h]; simpa using hk⟩
theorem DOM_nd : DOM.Nodup := List.Nodup.sublist List.filter_sublist List.nodup_range
/-- memory: ints (booleans and chars too), longs, the reference that moves (a sample's summary), doubles -/
abbrev MEM : Type := (Nat → Nat → Int32) × (Nat → Nat → Int64) × (Nat → Nat) × (Nat → Nat → UInt64)
def mI (M : MEM) (a k : Nat) : Int32 := M.1 a k
def mL (M : MEM) (a k : Nat) : Int64 := M.2.1 a k
def mO (M : MEM) (a : Nat) : Nat := M.2.2.1 a
def mD (M : MEM) (a k : Nat) : UInt64 := M.2.2.2 a k
def uI (M : MEM) (a k : Nat) (v : Int32) : MEM := (fun b j => if b = a ∧ j = k then v else M.1 b j, M.2)
def uL (M : MEM) (a k : Nat) (v : Int64) : MEM := (M.1, (fun b j => if b = a ∧ j = k then v else M.2.1 b j), M.2.2)
def uO (M : MEM) (a : Nat) (v : Nat) : MEM := (M.1, M.2.1, (fun b => if b = a then v else M.2.2.1 b), M.2.2.2)
def uD (M : MEM) (a k : Nat) (v : UInt64) : MEM := (M.1, M.2.1, M.2.2.1, (fun b j => if b = a ∧ j = k then v else M.2.2.2 b j))
/-- a piece of one int array over a piece of another -/
def uC (M : MEM) (a b : Nat) (sp dp n : Nat) : MEM := (fun c j => if c = b ∧ dp ≤ j ∧ j < dp + n then M.1 a (sp + (j - dp)) else M.1 c j, M.2)
theorem mI_uI (M : MEM) (a k : Nat) (v : Int32) (b j : Nat) : mI (uI M a k v) b j = if b = a ∧ j = k then v else mI M b j := rfl
theorem mI_uL (M : MEM) (a k : Nat) (v : Int64) (b j : Nat) : mI (uL M a k v) b j = mI M b j := rfl
theorem mI_uO (M : MEM) (a v : Nat) (b j : Nat) : mI (uO M a v) b j = mI M b j := rfl
theorem mI_uD (M : MEM) (a k : Nat) (v : UInt64) (b j : Nat) : mI (uD M a k v) b j = mI M b j := rfl
theorem mI_uC (M : MEM) (a b sp dp n c j : Nat) : mI (uC M a b sp dp n) c j = if c = b ∧ dp ≤ j ∧ j < dp + n then mI M a (sp + (j - dp)) else mI M c j := rfl
theorem mL_uI (M : MEM) (a k : Nat) (v : Int32) (b j : Nat) : mL (uI M a k v) b j = mL M b j := rfl
theorem mL_uL (M : MEM) (a k : Nat) (v : Int64) (b j : Nat) : mL (uL M a k v) b j = if b = a ∧ j = k then v else mL M b j := rfl
theorem mL_uO (M : MEM) (a v : Nat) (b j : Nat) : mL (uO M a v) b j = mL M b j := rfl
theorem mL_uD (M : MEM) (a k : Nat) (v : UInt64) (b j : Nat) : mL (uD M a k v) b j = mL M b j := rfl
theorem mL_uC (M : MEM) (a b sp dp n c j : Nat) : mL (uC M a b sp dp n) c j = mL M c j := rfl
theorem mO_uI (M : MEM) (a k : Nat) (v : Int32) (b : Nat) : mO (uI M a k v) b = mO M b := rfl
theorem mO_uL (M : MEM) (a k : Nat) (v : Int64) (b : Nat) : mO (uL M a k v) b = mO M b := rfl
theorem mO_uO (M : MEM) (a v : Nat) (b : Nat) : mO (uO M a v) b = if b = a then v else mO M b := rfl
theorem mO_uD (M : MEM) (a k : Nat) (v : UInt64) (b : Nat) : mO (uD M a k v) b = mO M b := rfl
theorem mO_uC (M : MEM) (a b sp dp n c : Nat) : mO (uC M a b sp dp n) c = mO M c := rfl
theorem mD_uI (M : MEM) (a k : Nat) (v : Int32) (b j : Nat) : mD (uI M a k v) b j = mD M b j := rfl
theorem mD_uL (M : MEM) (a k : Nat) (v : Int64) (b j : Nat) : mD (uL M a k v) b j = mD M b j := rfl
theorem mD_uO (M : MEM) (a v : Nat) (b j : Nat) : mD (uO M a v) b j = mD M b j := rfl
theorem mD_uD (M : MEM) (a k : Nat) (v : UInt64) (b j : Nat) : mD (uD M a k v) b j = if b = a ∧ j = k then v else mD M b j := rfl
theorem mD_uC (M : MEM) (a b sp dp n c j : Nat) : mD (uC M a b sp dp n) c j = mD M c j := rfl
/-- what the machine chose: classes and slots, the array classes, the addresses, where the new cells begin -/
abbrev MK : Type := va_G × (Nat → ClassId) × (Nat → Nat) × Nat
def gA (E : MK) : Nat → Prop := fun q => E.2.2.2 ≤ q
abbrev gR (E : MK) (i : Nat) : Value := .ref (E.2.2.1 i)
abbrev gCl : List vw_C := [(RX0, TX0, 5), (RX1, TX1, 2), (RX2, TX2, 3), (RX3, TX3, 9), (RX4, TX4, 8), (RX5, TX5, 14), (RX6, TX6, 29)]
abbrev gTys (E : MK) : List (ClassId × FieldType) := [(E.2.1 0, .int), (E.2.1 1, .char), (E.2.1 2, .long), (E.2.1 3, .double), (E.2.1 4, .object RX4)]
/-- the fields of an object, by its class -/
def gF (E : MK) (M : MEM) (i : Nat) : Nat → List Value
  | 0 => [gR E (RF i 0), gR E (RF i 1), gR E (RF i 2), .int (mI M i 3), .int (mI M i 4)]
  | 1 => [gR E (RF i 0), .int (mI M i 1)]
  | 2 => [gR E (RF i 0), .int (mI M i 1), .int (mI M i 2)]
  | 3 => [gR E (mO M i), .int (mI M i 1), .int (mI M i 2), gR E (RF i 3), gR E (RF i 4), gR E (RF i 5), gR E (RF i 6), gR E (RF i 7), gR E (RF i 8)]
  | 4 => [.int (mI M i 0), .int (mI M i 1), .int (mI M i 2), .int (mI M i 3), .int (mI M i 4), .int (mI M i 5), gR E (RF i 6), gR E (RF i 7)]
  | 5 => [gR E (RF i 0), gR E (RF i 1), .int (mI M i 2), .int (mI M i 3), .int (mI M i 4), gR E (RF i 5), gR E (RF i 6), gR E (RF i 7), gR E (RF i 8), gR E (RF i 9), gR E (RF i 10), gR E (RF i 11), gR E (RF i 12), gR E (RF i 13)]
  | 6 => [.int (mI M i 0), gR E (RF i 1), gR E (RF i 2), gR E (RF i 3), gR E (RF i 4), .int (mI M i 5), .int (mI M i 6), gR E (RF i 7), gR E (RF i 8), gR E (RF i 9), .int (mI M i 10), .int (mI M i 11), .int (mI M i 12), .int (mI M i 13), gR E (RF i 14), gR E (RF i 15), gR E (RF i 16), .int (mI M i 17), gR E (RF i 18), gR E (RF i 19), gR E (RF i 20), .int (mI M i 21), .int (mI M i 22), .int (mI M i 23), .int (mI M i 24), gR E (RF i 25), gR E (RF i 26), .int (mI M i 27), .int (mI M i 28)]
  | _ => []
def gE (E : MK) (M : MEM) (i : Nat) : va_E := match (KD i).1 with
  | 0 => .inl (E.2.1 0, (KD i).2, .inl (mI M i))
  | 1 => .inl (E.2.1 1, (KD i).2, .inl (mI M i))
  | 2 => .inl (E.2.1 2, (KD i).2, .inr (.inl (mL M i)))
  | 3 => .inl (E.2.1 3, (KD i).2, .inr (.inr (.inr (.inl (mD M i)))))
  | 4 => .inl (E.2.1 4, (KD i).2, .inr (.inr (.inr (.inr (fun j => some (E.2.2.1 (RF i j)))))))
  | k => .inr (k - 10, gF E M i (k - 10))
def wl (E : MK) (M : MEM) : va_W := DOM.map (fun i => (E.2.2.1 i, gE E M i))
theorem wl_at {E : MK} {M : MEM} {i : Nat} (h : i ∈ DOM) : ∃ q0 : Nat, DOM[q0]? = some i ∧ (wl E M)[q0]? = some (E.2.2.1 i, gE E M i) := by
  obtain ⟨q0, hq⟩ := List.getElem?_of_mem h
  exact ⟨q0, hq, by simp [wl, hq]⟩
theorem wl_set {E : MK} {M M' : MEM} {i q0 : Nat} (hq : DOM[q0]? = some i) (ho : ∀ j, j ≠ i → gE E M' j = gE E M j) : (wl E M).set q0 (E.2.2.1 i, gE E M' i) = wl E M' := by
  apply List.ext_getElem?
  intro k
  have hl : q0 < DOM.length := (List.getElem?_eq_some_iff.mp hq).1
  by_cases hk : q0 = k
  · subst hk
    rw [List.getElem?_set_self (by simpa [wl] using hl)]
    simp [wl, hq]
  · rw [List.getElem?_set_ne hk]
    simp only [wl, List.getElem?_map]
    cases hj : DOM[k]? with
    | none => rfl
    | some j =>
      have hne : j ≠ i := by
        intro e
        subst e
        exact hk ((List.getElem?_inj (l := DOM) hl DOM_nd).mp (hq.trans hj.symm))
      simp [ho j hne]
def REL (E : MK) (M : MEM) (H : Heap) : Prop := va_P E.1 gCl (wl E M) H ∧ va_D (gA E) (wl E M)
theorem REL.grown {E : MK} {M : MEM} {H H1 : Heap} (h : REL E M H) (hq : ∀ q, q < H.size → H1[q]? = H[q]?) : REL E M H1 :=
  ⟨fun k q hk => (h.1 k q hk).kept (hq _ (h.1 k q hk).lt), h.2⟩
theorem gF_ext {E : MK} {M M' : MEM} {j : Nat} (h1 : ∀ k, mI M' j k = mI M j k) (h2 : mO M' j = mO M j) (c : Nat) : gF E M' j c = gF E M j c := by
  unfold gF
  split <;> simp only [h1, h2]
theorem gE_ext {E : MK} {M M' : MEM} {j : Nat} (h1 : mI M' j = mI M j) (h2 : mO M' j = mO M j) (h3 : mL M' j = mL M j) (h4 : mD M' j = mD M j) : gE E M' j = gE E M j := by
  unfold gE
  rw [h1, h3, h4]
  split <;> first | rfl | (rw [gF_ext (fun k => by rw [h1]) h2])
theorem gE_obj {E : MK} {M : MEM} {i c n : Nat} (h : KD i = (c + 10, n)) : gE E M i = .inr (c, gF E M i c) := by
  unfold gE
  rw [h]
  rfl
theorem gE_I {E : MK} {M : MEM} {i n : Nat} (h : KD i = (0, n)) : gE E M i = .inl (E.2.1 0, n, .inl (mI M i)) := by
  unfold gE
  rw [h]; rfl
theorem gE_C {E : MK} {M : MEM} {i n : Nat} (h : KD i = (1, n)) : gE E M i = .inl (E.2.1 1, n, .inl (mI M i)) := by
  unfold gE
  rw [h]; rfl
theorem gE_L {E : MK} {M : MEM} {i n : Nat} (h : KD i = (2, n)) : gE E M i = .inl (E.2.1 2, n, .inr (.inl (mL M i))) := by
  unfold gE
  rw [h]; rfl
theorem gE_D {E : MK} {M : MEM} {i n : Nat} (h : KD i = (3, n)) : gE E M i = .inl (E.2.1 3, n, .inr (.inr (.inr (.inl (mD M i))))) := by
  unfold gE
  rw [h]; rfl
theorem gE_R {E : MK} {M : MEM} {i n : Nat} (h : KD i = (4, n)) : gE E M i = .inl (E.2.1 4, n, .inr (.inr (.inr (.inr (fun j => some (E.2.2.1 (RF i j))))))) := by
  unfold gE
  rw [h]; rfl
theorem KD_mem {i c n : Nat} (h : KD i = (c, n)) (hc : c < 99) : i ∈ DOM := DOM_mem h (by omega)
