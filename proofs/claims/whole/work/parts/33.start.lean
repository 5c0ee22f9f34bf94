-- THE START: the world while it is made. ORD: the objects in the order of their making; A: the references that are laid already
def ORD : List Nat := [1, 2, 3, 100, 200, 300, 104, 204, 304, 101, 201, 301, 105, 205, 305, 102, 202, 302, 106, 206, 306, 103, 203, 303, 107, 207, 307, 4, 5, 6, 7, 111, 211, 311, 112, 212, 312, 113, 213, 313, 114, 214, 314, 115, 215, 315, 116, 216, 316, 117, 217, 317, 118, 218, 318, 119, 219, 319, 120, 220, 320, 108, 208, 308, 16, 109, 209, 309, 18, 19, 20, 21, 22, 23, 17, 110, 210, 310, 24, 25, 26, 27, 28, 29, 8, 9, 10, 11, 12, 13, 14, 15, 40, 41, 42, 43, 44, 45, 46, 47, 48, 49, 50, 51, 52, 53, 54, 55, 60, 61]
def POS (i : Nat) : Nat := ORD.idxOf i
abbrev AS : Type := List (Nat × Nat)
/-- the memory at the start: zeros; the first samples' summaries -/
def M0 : MEM := (fun _ _ => 0, fun _ _ => 0, fun a => if a = 16 then 109 else 110, fun _ _ => 0)
def rv0 (E : MK) (A : AS) (i k : Nat) : Value := if (i, k) ∈ A then gR E (RF i k) else .null
def rvo (E : MK) (A : AS) (i : Nat) : Value := if (i, 0) ∈ A then gR E (mO M0 i) else .null
def gF0 (E : MK) (A : AS) (i : Nat) : Nat → List Value
  | 0 => [rv0 E A i 0, rv0 E A i 1, rv0 E A i 2, .int 0, .int 0]
  | 1 => [rv0 E A i 0, .int 0]
  | 2 => [rv0 E A i 0, .int 0, .int 0]
  | 3 => [rvo E A i, .int 0, .int 0, rv0 E A i 3, rv0 E A i 4, rv0 E A i 5, rv0 E A i 6, rv0 E A i 7, rv0 E A i 8]
  | 4 => [.int 0, .int 0, .int 0, .int 0, .int 0, .int 0, rv0 E A i 6, rv0 E A i 7]
  | 5 => [rv0 E A i 0, rv0 E A i 1, .int 0, .int 0, .int 0, rv0 E A i 5, rv0 E A i 6, rv0 E A i 7, rv0 E A i 8, rv0 E A i 9, rv0 E A i 10, rv0 E A i 11, rv0 E A i 12, rv0 E A i 13]
  | 6 => [.int 0, rv0 E A i 1, rv0 E A i 2, rv0 E A i 3, rv0 E A i 4, .int 0, .int 0, rv0 E A i 7, rv0 E A i 8, rv0 E A i 9, .int 0, .int 0, .int 0, .int 0, rv0 E A i 14, rv0 E A i 15, rv0 E A i 16, .int 0, rv0 E A i 18, rv0 E A i 19, rv0 E A i 20, .int 0, .int 0, .int 0, .int 0, rv0 E A i 25, rv0 E A i 26, .int 0, .int 0]
  | _ => []
def gE0 (E : MK) (A : AS) (i : Nat) : va_E := match (KD i).1 with
  | 0 => .inl (E.2.1 0, (KD i).2, .inl (fun _ => 0))
  | 1 => .inl (E.2.1 1, (KD i).2, .inl (fun _ => 0))
  | 2 => .inl (E.2.1 2, (KD i).2, .inr (.inl (fun _ => 0)))
  | 3 => .inl (E.2.1 3, (KD i).2, .inr (.inr (.inr (.inl (fun _ => 0)))))
  | 4 => .inl (E.2.1 4, (KD i).2, .inr (.inr (.inr (.inr (fun j => if (i, j) ∈ A then some (E.2.2.1 (RF i j)) else none)))))
  | k => .inr (k - 10, gF0 E A i (k - 10))
theorem gE0_obj {E : MK} {A : AS} {i c n : Nat} (h : KD i = (c + 10, n)) : gE0 E A i = .inr (c, gF0 E A i c) := by
  unfold gE0
  rw [h]
  rfl
theorem gE0_R {E : MK} {A : AS} {i n : Nat} (h : KD i = (4, n)) : gE0 E A i = .inl (E.2.1 4, n, .inr (.inr (.inr (.inr (fun j => if (i, j) ∈ A then some (E.2.2.1 (RF i j)) else none))))) := by
  unfold gE0
  rw [h]; rfl
theorem gE0_ext {E : MK} {A A' : AS} {i : Nat} (h : ∀ k, (i, k) ∈ A' ↔ (i, k) ∈ A) : gE0 E A' i = gE0 E A i := by
  have hr : ∀ k, rv0 E A' i k = rv0 E A i k := fun k => by simp only [rv0, h]
  have ho : rvo E A' i = rvo E A i := by simp only [rvo, h]
  unfold gE0
  split <;> first | rfl | (simp only [h]; done) | (congr 2; unfold gF0; split <;> simp only [hr, ho])
def wl0 (E : MK) (A : AS) (n : Nat) : va_W := (ORD.take n).map (fun i => (E.2.2.1 i, gE0 E A i))
def gPos (E : MK) : Prop := ∀ i, E.2.2.1 i = E.2.2.2 + POS i
def REL0 (E : MK) (A : AS) (n : Nat) (H : Heap) : Prop := va_P E.1 gCl (wl0 E A n) H ∧ va_D (gA E) (wl0 E A n) ∧ H.size = E.2.2.2 + n ∧ gPos E
theorem ORD_nd : ORD.Nodup := by decide +kernel
theorem wl0_at {E : MK} {A : AS} {n k i : Nat} (h : ORD[k]? = some i) (hk : k < n) : (wl0 E A n)[k]? = some (E.2.2.1 i, gE0 E A i) := by
  simp [wl0, List.getElem?_take, hk, h]
theorem wl0_set {E : MK} {A A' : AS} {n k i : Nat} (h : ORD[k]? = some i) (hk : k < n) (ho : ∀ j, j ≠ i → gE0 E A' j = gE0 E A j) : (wl0 E A n).set k (E.2.2.1 i, gE0 E A' i) = wl0 E A' n := by
  apply List.ext_getElem?
  intro z
  have hl : k < ORD.length := (List.getElem?_eq_some_iff.mp h).1
  by_cases hz : k = z
  · subst hz
    rw [List.getElem?_set_self (by simp [wl0]; omega), wl0_at h hk]
  · rw [List.getElem?_set_ne hz]
    simp only [wl0, List.getElem?_map, List.getElem?_take]
    split
    · cases hj : ORD[z]? with
      | none => rfl
      | some j =>
        have hne : j ≠ i := by
          intro e
          subst e
          exact hz ((List.getElem?_inj (l := ORD) hl ORD_nd).mp (h.trans hj.symm))
        simp [ho j hne]
    · rfl
theorem wl0_grow {E : MK} {A : AS} {n i : Nat} (h : ORD[n]? = some i) : wl0 E A n ++ [(E.2.2.1 i, gE0 E A i)] = wl0 E A (n + 1) := by
  unfold wl0
  rw [List.take_add_one, h]
  simp
theorem POS_at {n i : Nat} (h : ORD[n]? = some i) : POS i = n := by
  have hl : n < ORD.length := (List.getElem?_eq_some_iff.mp h).1
  have hi : ORD[n] = i := (List.getElem?_eq_some_iff.mp h).2
  unfold POS
  rw [← hi]
  exact List.Nodup.idxOf_getElem ORD_nd n hl
def gKP0 (E : MK) (U : State) : Prop := gKP E U ∧ va_AO RX4 U
def GX0 (K : KT) (E : MK) (nL : Nat) (A : AS) (n : Nat) (loc : List (Nat × Value)) (st : List Value) (pc cells slots : Nat) (Q : State → Prop) : Prop :=
  ∀ (H : Heap) (locs : List Loc) (ls : Array Slot), REL0 E A n H → va_S (gA E) (ks K).heap H locs → lv_has ls nL loc → W (kp K) (kl K) (ke K) (kR K) (ks K) (km K) (ka K) (kb K) (kh K) (kc K) H locs cells slots Q (F0 (km K) pc ls st)
def GC0 (K : KT) (E : MK) (cc : ByteArray) (own : String) (nL : Nat) (rt : Option FieldType) (rm : Room) : Prop :=
  (kp K).tables.exec = Jvm.exec ∧ (kc K).code = cc ∧ (∀ w ∈ gW, w.before (ka K) (ks K) = true) ∧ (ks K).vm.findClass own = some (km K).cls ∧ (kc K).maxLocals = nL ∧ (kh K).sig.returnType = rt ∧ (kh K).locks = false ∧ gKP0 E (ks K) ∧ kR K = rm ∧ E.2.2.2 ≤ (ks K).heap.size
section G0R
variable {K : KT} {E : MK} {cc : ByteArray} {own : String} {nL : Nat} {rt : Option FieldType} {rm : Room} {A : AS} {n : Nat} {loc loc' : List (Nat × Value)} {st : List Value} {pc cells slots : Nat} {Q : State → Prop}
theorem GC0.x (C : GC0 K E cc own nL rt rm) : (kp K).tables.exec = Jvm.exec := C.1
theorem GC0.b (C : GC0 K E cc own nL rt rm) : (kc K).code = cc := C.2.1
theorem GC0.ts (C : GC0 K E cc own nL rt rm) : ∀ w ∈ gW, w.before (ka K) (ks K) = true := C.2.2.1
theorem GC0.ow (C : GC0 K E cc own nL rt rm) : (ks K).vm.findClass own = some (km K).cls := C.2.2.2.1
theorem GC0.ml (C : GC0 K E cc own nL rt rm) : (kc K).maxLocals = nL := C.2.2.2.2.1
theorem GC0.r (C : GC0 K E cc own nL rt rm) : (kh K).sig.returnType = rt := C.2.2.2.2.2.1
theorem GC0.lk (C : GC0 K E cc own nL rt rm) : (kh K).locks = false := C.2.2.2.2.2.2.1
theorem GC0.kp (C : GC0 K E cc own nL rt rm) : gKP0 E (ks K) := C.2.2.2.2.2.2.2.1
theorem GC0.k (C : GC0 K E cc own nL rt rm) : va_K E.1 gCl (gTys E) (ks K) := C.kp.1.1
theorem GC0.rr (C : GC0 K E cc own nL rt rm) : kR K = rm := C.2.2.2.2.2.2.2.2.1
theorem GC0.lo (C : GC0 K E cc own nL rt rm) : E.2.2.2 ≤ (ks K).heap.size := C.2.2.2.2.2.2.2.2.2
theorem h_aload_n (C : GC0 K E cc own nL rt rm) {z : Fin 4} {i : Nat} {x : Nat} (hd : decode cc pc = .ok (.aload_n z, 1)) (j : Nat) (hi : (z : Nat) = i) (hl : loc[j]? = some (i, .ref x)) (k : GX0 K E nL A n loc (.ref x :: st) (pc + 1) cells slots Q) : GX0 K E nL A n loc st pc cells slots Q := fun H locs ls h2 h3 h4 => lv_aload_n C.x C.b hd hi (lv_at h4 j hl) (k H locs ls h2 h3 h4)
theorem h_iload_n (C : GC0 K E cc own nL rt rm) {z : Fin 4} {i : Nat} {x : Int32} (hd : decode cc pc = .ok (.iload_n z, 1)) (j : Nat) (hi : (z : Nat) = i) (hl : loc[j]? = some (i, .int x)) (k : GX0 K E nL A n loc (.int x :: st) (pc + 1) cells slots Q) : GX0 K E nL A n loc st pc cells slots Q := fun H locs ls h2 h3 h4 => lv_iload_n C.x C.b hd hi (lv_at h4 j hl) (k H locs ls h2 h3 h4)
theorem h_istore_n (C : GC0 K E cc own nL rt rm) {z : Fin 4} {i : Nat} {x : Int32} (hd : decode cc pc = .ok (.istore_n z, 1)) (hi : (z : Nat) = i) (hn : i < nL) (hl : (i, Value.int x) :: loc.filter (fun q => !(q.1 == i) && !(q.1 + 1 == i && q.2.category == 2)) = loc') (k : GX0 K E nL A n loc' st (pc + 1) cells slots Q) : GX0 K E nL A n loc (.int x :: st) pc cells slots Q := fun H locs ls h2 h3 h4 => lv_istore_n C.x C.b hd hi h4 hn hl (fun ls5 h5 => k H locs ls5 h2 h3 h5)
theorem h_istore (C : GC0 K E cc own nL rt rm) {i : Nat} {x : Int32} (hd : decode cc pc = .ok (.istore i, 2)) (hn : i < nL) (hl : (i, Value.int x) :: loc.filter (fun q => !(q.1 == i) && !(q.1 + 1 == i && q.2.category == 2)) = loc') (k : GX0 K E nL A n loc' st (pc + 2) cells slots Q) : GX0 K E nL A n loc (.int x :: st) pc cells slots Q := fun H locs ls h2 h3 h4 => lv_istore C.x C.b hd h4 hn hl (fun ls5 h5 => k H locs ls5 h2 h3 h5)
theorem h_astore_n (C : GC0 K E cc own nL rt rm) {z : Fin 4} {i : Nat} {x : Nat} (hd : decode cc pc = .ok (.astore_n z, 1)) (hi : (z : Nat) = i) (hn : i < nL) (hl : (i, Value.ref x) :: loc.filter (fun q => !(q.1 == i) && !(q.1 + 1 == i && q.2.category == 2)) = loc') (k : GX0 K E nL A n loc' st (pc + 1) cells slots Q) : GX0 K E nL A n loc (.ref x :: st) pc cells slots Q := fun H locs ls h2 h3 h4 => lv_astore_n C.x C.b hd hi h4 hn hl (fun ls5 h5 => k H locs ls5 h2 h3 h5)
theorem h_astore (C : GC0 K E cc own nL rt rm) {i : Nat} {x : Nat} (hd : decode cc pc = .ok (.astore i, 2)) (hn : i < nL) (hl : (i, Value.ref x) :: loc.filter (fun q => !(q.1 == i) && !(q.1 + 1 == i && q.2.category == 2)) = loc') (k : GX0 K E nL A n loc' st (pc + 2) cells slots Q) : GX0 K E nL A n loc (.ref x :: st) pc cells slots Q := fun H locs ls h2 h3 h4 => lv_astore C.x C.b hd h4 hn hl (fun ls5 h5 => k H locs ls5 h2 h3 h5)
theorem h_iinc (C : GC0 K E cc own nL rt rm) {i : Nat} {z : Int} {x v : Int32} (hd : decode cc pc = .ok (.iinc i z, 3)) (j : Nat) (hk : loc[j]? = some (i, .int x)) (hv : x + Int32.ofInt z = v) (hn : i < nL) (hl : (i, Value.int v) :: loc.filter (fun q => !(q.1 == i) && !(q.1 + 1 == i && q.2.category == 2)) = loc') (k : GX0 K E nL A n loc' st (pc + 3) cells slots Q) : GX0 K E nL A n loc st pc cells slots Q := fun H locs ls h2 h3 h4 => lv_iinc C.x C.b hd h4 hk hv hn hl (fun ls5 h5 => k H locs ls5 h2 h3 h5)
theorem h_iconst (C : GC0 K E cc own nL rt rm) {z : Int} {v : Int32} (hd : decode cc pc = .ok (.iconst z, 1)) (hv : Int32.ofInt z = v) (k : GX0 K E nL A n loc (.int v :: st) (pc + 1) cells slots Q) : GX0 K E nL A n loc st pc cells slots Q := fun H locs ls h2 h3 h4 => lv_iconst C.x C.b hd hv (k H locs ls h2 h3 h4)
theorem h_bipush (C : GC0 K E cc own nL rt rm) {z : Int} {v : Int32} (hd : decode cc pc = .ok (.bipush z, 2)) (hv : (Int8.ofInt z).toInt32 = v) (k : GX0 K E nL A n loc (.int v :: st) (pc + 2) cells slots Q) : GX0 K E nL A n loc st pc cells slots Q := fun H locs ls h2 h3 h4 => lv_bipush C.x C.b hd hv (k H locs ls h2 h3 h4)
theorem h_sipush (C : GC0 K E cc own nL rt rm) {z : Int} {v : Int32} (hd : decode cc pc = .ok (.sipush z, 3)) (hv : (Int16.ofInt z).toInt32 = v) (k : GX0 K E nL A n loc (.int v :: st) (pc + 3) cells slots Q) : GX0 K E nL A n loc st pc cells slots Q := fun H locs ls h2 h3 h4 => lv_sipush C.x C.b hd hv (k H locs ls h2 h3 h4)
theorem h_dup (C : GC0 K E cc own nL rt rm) {va : Value} (hd : decode cc pc = .ok (.dup, 1)) (hva : va.category = 1) (k : GX0 K E nL A n loc (va :: va :: st) (pc + 1) cells slots Q) : GX0 K E nL A n loc (va :: st) pc cells slots Q := fun H locs ls h2 h3 h4 => lv_dup C.x C.b hd hva (k H locs ls h2 h3 h4)
theorem h_goto (C : GC0 K E cc own nL rt rm) {off : Int} {tgt : Nat} (hd : decode cc pc = .ok (.goto off, 3)) (ht : (pc : Int) + off = (tgt : Int)) (k : GX0 K E nL A n loc st tgt cells slots Q) : GX0 K E nL A n loc st pc cells slots Q := fun H locs ls h2 h3 h4 => lv_goto C.x C.b hd ht (k H locs ls h2 h3 h4)
theorem h_icmp_ge (C : GC0 K E cc own nL rt rm) {x y : Int32} {off : Int} {tgt : Nat} (hd : decode cc pc = .ok (.if_icmp .ge off, 3)) (ht : (pc : Int) + off = (tgt : Int)) (kt : y ≤ x → GX0 K E nL A n loc st tgt cells slots Q) (kf : ¬ y ≤ x → GX0 K E nL A n loc st (pc + 3) cells slots Q) : GX0 K E nL A n loc (.int y :: .int x :: st) pc cells slots Q := fun H locs ls h2 h3 h4 => lv_icmp_ge C.x C.b hd ht (fun c => kt c H locs ls h2 h3 h4) (fun c => kf c H locs ls h2 h3 h4)
theorem h_objInit (C : GC0 K E cc own nL rt rm) {ix a : Nat} (hlink : Cond.methodLink own ix objectInit ∈ gW) (hin : Cond.instanceMethod objectInit ∈ gW) (hcode : Cond.code objectInit ⟨#[0xb1]⟩ 1 none ∈ gW) (hd : decode cc pc = .ok (.invokespecial ix, 3)) (hf : 1 ≤ rm.frames) (hl : (st.map fun v => v.category).sum + 12 ≤ rm.locals) (k : GX0 K E nL A n loc st (pc + 3) cells slots Q) : GX0 K E nL A n loc (.ref a :: st) pc cells slots Q := fun H locs ls h2 h3 h4 => by
  have hr := C.rr
  refine W.objInit (g := F0 (km K) pc ls (.ref a :: st)) C.x C.b C.ow (C.ts _ hlink) (C.ts _ hin) (C.ts _ hcode) rfl (h4.1.trans C.ml.symm) rfl hd (by rw [hr]; exact hf) ?_ (k H locs ls h2 h3 h4)
  rw [hr]
  simpa using hl
theorem h_new (C : GC0 K E cc own nL rt rm) {ci N ix i : Nat} {Cn : String} {T : u_T} {ty : Nat → FieldType} (hcl : gCl[ci]? = some (Cn, T, N)) (hin : ∀ w ∈ u_ws Cn T N, w ∈ gW) (hty : ∀ k, k < N → parseFieldDescriptor (T k).2.2.1 = some (ty k)) (hlink : Cond.classLink own ix Cn ∈ gW) (hinst : Cond.instantiable Cn N ∈ gW) (hini : Cond.initialized Cn ∈ gW) (hord : ORD[n]? = some i) (hkd : KD i = (ci + 10, 0)) (hfs : ∀ j, j < N → defaultValue (ty j) = vp_V (gF0 E A i ci) j) (hd : decode cc pc = .ok (.new ix, 3)) (hc : cells + 1 ≤ rm.cells) (hs : slots + N ≤ rm.slots) (k : GX0 K E nL A (n + 1) loc (gR E i :: st) (pc + 3) (cells + 1) (slots + N) Q) : GX0 K E nL A n loc st pc cells slots Q := fun H locs ls h2 h3 h4 => by
  obtain ⟨hP, hD, hz, hpos⟩ := h2
  have hr := C.rr
  have hK := C.k
  have hKn := hK.1 ci _ hcl
  have hq : E.2.2.1 i = H.size := by rw [hpos i, POS_at hord, hz]
  refine W.newcK (g := F0 (km K) pc ls st) C.x C.b C.ow (C.ts _ hlink) (C.ts _ hinst) (C.ts _ hini) rfl hd (by rw [hr]; exact hc) (by rw [hr]; exact hs) hKn.2.1 rfl fun H1 kC hkC e1 z1 o1 => ?_
  have hk : ∀ (k : Nat) (x : Nat × va_E), (wl0 E A n)[k]? = some x → H1[x.1]? = H[x.1]? := fun k x hx => o1 x.1 ((hP k x hx).lt)
  have hA : gA E H.size := Nat.le_trans C.lo h3.1
  rw [← hq] at e1
  have hv9 : Value.ref H.size = gR E i := (congrArg Value.ref hq).symm
  show W _ _ _ _ _ _ _ _ _ _ _ _ _ _ _ (F0 (km K) (pc + 3) ls (Value.ref H.size :: st))
  rw [hv9]
  refine k H1 locs ls ⟨?_, ?_, by rw [z1, hz]; omega, hpos⟩ ⟨Nat.le_trans h3.1 (by omega), fun x h1 h2 => (o1 x (Nat.lt_of_lt_of_le h1 h3.1)).trans (h3.2.1 x h1 h2), h3.2.2⟩ h4
  · rw [← wl0_grow hord]
    refine (hP.kept hk).app (fun k x hx => ?_)
    have hz9 : k < 1 := (List.getElem?_eq_some_iff.mp hx).1
    rw [show k = 0 by omega] at hx
    cases hx
    rw [gE0_obj hkd]
    exact ⟨_, hcl, (u_born ty C.ts hin hKn hkC e1 hty).to hfs⟩
  · rw [← wl0_grow hord, hq]
    exact hD.push hP rfl hA
end G0R
