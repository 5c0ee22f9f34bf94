section G0M
variable {K : KT} {E : MK} {cc : ByteArray} {own : String} {nL : Nat} {rt : Option FieldType} {rm : Room} {A : AS} {n : Nat} {loc loc' : List (Nat × Value)} {st : List Value} {pc cells slots : Nat} {Q : State → Prop}
/-- a new array: its cell is the world's next -/
theorem REL0.grow {H H1 : Heap} {i : Nat} (h2 : REL0 E A n H) (hord : ORD[n]? = some i) (hlo : E.2.2.2 ≤ H.size) (z1 : H1.size = H.size + 1) (o1 : ∀ q, q < H.size → H1[q]? = H[q]?) (e1 : va_at E.1 gCl (E.2.2.1 i, gE0 E A i) H1) : E.2.2.1 i = H.size ∧ REL0 E A (n + 1) H1 := by
  obtain ⟨hP, hD, hz, hpos⟩ := h2
  have hq : E.2.2.1 i = H.size := by rw [hpos i, POS_at hord, hz]
  refine ⟨hq, ?_, ?_, by rw [z1, hz]; omega, hpos⟩
  · rw [← wl0_grow hord]
    refine (hP.kept (fun k x hx => o1 x.1 ((hP k x hx).lt))).app (fun k x hx => ?_)
    have hz9 : k < 1 := (List.getElem?_eq_some_iff.mp hx).1
    rw [show k = 0 by omega] at hx
    cases hx
    exact e1
  · rw [← wl0_grow hord, hq]
    exact hD.push hP rfl hlo
theorem h_newarr (C : GC0 K E cc own nL rt rm) {at0 : ArrayType} {t0 len i : Nat} {z : Int32} {a0 : vp_A} (harr : Cond.arrayClass (newarray.typeOf at0) ∈ gW) (ht : (gTys E)[t0]? = some (E.2.1 t0, newarray.typeOf at0)) (hsm : ∀ C9, newarray.typeOf at0 ≠ .object C9) (hord : ORD[n]? = some i) (he : gE0 E A i = .inl (E.2.1 t0, a0)) (ha : ∀ cA : ClassId, vp_cell cA a0 = arrV cA len (fun _ => defaultValue (newarray.typeOf at0))) (hn : ¬ z < 0) (hN : z.toNatClampNeg = len) (hbytes : len * componentBytes (newarray.typeOf at0) ≤ 536870912) (hd : decode cc pc = .ok (.newarray at0, 2)) (hc : cells + 1 ≤ rm.cells) (hs : slots + len ≤ rm.slots) (k : GX0 K E nL A (n + 1) loc (gR E i :: st) (pc + 2) (cells + 1) (slots + len) Q) : GX0 K E nL A n loc (.int z :: st) pc cells slots Q := fun H locs ls h2 h3 h4 => by
  have hr := C.rr
  have hRA := (C.k.2 t0 _ ht).2
  have hlo := Nat.le_trans C.lo h3.1
  refine va_newaK (g := F0 (km K) pc ls (.int z :: st)) C.x C.b (C.ts _ harr) rfl hd rfl hn hN hbytes (by rw [hr]; exact hc) (by rw [hr]; exact hs) rfl fun H1 cA e1 z1 o1 hAr hNm => ?_
  have hcA : cA = E.2.1 t0 := by
    have h9 : (ks K).vm.findClass ("[" ++ (newarray.typeOf at0).toString) = some (E.2.1 t0) := by
      cases at0 <;> exact hRA
    exact Option.some.inj (hNm.symm.trans h9)
  obtain ⟨hq, hR⟩ := h2.grow hord hlo z1 o1 (by
    rw [he, show E.2.2.1 i = H.size by rw [h2.2.2.2 i, POS_at hord, h2.2.2.1]]
    show H1[H.size]? = some (vp_cell _ _)
    rw [ha, ← hcA]
    exact e1)
  have hv9 : Value.ref H.size = gR E i := (congrArg Value.ref hq).symm
  show W _ _ _ _ _ _ _ _ _ _ _ _ _ _ _ (F0 (km K) (pc + 2) ls (Value.ref H.size :: st))
  rw [hv9]
  exact k H1 locs ls hR ⟨Nat.le_trans h3.1 (by omega), fun x h1 h2 => (o1 x (Nat.lt_of_lt_of_le h1 h3.1)).trans (h3.2.1 x h1 h2), h3.2.2⟩ h4
theorem h_anew (C : GC0 K E cc own nL rt rm) {len i ix : Nat} {z : Int32} (hlink : Cond.classLink own ix RX4 ∈ gW) (hord : ORD[n]? = some i) (hkd : KD i = (4, len)) (hA : ∀ j, (i, j) ∉ A) (hn : ¬ z < 0) (hN : z.toNatClampNeg = len) (hbytes : len * 4 ≤ 536870912) (hd : decode cc pc = .ok (.anewarray ix, 3)) (hc : cells + 1 ≤ rm.cells) (hs : slots + len ≤ rm.slots) (k : GX0 K E nL A (n + 1) loc (gR E i :: st) (pc + 3) (cells + 1) (slots + len) Q) : GX0 K E nL A n loc (.int z :: st) pc cells slots Q := fun H locs ls h2 h3 h4 => by
  have hr := C.rr
  obtain ⟨kA0, comp0, g1, g2, g3, g4⟩ := (C.k.2 4 (E.2.1 4, .object RX4) rfl).2
  have hlo := Nat.le_trans C.lo h3.1
  refine W.anew (g := F0 (km K) pc ls (.int z :: st)) C.x C.b C.ow (C.ts _ hlink) (va_AO.use C.kp.2) rfl hd rfl hn (by rw [hN]; exact hbytes) (by rw [hr]; exact hc) (by rw [hr, hN]; exact hs) fun cA kA comp f1 f2 f3 f4 => ?_
  have hcA : cA = E.2.1 4 := Option.some.inj (f1.symm.trans g4)
  rw [hN]
  have z1 : (H.push ({ cls := cA, slots := Array.replicate len .null, vm := .none } : Cell)).size = H.size + 1 := by simp
  have o1 : ∀ q, q < H.size → (H.push ({ cls := cA, slots := Array.replicate len .null, vm := .none } : Cell))[q]? = H[q]? := fun q hq => by rw [Array.getElem?_push, if_neg (Nat.ne_of_lt hq)]
  obtain ⟨hq, hR⟩ := h2.grow hord hlo z1 o1 (by
    rw [gE0_R hkd, show E.2.2.1 i = H.size by rw [h2.2.2.2 i, POS_at hord, h2.2.2.1]]
    show _ = some (vp_cell _ _)
    rw [vp_cell_q, ← hcA]
    have h8 : (fun j => va_rf (if (i, j) ∈ A then some (E.2.2.1 (RF i j)) else none)) = fun _ => Value.null := funext fun j => by rw [if_neg (hA j)]; rfl
    rw [h8, ← arrV_new]
    simp)
  have hv9 : Value.ref H.size = gR E i := (congrArg Value.ref hq).symm
  show W _ _ _ _ _ _ _ _ _ _ _ _ _ _ _ (F0 (km K) (pc + 3) ls (Value.ref H.size :: st))
  rw [hv9]
  exact k _ locs ls hR ⟨Nat.le_trans h3.1 (by omega), fun x h1 h2 => (o1 x (Nat.lt_of_lt_of_le h1 h3.1)).trans (h3.2.1 x h1 h2), h3.2.2⟩ h4
/-- a final field is laid -/
theorem h_putF (C : GC0 K E cc own nL rt rm) (hin9 : (kh K).name = "<init>") {ci N ix p a k : Nat} {Cn : String} {T : u_T} {ty : FieldType} {ty0 : Nat → FieldType} (hcl : gCl[ci]? = some (Cn, T, N)) (hin : ∀ w ∈ u_ws Cn T N, w ∈ gW) (hty : ∀ k, k < N → parseFieldDescriptor (T k).2.2.1 = some (ty0 k)) (hnm : ∀ a, a < N → ∀ b, b < N → a ≠ b → (T a).2.1 ≠ (T b).2.1) (hk : k < N) (hlink : Cond.fieldLink own ix (T k).1 (T k).2.1 (T k).2.2.1 ∈ gW) (hfin : (T k).2.2.2 = true) (hdecl : (T k).1 = own) (hpd : parseFieldDescriptor (T k).2.2.1 = some ty) (hnr : ∀ q, narrow ty (.ref q) = .ref q) (hfit : ∀ q, fits ty (.ref q) = true) (hp : ORD[p]? = some a) (hpn : p < n) (hkd : KD a = (ci + 10, 0)) (hl : k < (gF0 E A a ci).length) (hset : (gF0 E A a ci).set k (gR E (RF a k)) = gF0 E ((a, k) :: A) a ci) (hd : decode cc pc = .ok (.putfield ix, 3)) (kk : GX0 K E nL ((a, k) :: A) n loc st (pc + 3) cells slots Q) : GX0 K E nL A n loc (gR E (RF a k) :: gR E a :: st) pc cells slots Q := fun H locs ls h2 h3 h4 => by
  have e2 := wl0_at (E := E) (A := A) hp hpn
  rw [gE0_obj hkd] at e2
  have hts := C.ts
  have hoth : ∀ j, j ≠ a → gE0 E ((a, k) :: A) j = gE0 E A j := fun j hj => gE0_ext (fun z => by simp [hj])
  refine p_putF (meth := kh K) C.x C.b hts hin ty0 hty hnm C.ow C.k h2.1 h2.2.1 h3 p e2 hcl k hk (hts _ hlink) (fun _ h9 => h9) hfin hin9 hdecl hpd (hnr _) (hfit _) hl hd (fun H1 locs1 hz1 b1 b2 b3 => ?_)
  rw [hset, ← gE0_obj (A := (a, k) :: A) hkd, wl0_set hp hpn hoth] at b1 b2
  exact kk H1 locs1 ls ⟨b1, b2, by rw [hz1]; exact h2.2.2.1, h2.2.2.2⟩ b3 h4
/-- the field 'of' of a sample -/
theorem h_putO (C : GC0 K E cc own nL rt rm) {ix p a : Nat} (hlink : Cond.fieldLink own ix (TX3 0).1 (TX3 0).2.1 (TX3 0).2.2.1 ∈ gW) (hp : ORD[p]? = some a) (hpn : p < n) (hkd : KD a = (13, 0)) (hd : decode cc pc = .ok (.putfield ix, 3)) (kk : GX0 K E nL ((a, 0) :: A) n loc st (pc + 3) cells slots Q) : GX0 K E nL A n loc (gR E (mO M0 a) :: gR E a :: st) pc cells slots Q := fun H locs ls h2 h3 h4 => by
  have e2 := wl0_at (E := E) (A := A) hp hpn
  rw [gE0_obj (c := 3) hkd] at e2
  have hts := C.ts
  have hoth : ∀ j, j ≠ a → gE0 E ((a, 0) :: A) j = gE0 E A j := fun j hj => gE0_ext (fun z => by simp [hj])
  have hset : (gF0 E A a 3).set 0 (gR E (mO M0 a)) = gF0 E ((a, 0) :: A) a 3 := by simp [gF0, rv0, rvo]
  refine p_put C.x C.b (ci := 3) (T := TX3) (N := 9) (C := RX3) (k := 0) hts inX3 tyX3 tyX3_ok nmX3 C.ow C.k h2.1 h2.2.1 h3 p e2 rfl (by decide) (hts _ hlink) (fun _ h9 => h9) rfl (ty := .object RX4) rfl rfl rfl (Nat.le_of_ble_eq_true rfl) hd (fun H1 locs1 hz1 b1 b2 b3 => ?_)
  rw [hset, ← gE0_obj (A := (a, 0) :: A) (c := 3) hkd, wl0_set hp hpn hoth] at b1 b2
  exact kk H1 locs1 ls ⟨b1, b2, by rw [hz1]; exact h2.2.2.1, h2.2.2.2⟩ b3 h4
theorem h_get (C : GC0 K E cc own nL rt rm) {ci N ix p a k : Nat} {Cn : String} {T : u_T} {v : Value} (hcl : gCl[ci]? = some (Cn, T, N)) (hin : ∀ w ∈ u_ws Cn T N, w ∈ gW) (hk : k < N) (hlink : Cond.fieldLink own ix (T k).1 (T k).2.1 (T k).2.2.1 ∈ gW) (hp : ORD[p]? = some a) (hpn : p < n) (hkd : KD a = (ci + 10, 0)) (hv : (gF0 E A a ci)[k]? = some v) (hd : decode cc pc = .ok (.getfield ix, 3)) (kk : GX0 K E nL A n loc (v :: st) (pc + 3) cells slots Q) : GX0 K E nL A n loc (gR E a :: st) pc cells slots Q := fun H locs ls h2 h3 h4 => by
  have e2 := wl0_at (E := E) (A := A) hp hpn
  rw [gE0_obj hkd] at e2
  exact va_get C.x C.b C.ts hin C.ow C.k h2.1 p e2 hcl k hk (C.ts _ hlink) (fun _ h9 => h9) hv hd (kk H locs ls h2 h3 h4)
theorem h_aast (C : GC0 K E cc own nL rt rm) {p q a len : Nat} {i : Int32} (hp : ORD[p]? = some a) (hpn : p < n) (hq : ORD[q]? = some (RF a i.toNatClampNeg)) (hqn : q < n) (hkd : KD a = (4, len)) (hkq : KD (RF a i.toNatClampNeg) = (14, 0)) (hin : vp_in i len) (hd : decode cc pc = .ok (.aastore, 1)) (kk : GX0 K E nL ((a, i.toNatClampNeg) :: A) n loc st (pc + 1) cells slots Q) : GX0 K E nL A n loc (gR E (RF a i.toNatClampNeg) :: .int i :: gR E a :: st) pc cells slots Q := fun H locs ls h2 h3 h4 => by
  have e2 := wl0_at (E := E) (A := A) hp hpn
  rw [gE0_R hkd] at e2
  have e3 := wl0_at (E := E) (A := A) hq hqn
  rw [gE0_obj (c := 4) hkq] at e3
  have hoth : ∀ j, j ≠ a → gE0 E ((a, i.toNatClampNeg) :: A) j = gE0 E A j := fun j hj => gE0_ext (fun z => by simp [hj])
  refine p_astq C.x C.b C.k h2.1 h2.2.1 h3 p 4 q 4 e2 rfl e3 rfl hin hd (fun H1 locs1 hz1 b1 b2 b3 => ?_)
  have hf : va_up (fun j => if (a, j) ∈ A then some (E.2.2.1 (RF a j)) else none) i.toNatClampNeg (some (E.2.2.1 (RF a i.toNatClampNeg))) = fun j => if (a, j) ∈ (a, i.toNatClampNeg) :: A then some (E.2.2.1 (RF a j)) else none := funext fun j => by
    by_cases hj : j = i.toNatClampNeg
    · subst hj; simp [va_up]
    · simp [va_up, hj]
  rw [hf, ← gE0_R (A := (a, i.toNatClampNeg) :: A) hkd, wl0_set hp hpn hoth] at b1 b2
  exact kk H1 locs1 ls ⟨b1, b2, by rw [hz1]; exact h2.2.2.1, h2.2.2.2⟩ b3 h4
theorem h_max (C : GC0 K E cc own nL rt rm) {ix : Nat} {x y v : Int32} (hv : (if x < y then y else x) = v) (hd : decode cc pc = .ok (.invokestatic ix, 3)) (hlink : Cond.methodLink own ix Lib.Math.max.name ∈ gW) (hstat : Cond.static Lib.Math.max.name ∈ gW) (hini : Cond.initialized "java/lang/Math" ∈ gW) (hcode : Cond.code Lib.Math.max.name Lib.Math.max.code 2 (some .int) ∈ gW) (hf : 1 ≤ rm.frames) (hl : (st.map fun v => v.category).sum + 13 ≤ rm.locals) (hc : cells ≤ rm.cells) (hs : slots ≤ rm.slots) (kk : GX0 K E nL A n loc (.int v :: st) (pc + 3) cells slots Q) : GX0 K E nL A n loc (.int y :: .int x :: st) pc cells slots Q := fun H locs ls h2 h3 h4 => by
  subst hv
  have hr := C.rr
  have hts := C.ts
  have hf' : 1 ≤ (kR K).frames := by rw [hr]; exact hf
  have hl' : (st.map fun v => v.category).sum + 13 ≤ (kR K).locals := by rw [hr]; exact hl
  have hc' : cells ≤ (kR K).cells := by rw [hr]; exact hc
  have hs' : slots ≤ (kR K).slots := by rw [hr]; exact hs
  exact va_mmax C.x C.b (C.ml.trans h4.1.symm) C.ow (hts _ hlink) (hts _ hstat) (hts _ hini) (hts _ hcode) hf' hl' hc' hs' hd (kk H locs ls h2 h3 h4)
end G0M
-- a constructor's contract
def hPc (E : MK) (av : List Value) (A : AS) (n : Nat) : Array Value → State → Prop := va_Pc av (fun U => REL0 E A n U.heap ∧ gKP0 E U ∧ E.2.2.2 ≤ U.heap.size)
def hQc (E : MK) (A : AS) (n : Nat) : Array Value → State → Outcome → State → Prop := va_Qv (fun _ : Unit => True) (fun _ t => REL0 E A n t.heap) (gA E)
def hMet (l : Launch) (E : MK) (y : MethodName) (rm : Room) (av : List Value) (A : AS) (n : Nat) (A' : AS) (n' : Nat) : Prop := Met l y gW rm (hPc E av A n) (hQc E A' n') rm.cells rm.slots (gA E)
def hEnd (K : KT) (E : MK) (A' : AS) (n' : Nat) (rm : Room) : State → Prop := MQ (kb K) (hQc E A' n') (ka K) (ks K) rm.cells rm.slots (gA E)
theorem gKP0.warm {E : MK} {s U : State} (hW : s.WarmedH U.vm) (h : gKP0 E s) : gKP0 E U := ⟨gKP.warm hW h.1, va_AO.moved hW.alike h.2⟩
theorem hPc_blind (E : MK) (av : List Value) (A : AS) (n : Nat) : FrameBlind (hPc E av A n) := fun a U g mk h => by
  obtain ⟨h1, h2, h3, h4⟩ := h
  exact ⟨h1, h2, gKP0.warm (s := U) (U := U.calling g mk a) (State.WarmedH.refl U) h3, h4⟩
section G0C
variable {K : KT} {E : MK} {cc : ByteArray} {own : String} {nL : Nat} {rt : Option FieldType} {rm : Room} {A : AS} {n : Nat} {loc loc' : List (Nat × Value)} {st : List Value} {pc cells slots : Nat} {Q : State → Prop}
theorem h_ret (C : GC0 K E cc own nL none rm) (hd : decode cc pc = .ok (.return_, 1)) (hc : cells ≤ rm.cells) (hs : slots ≤ rm.slots) : GX0 K E nL A n loc [] pc cells slots (hEnd K E A n rm) := fun H locs ls h2 h3 h4 =>
  W.widen hc hs (W.vret C.x C.b C.r (fun t ht hW => ⟨⟨(), rfl, trivial, by show REL0 E A n t.heap; rw [ht]; exact h2⟩, va_S.F h3 ht⟩) h3.2.2 hd C.lk)
theorem h_call (C : GC0 K E cc own nL rt rm) {y : MethodName} {maxL np ix a A1n : Nat} {bytes : ByteArray} {rm' : Room} {As : List Value} {A1 : AS} (hd : decode cc pc = .ok (.invokespecial ix, 3)) (hM : hMet (kl K) E y rm' (gR E a :: As) A n A1 A1n) (hcode : Cond.code y bytes maxL none ∈ gW) (hini : Cond.initialized y.cls ∈ gW) (hinst : Cond.instanceMethod y ∈ gW) (hyn : y.name = "<init>") (hdd : y.cls ≠ "java/lang/invoke/MethodHandle" ∧ y.cls ≠ "java/lang/invoke/VarHandle" ∧ (parseMethodDescriptor y.desc).map (fun d => d.parameters.length) = some np) (hlink : Cond.methodLink own ix y ∈ gW ∨ ∃ host, (own, ix, y, host) ∈ gNM) (hn : As.length = np) (hW : (st.map fun v => v.category).sum ≤ 8) (hR : rm'.frames + 1 ≤ rm.frames ∧ 8 + (maxL + 11) + rm'.locals ≤ rm.locals) {c2 s2 : Nat} (hc2 : cells + rm'.cells = c2) (hs2 : slots + rm'.slots = s2) (hc : c2 ≤ rm.cells) (hs : s2 ≤ rm.slots) {sta : List Value} (hsta : sta = As.reverse ++ gR E a :: st) (kk : GX0 K E nL A1 A1n loc st (pc + 3) c2 s2 Q) : GX0 K E nL A n loc sta pc cells slots Q := fun H locs ls h2 h3 h4 => by
  subst hc2; subst hs2; subst hsta
  have hr := C.rr
  have hts := C.ts
  have hlo := Nat.le_trans C.lo h3.1
  have hws : ∀ w ∈ gW, ∀ (a' : Array Value) (U : State), (ks K).WarmedH U.vm → w.before a' U = true := fun w hw a' U hW => gW_warm hW hts w hw
  have hpre : PreS (ks K) H (hPc E (gR E a :: As) A n) (gR E a :: As) := ⟨hPc_blind E _ A n, fun U hU hW => ⟨rfl, by rw [hU]; exact h2, gKP0.warm hW C.kp, by rw [hU]; exact hlo⟩⟩
  have hpl : ∀ sig, parseMethodDescriptor y.desc = some sig → np = sig.parameters.length := fun sig h => by
    have h9 := hdd.2.2
    rw [h] at h9
    exact (Option.some.inj h9).symm
  have hrun : va_Run (kp K) (kl K) (ke K) (kR K) (ks K) (km K) (ka K) (kb K) (kh K) (kc K) H locs cells slots rm'.cells rm'.slots (F0 (km K) pc ls (As.reverse ++ gR E a :: st)) st (hQc E A1 A1n (gR E a :: As).toArray) (gA E) := by
    rcases hlink with hlink | ⟨host, hlink⟩
    · exact va_runI (nL := nL) (maxL := maxL) (n := np) (bytes := bytes) (Ts := gW) ⟨C.x, C.b, C.ml, C.ow, hts⟩ hM ⟨⟨rfl, rfl, by rw [hr]; exact hR.1, by rw [hr]; exact hR.2, hws, hcode, hts _ hcode, hts _ hini, ⟨hdd.1, hdd.2.1⟩, hpl, hts _ hlink⟩, hyn, hts _ hinst⟩ hpre rfl hn h4.1 rfl (by simpa using hW) hd ⟨by rw [hr]; exact hc, by rw [hr]; exact hs⟩
    · exact va_runIN (nL := nL) (maxL := maxL) (n := np) (bytes := bytes) (Ts := gW) (host := host) ⟨C.x, C.b, C.ml, C.ow, hts⟩ hM ⟨⟨⟨rfl, rfl, by rw [hr]; exact hR.1, by rw [hr]; exact hR.2, hws, hcode⟩, hts _ hcode, hts _ hini, ⟨hdd.1, hdd.2.1⟩, hpl, va_Nw.use rfl (C.kp.1.2.2.1 _ hlink)⟩, hyn, hts _ hinst⟩ hpre rfl hn h4.1 rfl (by simpa using hW) hd ⟨by rw [hr]; exact hc, by rw [hr]; exact hs⟩
  exact va_callv hrun h3 (fun _ _ h => h) (fun _ h => h) (fun u t H1 locs1 ht hvm hw hB hz1 hk1 hS => kk H1 locs1 ls (by rw [← ht]; exact hB) hS h4)
end G0C
theorem h_met {l : Launch} {E : MK} {y : MethodName} {cc : ByteArray} {maxL : Nat} {rm : Room} {av : List Value} {A A' : AS} {n n' : Nat} {loc : List (Nat × Value)} (hy : plainName y.cls = true) (hyn : y.name = "<init>") (hw : Cond.code y cc maxL none ∈ gW) (hlen : (lg_sl av).length ≤ maxL) (hloc : lv_args 0 av = loc)
    (body : ∀ K : KT, kl K = l → (kh K).name = "<init>" → GC0 K E cc y.cls maxL none rm → GX0 K E maxL A n loc [] 0 0 0 (hEnd K E A' n' rm)) : hMet l E y rm av A n A' n' := by
  unfold hMet Met
  refine MetFree.of_bodyS (code := cc) (maxLocals := maxL) (ret := none) hy ?_ ?_
  · intro args s m h hn
    obtain ⟨meth, c, h1, h2, h3, h4, h5, h6, -, -⟩ := Cond.code_spec hn (atoms_spec (ws := gW) h _ hw)
    exact ⟨meth, c, h1, h2, h3, h4, h5, h6⟩
  · intro p e s m args below meth c s₁ B hml hP _
    obtain ⟨rfl, hR, hK, hlo⟩ := hP
    have hh0 : s₁.heap = s.heap := by rw [B.state]; rfl
    have hname : meth.name = "<init>" := by
      have h9 := (name_of_methodNamed B.named B.method).1
      rw [h9]; exact hyn
    have C : GC0 (p, l, e, (headSpec gW rm).room, s, m, av.toArray, below, meth, c) E cc y.cls maxL none rm := ⟨B.exec, B.bytes, atoms_spec (ws := gW) B.pre, findClass_of_methodNamed B.named, hml, B.returns, B.notSynchronized, hK, rfl, hlo⟩
    have k := body _ rfl hname C
    have hl9 := lv_entry av (n := maxL) hlen
    rw [hloc] at hl9
    have k2 := k s.heap [] _ hR va_S.rf hl9
    rw [← lg_entry_eq] at k2
    obtain ⟨t, a1, o, b1, b2, b3⟩ := k2 s₁ hh0 (Stand.of_body B)
    exact ⟨t, o, a1, b1, b2, b3⟩
