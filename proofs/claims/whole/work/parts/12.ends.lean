-- CONTRACTS: what a method is given, what it owes
def gPc (E : MK) (av : List Value) (M : MEM) : Array Value → State → Prop := fun a U => a = av.toArray ∧ REL E M U.heap ∧ gKP E U ∧ gZ E U U.heap ∧ E.2.2.2 ≤ U.heap.size
def gQc (E : MK) (QV : Option Value → MEM → Prop) : Array Value → State → Outcome → State → Prop := fun _ st o t => ∃ v M', o = .returned v ∧ QV v M' ∧ REL E M' t.heap ∧ va_F (gA E) st t
def gXc (E : MK) (EX : String → MEM → Prop) : String → State → State → Prop := fun En st t => ∃ M', EX En M' ∧ REL E M' t.heap ∧ va_F (gA E) st t
def gMet (l : Launch) (E : MK) (y : MethodName) (rm : Room) (av : List Value) (M : MEM) (QV : Option Value → MEM → Prop) (EX : String → MEM → Prop) : Prop :=
  gx_Met l y gW rm (gPc E av M) (gQc E QV) (gXc E EX) rm.cells rm.slots (gA E)
def gEnd (K : KT) (E : MK) (QV : Option Value → MEM → Prop) (EX : String → MEM → Prop) (mc ms : Nat) : State → Prop := gx_MQ (kb K) (gQc E QV) (gXc E EX) (ka K) (ks K) mc ms (gA E)
def qI (Q : Int32 → MEM → Prop) : Option Value → MEM → Prop := fun v M => ∃ r : Int32, v = some (.int r) ∧ Q r M
def qL (Q : Int64 → MEM → Prop) : Option Value → MEM → Prop := fun v M => ∃ r : Int64, v = some (.long r) ∧ Q r M
def qF (Q : UInt32 → MEM → Prop) : Option Value → MEM → Prop := fun v M => ∃ r : UInt32, v = some (.float r) ∧ Q r M
def qD (Q : UInt64 → MEM → Prop) : Option Value → MEM → Prop := fun v M => ∃ r : UInt64, v = some (.double r) ∧ Q r M
def qR (E : MK) (Q : Nat → MEM → Prop) : Option Value → MEM → Prop := fun v M => ∃ r : Nat, v = some (gR E r) ∧ Q r M
def qV (Q : MEM → Prop) : Option Value → MEM → Prop := fun v M => v = none ∧ Q M
def qE (X : String → MEM → Prop) : String → MEM → Prop := X
theorem gPc_blind (E : MK) (av : List Value) (M : MEM) : FrameBlind (gPc E av M) := fun a U g mk h => by
  obtain ⟨h1, h2, h3, h4, h5⟩ := h
  exact ⟨h1, h2, gKP.warm (s := U) (U := U.calling g mk a) (State.WarmedH.refl U) h3, gZ.moved (u := U) (U := U.calling g mk a) (Vm.Alike.refl U.vm) h4, h5⟩
section GXE
variable {K : KT} {E : MK} {cc : ByteArray} {own : String} {nL : Nat} {ret : Option FieldType} {hh : List (Nat × Nat × Nat × Nat)} {rm : Room} {M : MEM} {loc loc' : List (Nat × Value)} {st : List Value} {pc cells slots mc ms : Nat} {Q : State → Prop} {QV : Option Value → MEM → Prop} {EX : String → MEM → Prop}
theorem g_endX {d : Drawn} {H : Heap} {locs : List Loc} {g : JFrame} (h1 : (ks K).drawn.sameBut d lw_cs) (k : W (kp K) (kl K) (ke K) (kR K) ((ks K).setDrawn d) (km K) (ka K) (kb K) (kh K) (kc K) H locs cells slots (vx_MQ (kb K) (gQc E QV) (gXc E EX) (ka K) ((ks K).setDrawn d) mc ms (gA E)) g) : GW K d H locs cells slots (gEnd K E QV EX mc ms) g := by
  intro T hT X
  obtain ⟨t, a1, a2⟩ := k T hT X
  exact ⟨t, a1, d, h1, a2⟩
theorem g_iret (C : GC K E cc own nL (some .int) hh rm) {v : Int32} (hd : decode cc pc = .ok (.ireturn, 1)) (hc : cells ≤ mc) (hs : slots ≤ ms) (hq : QV (some (.int v)) M) : GX K E nL M loc [.int v] pc cells slots (gEnd K E QV EX mc ms) := fun d H locs ls h1 h2 h3 h4 =>
  g_endX h1 (vx_ret (W.widen hc hs (W.iret C.x C.b C.r (fun t ht hW => ⟨_, M, rfl, hq, by rw [ht]; exact h2, va_S.F (s := (ks K).setDrawn d) h3 ht⟩) h3.2.2 hd C.lk)))
theorem g_zret {ty : FieldType} (C : GC K E cc own nL (some ty) hh rm) {v : Int32} (hd : decode cc pc = .ok (.ireturn, 1)) (hn : narrow ty (.int v) = .int v) (hc : cells ≤ mc) (hs : slots ≤ ms) (hq : QV (some (.int v)) M) : GX K E nL M loc [.int v] pc cells slots (gEnd K E QV EX mc ms) := fun d H locs ls h1 h2 h3 h4 =>
  g_endX h1 (vx_ret (W.widen hc hs (W.zret C.x C.b C.r hn (fun t ht hW => ⟨_, M, rfl, hq, by rw [ht]; exact h2, va_S.F (s := (ks K).setDrawn d) h3 ht⟩) h3.2.2 hd C.lk)))
theorem g_lret (C : GC K E cc own nL (some .long) hh rm) {v : Int64} (hd : decode cc pc = .ok (.lreturn, 1)) (hc : cells ≤ mc) (hs : slots ≤ ms) (hq : QV (some (.long v)) M) : GX K E nL M loc [.long v] pc cells slots (gEnd K E QV EX mc ms) := fun d H locs ls h1 h2 h3 h4 =>
  g_endX h1 (vx_ret (W.widen hc hs (W.lret C.x C.b C.r (fun t ht hW => ⟨_, M, rfl, hq, by rw [ht]; exact h2, va_S.F (s := (ks K).setDrawn d) h3 ht⟩) h3.2.2 hd C.lk)))
theorem g_fret (C : GC K E cc own nL (some .float) hh rm) {v : UInt32} (hd : decode cc pc = .ok (.freturn, 1)) (hc : cells ≤ mc) (hs : slots ≤ ms) (hq : QV (some (.float v)) M) : GX K E nL M loc [.float v] pc cells slots (gEnd K E QV EX mc ms) := fun d H locs ls h1 h2 h3 h4 =>
  g_endX h1 (vx_ret (W.widen hc hs (W.fret C.x C.b C.r (fun t ht hW => ⟨_, M, rfl, hq, by rw [ht]; exact h2, va_S.F (s := (ks K).setDrawn d) h3 ht⟩) h3.2.2 hd C.lk)))
theorem g_dret (C : GC K E cc own nL (some .double) hh rm) {v : UInt64} (hd : decode cc pc = .ok (.dreturn, 1)) (hc : cells ≤ mc) (hs : slots ≤ ms) (hq : QV (some (.double v)) M) : GX K E nL M loc [.double v] pc cells slots (gEnd K E QV EX mc ms) := fun d H locs ls h1 h2 h3 h4 =>
  g_endX h1 (vx_ret (W.widen hc hs (W.dret C.x C.b C.r (fun t ht hW => ⟨_, M, rfl, hq, by rw [ht]; exact h2, va_S.F (s := (ks K).setDrawn d) h3 ht⟩) h3.2.2 hd C.lk)))
theorem g_vret (C : GC K E cc own nL none hh rm) (hd : decode cc pc = .ok (.return_, 1)) (hc : cells ≤ mc) (hs : slots ≤ ms) (hq : QV none M) : GX K E nL M loc [] pc cells slots (gEnd K E QV EX mc ms) := fun d H locs ls h1 h2 h3 h4 =>
  g_endX h1 (vx_ret (W.widen hc hs (W.vret C.x C.b C.r (fun t ht hW => ⟨_, M, rfl, hq, by rw [ht]; exact h2, va_S.F (s := (ks K).setDrawn d) h3 ht⟩) h3.2.2 hd C.lk)))
theorem g_aret {cn : String} (C : GC K E cc own nL (some (.object cn)) hh rm) {a : Nat} (hd : decode cc pc = .ok (.areturn, 1)) (hc : cells ≤ mc) (hs : slots ≤ ms) (hq : QV (some (gR E a)) M) : GX K E nL M loc [gR E a] pc cells slots (gEnd K E QV EX mc ms) := fun d H locs ls h1 h2 h3 h4 =>
  g_endX h1 (vx_ret (W.widen hc hs (W.aret C.x C.b C.r (Or.inl ⟨_, rfl⟩) (Or.inr ⟨_, rfl⟩) (fun t ht hW => ⟨_, M, rfl, hq, by rw [ht]; exact h2, va_S.F (s := (ks K).setDrawn d) h3 ht⟩) h3.2.2 hd C.lk)))
/-- what is thrown here leaves the method -/
theorem g_out (C : GC K E cc own nL ret hh rm) {En : String} (hout : ∀ x ∈ tableOf hh, covers x pc = false) (hc : cells ≤ mc) (hs : slots ≤ ms) (hE : EX En M) : GT K E nL M loc st pc cells slots (gEnd K E QV EX mc ms) En := fun d H locs ls q ce h1 h2 h3 h4 h5 h6 h7 => by
  have k := vx_out (p := kp K) (l := kl K) (e := ke K) (R := kR K) (s := (ks K).setDrawn d) (m := km K) (args := ka K) (below := kb K) (meth := kh K) (c := kc K) (H := H) (locs := locs) (cells := cells) (slots := slots) (free := gA E) (ls := ls) (rest := st) (Qc := gQc E QV) (XC := gXc E EX) (mc := mc) (ms := ms) (pc := pc) (E := En) (q := q) (by rw [C.tab]; exact hout) C.lk h5 h6 h7 (fun t ht hA => ⟨M, hE, by rw [ht]; exact h2, va_S.F (s := (ks K).setDrawn d) h3 ht⟩) h3.2.2 hc hs
  intro T hT X
  obtain ⟨t, a1, a2⟩ := k T hT X
  exact ⟨t, a1, d, h1, a2⟩
/-- caught by the row x of the table -/
theorem g_catch (C : GC K E cc own nL ret hh rm) {En : String} (pre : List ExceptionTableEntry) (x : ExceptionTableEntry) (suf : List ExceptionTableEntry) (hsplit : tableOf hh = pre ++ x :: suf) (hpass : ∀ z ∈ pre, z.catchType ≠ 0 ∧ ∃ nm : String, Cond.classLink own z.catchType nm ∈ gW ∧ (En, nm) ∈ gNC) (hx : covers x pc = true) (h0 : x.catchType ≠ 0) (hlink : Cond.classLink own x.catchType En ∈ gW) (hcast : En ∈ gCA) (kk : ∀ q : Nat, GX K E nL M loc [.ref q] x.handlerPc cells slots Q) : GT K E nL M loc st pc cells slots Q En := fun d H locs ls q ce h1 h2 h3 h4 h5 h6 h7 =>
  vx_catch (s := (ks K).setDrawn d) C.ow pre x suf (by rw [C.tab]; exact hsplit) (fun z hz => Or.inr ⟨(hpass z hz).1, by
    obtain ⟨nm, g1, g2⟩ := (hpass z hz).2
    exact ⟨nm, C.ts d _ g1, va_Nc.moved (u := ks K) (U := (ks K).setDrawn d) (Vm.Alike.refl _) (C.kp0.2.2.2.2.1 _ g2)⟩⟩) hx h0 (C.ts d _ hlink) (va_Nw.use rfl (va_Nw.same (u := ks K) rfl rfl (C.kp0.2.2.2.2.2.1 _ hcast))) h5 h6 h7 (kk q d H locs ls h1 h2 h3 h4)
/-- throw new E("text") -/
theorem g_throwS (C : GC K E cc own nL ret hh rm) {cls text : String} {names : List String} {ik is ic : Nat} (hcls : Bundle.fit cls = true) (hnames : ∀ n ∈ names, Bundle.fit n = true) (hk : Cond.classLink own ik cls ∈ gW) (hini : Cond.initialized cls ∈ gW) (hstr : (own, is, text) ∈ gST) (hca : cls ∈ gCA) (hat : ∀ w ∈ vx_atS own ic cls names, w ∈ gW ∨ w = .castable cls cls ∨ w ∈ gDC.map Cond.declares)
    (d0 : decode cc pc = .ok (.new ik, 3)) (d3 : decode cc (pc + 3) = .ok (.dup, 1)) (d4 : decode cc (pc + 4) = .ok (.ldc is, 2)) (d6 : decode cc (pc + 6) = .ok (.invokespecial ic, 3)) (d9 : decode cc (pc + 9) = .ok (.athrow, 1))
    (hout : ∀ x ∈ tableOf hh, covers x (pc + 9) = false) (hf : names.length + 3 < rm.frames) (hl : (st.map fun v => v.category).sum + (13 * (names.length + 1) + 43) ≤ rm.locals) (hRc : cells + 1 ≤ rm.cells) (hRs : slots + 6 ≤ rm.slots) (hc : cells + 1 ≤ mc) (hs : slots + 6 ≤ ms) (hE : EX cls M) : GX K E nL M loc st pc cells slots (gEnd K E QV EX mc ms) := fun d H locs ls h1 h2 h3 h4 => by
  obtain ⟨sa, hsa⟩ := C.kp0.2.2.2.1 _ hstr
  have hr := C.rr
  have hw9 : ∀ w ∈ vx_atS own ic cls names, w.before (ka K) ((ks K).setDrawn d) = true := fun w hw => by
    rcases hat w hw with h | rfl | h
    · exact C.ts d _ h
    · exact va_Nw.use rfl (va_Nw.same (u := ks K) rfl rfl (C.kp0.2.2.2.2.2.1 _ hca))
    · obtain ⟨q, hq, rfl⟩ := List.mem_map.mp h
      exact va_Nw.use rfl (va_Nw.same (u := ks K) rfl rfl (C.kp0.2.2.2.2.2.2 _ hq))
  have hg : ∀ w ∈ Cond.classLink own ik cls :: Cond.initialized cls :: vx_atS own ic cls names, vx_ot w = true := fun w hw => by
    have h8 : w ∈ gW ∨ w = .castable cls cls ∨ w ∈ gDC.map Cond.declares := by
      rcases List.mem_cons.mp hw with rfl | hw
      · exact Or.inl hk
      · rcases List.mem_cons.mp hw with rfl | hw
        · exact Or.inl hini
        · exact hat _ hw
    rcases h8 with h8 | rfl | h8
    · have h9 := (List.mem_filter.mp h8).2
      simp [vx_ot, h9]
    · rfl
    · obtain ⟨q, hq, rfl⟩ := List.mem_map.mp h8
      rfl
  exact g_endX h1 (vx_throwS (s := (ks K).setDrawn d) (A := gA E) (sa := sa) C.x C.b C.st C.ow hcls hnames (C.ts d _ hk) (C.ts d _ hini) (vk_R.same (u := ks K) rfl hsa) hw9 hg
    (vx_Zq.moved (u := ks K) (U := (ks K).setDrawn d) (Vm.Alike.refl _) C.zU) (vx_Zq.moved (u := ks K) (U := (ks K).setDrawn d) (Vm.Alike.refl _) C.zN) h3 (h4.1.trans C.ml.symm) d0 d3 d4 d6 d9 (by rw [C.tab]; exact hout)
    (by rw [hr]; exact hf) (by rw [hr]; exact hl) (by rw [hr]; exact hRc) (by rw [hr]; exact hRs) C.lk
    (fun t hA g1 g2 => ⟨M, hE, h2.grown g2, Nat.le_trans h3.1 g1, fun q u1 u2 => by rw [g2 q (Nat.lt_of_lt_of_le u1 h3.1)]; exact h3.2.1 q u1 u2⟩) h3.2.2 hc hs)
/-- the same, where the constructor links its super's by index ix -/
theorem g_throwX (C : GC K E cc own nL ret hh rm) {cls text : String} {names : List String} {ik is ic ix : Nat} {rx : ByteArray} (x0 : decode rx 0 = .ok (.aload_n 0, 1)) (x1 : decode rx 1 = .ok (.aload_n 1, 1)) (x2 : decode rx 2 = .ok (.invokespecial ix, 3)) (x5 : decode rx 5 = .ok (.return_, 1)) (hcls : Bundle.fit cls = true) (hnames : ∀ n ∈ names, Bundle.fit n = true) (hk : Cond.classLink own ik cls ∈ gW) (hini : Cond.initialized cls ∈ gW) (hstr : (own, is, text) ∈ gST) (hca : cls ∈ gCA) (hat : ∀ w ∈ gx_atS own ic cls ix rx names, w ∈ gW ∨ w = .castable cls cls ∨ w ∈ gDC.map Cond.declares)
    (d0 : decode cc pc = .ok (.new ik, 3)) (d3 : decode cc (pc + 3) = .ok (.dup, 1)) (d4 : decode cc (pc + 4) = .ok (.ldc is, 2)) (d6 : decode cc (pc + 6) = .ok (.invokespecial ic, 3)) (d9 : decode cc (pc + 9) = .ok (.athrow, 1))
    (hout : ∀ x ∈ tableOf hh, covers x (pc + 9) = false) (hf : names.length + 3 < rm.frames) (hl : (st.map fun v => v.category).sum + (13 * (names.length + 1) + 43) ≤ rm.locals) (hRc : cells + 1 ≤ rm.cells) (hRs : slots + 6 ≤ rm.slots) (hc : cells + 1 ≤ mc) (hs : slots + 6 ≤ ms) (hE : EX cls M) : GX K E nL M loc st pc cells slots (gEnd K E QV EX mc ms) := fun d H locs ls h1 h2 h3 h4 => by
  obtain ⟨sa, hsa⟩ := C.kp0.2.2.2.1 _ hstr
  have hr := C.rr
  have hw9 : ∀ w ∈ gx_atS own ic cls ix rx names, w.before (ka K) ((ks K).setDrawn d) = true := fun w hw => by
    rcases hat w hw with h | rfl | h
    · exact C.ts d _ h
    · exact va_Nw.use rfl (va_Nw.same (u := ks K) rfl rfl (C.kp0.2.2.2.2.2.1 _ hca))
    · obtain ⟨q, hq, rfl⟩ := List.mem_map.mp h
      exact va_Nw.use rfl (va_Nw.same (u := ks K) rfl rfl (C.kp0.2.2.2.2.2.2 _ hq))
  have hg : ∀ w ∈ Cond.classLink own ik cls :: Cond.initialized cls :: gx_atS own ic cls ix rx names, vx_ot w = true := fun w hw => by
    have h8 : w ∈ gW ∨ w = .castable cls cls ∨ w ∈ gDC.map Cond.declares := by
      rcases List.mem_cons.mp hw with rfl | hw
      · exact Or.inl hk
      · rcases List.mem_cons.mp hw with rfl | hw
        · exact Or.inl hini
        · exact hat _ hw
    rcases h8 with h8 | rfl | h8
    · have h9 := (List.mem_filter.mp h8).2
      simp [vx_ot, h9]
    · rfl
    · obtain ⟨q, hq, rfl⟩ := List.mem_map.mp h8
      rfl
  exact g_endX h1 (gx_throwX (s := (ks K).setDrawn d) (A := gA E) (sa := sa) C.x C.b C.st x0 x1 x2 x5 C.ow hcls hnames (C.ts d _ hk) (C.ts d _ hini) (vk_R.same (u := ks K) rfl hsa) hw9 hg
    (vx_Zq.moved (u := ks K) (U := (ks K).setDrawn d) (Vm.Alike.refl _) C.zU) (vx_Zq.moved (u := ks K) (U := (ks K).setDrawn d) (Vm.Alike.refl _) C.zN) h3 (h4.1.trans C.ml.symm) d0 d3 d4 d6 d9 (by rw [C.tab]; exact hout)
    (by rw [hr]; exact hf) (by rw [hr]; exact hl) (by rw [hr]; exact hRc) (by rw [hr]; exact hRs) C.lk
    (fun t hA g1 g2 => ⟨M, hE, h2.grown g2, Nat.le_trans h3.1 g1, fun q u1 u2 => by rw [g2 q (Nat.lt_of_lt_of_le u1 h3.1)]; exact h3.2.1 q u1 u2⟩) h3.2.2 hc hs)
/-- the same, the text by a wide index -/
theorem g_throwSW (C : GC K E cc own nL ret hh rm) {cls text : String} {names : List String} {ik is ic : Nat} (hcls : Bundle.fit cls = true) (hnames : ∀ n ∈ names, Bundle.fit n = true) (hk : Cond.classLink own ik cls ∈ gW) (hini : Cond.initialized cls ∈ gW) (hstr : (own, is, text) ∈ gST) (hca : cls ∈ gCA) (hat : ∀ w ∈ vx_atS own ic cls names, w ∈ gW ∨ w = .castable cls cls ∨ w ∈ gDC.map Cond.declares)
    (d0 : decode cc pc = .ok (.new ik, 3)) (d3 : decode cc (pc + 3) = .ok (.dup, 1)) (d4 : decode cc (pc + 4) = .ok (.ldc_w is, 3)) (d7 : decode cc (pc + 7) = .ok (.invokespecial ic, 3)) (d10 : decode cc (pc + 10) = .ok (.athrow, 1))
    (hout : ∀ x ∈ tableOf hh, covers x (pc + 10) = false) (hf : names.length + 3 < rm.frames) (hl : (st.map fun v => v.category).sum + (13 * (names.length + 1) + 43) ≤ rm.locals) (hRc : cells + 1 ≤ rm.cells) (hRs : slots + 6 ≤ rm.slots) (hc : cells + 1 ≤ mc) (hs : slots + 6 ≤ ms) (hE : EX cls M) : GX K E nL M loc st pc cells slots (gEnd K E QV EX mc ms) := fun d H locs ls h1 h2 h3 h4 => by
  obtain ⟨sa, hsa⟩ := C.kp0.2.2.2.1 _ hstr
  have hr := C.rr
  have hw9 : ∀ w ∈ vx_atS own ic cls names, w.before (ka K) ((ks K).setDrawn d) = true := fun w hw => by
    rcases hat w hw with h | rfl | h
    · exact C.ts d _ h
    · exact va_Nw.use rfl (va_Nw.same (u := ks K) rfl rfl (C.kp0.2.2.2.2.2.1 _ hca))
    · obtain ⟨q, hq, rfl⟩ := List.mem_map.mp h
      exact va_Nw.use rfl (va_Nw.same (u := ks K) rfl rfl (C.kp0.2.2.2.2.2.2 _ hq))
  have hg : ∀ w ∈ Cond.classLink own ik cls :: Cond.initialized cls :: vx_atS own ic cls names, vx_ot w = true := fun w hw => by
    have h8 : w ∈ gW ∨ w = .castable cls cls ∨ w ∈ gDC.map Cond.declares := by
      rcases List.mem_cons.mp hw with rfl | hw
      · exact Or.inl hk
      · rcases List.mem_cons.mp hw with rfl | hw
        · exact Or.inl hini
        · exact hat _ hw
    rcases h8 with h8 | rfl | h8
    · have h9 := (List.mem_filter.mp h8).2
      simp [vx_ot, h9]
    · rfl
    · obtain ⟨q, hq, rfl⟩ := List.mem_map.mp h8
      rfl
  exact g_endX h1 (vx_throwSW (s := (ks K).setDrawn d) (A := gA E) (sa := sa) C.x C.b C.st C.ow hcls hnames (C.ts d _ hk) (C.ts d _ hini) (vk_R.same (u := ks K) rfl hsa) hw9 hg
    (vx_Zq.moved (u := ks K) (U := (ks K).setDrawn d) (Vm.Alike.refl _) C.zU) (vx_Zq.moved (u := ks K) (U := (ks K).setDrawn d) (Vm.Alike.refl _) C.zN) h3 (h4.1.trans C.ml.symm) d0 d3 d4 d7 d10 (by rw [C.tab]; exact hout)
    (by rw [hr]; exact hf) (by rw [hr]; exact hl) (by rw [hr]; exact hRc) (by rw [hr]; exact hRs) C.lk
    (fun t hA g1 g2 => ⟨M, hE, h2.grown g2, Nat.le_trans h3.1 g1, fun q u1 u2 => by rw [g2 q (Nat.lt_of_lt_of_le u1 h3.1)]; exact h3.2.1 q u1 u2⟩) h3.2.2 hc hs)
/-- and by a wide index -/
theorem g_throwXW (C : GC K E cc own nL ret hh rm) {cls text : String} {names : List String} {ik is ic ix : Nat} {rx : ByteArray} (x0 : decode rx 0 = .ok (.aload_n 0, 1)) (x1 : decode rx 1 = .ok (.aload_n 1, 1)) (x2 : decode rx 2 = .ok (.invokespecial ix, 3)) (x5 : decode rx 5 = .ok (.return_, 1)) (hcls : Bundle.fit cls = true) (hnames : ∀ n ∈ names, Bundle.fit n = true) (hk : Cond.classLink own ik cls ∈ gW) (hini : Cond.initialized cls ∈ gW) (hstr : (own, is, text) ∈ gST) (hca : cls ∈ gCA) (hat : ∀ w ∈ gx_atS own ic cls ix rx names, w ∈ gW ∨ w = .castable cls cls ∨ w ∈ gDC.map Cond.declares)
    (d0 : decode cc pc = .ok (.new ik, 3)) (d3 : decode cc (pc + 3) = .ok (.dup, 1)) (d4 : decode cc (pc + 4) = .ok (.ldc_w is, 3)) (d7 : decode cc (pc + 7) = .ok (.invokespecial ic, 3)) (d10 : decode cc (pc + 10) = .ok (.athrow, 1))
    (hout : ∀ x ∈ tableOf hh, covers x (pc + 10) = false) (hf : names.length + 3 < rm.frames) (hl : (st.map fun v => v.category).sum + (13 * (names.length + 1) + 43) ≤ rm.locals) (hRc : cells + 1 ≤ rm.cells) (hRs : slots + 6 ≤ rm.slots) (hc : cells + 1 ≤ mc) (hs : slots + 6 ≤ ms) (hE : EX cls M) : GX K E nL M loc st pc cells slots (gEnd K E QV EX mc ms) := fun d H locs ls h1 h2 h3 h4 => by
  obtain ⟨sa, hsa⟩ := C.kp0.2.2.2.1 _ hstr
  have hr := C.rr
  have hw9 : ∀ w ∈ gx_atS own ic cls ix rx names, w.before (ka K) ((ks K).setDrawn d) = true := fun w hw => by
    rcases hat w hw with h | rfl | h
    · exact C.ts d _ h
    · exact va_Nw.use rfl (va_Nw.same (u := ks K) rfl rfl (C.kp0.2.2.2.2.2.1 _ hca))
    · obtain ⟨q, hq, rfl⟩ := List.mem_map.mp h
      exact va_Nw.use rfl (va_Nw.same (u := ks K) rfl rfl (C.kp0.2.2.2.2.2.2 _ hq))
  have hg : ∀ w ∈ Cond.classLink own ik cls :: Cond.initialized cls :: gx_atS own ic cls ix rx names, vx_ot w = true := fun w hw => by
    have h8 : w ∈ gW ∨ w = .castable cls cls ∨ w ∈ gDC.map Cond.declares := by
      rcases List.mem_cons.mp hw with rfl | hw
      · exact Or.inl hk
      · rcases List.mem_cons.mp hw with rfl | hw
        · exact Or.inl hini
        · exact hat _ hw
    rcases h8 with h8 | rfl | h8
    · have h9 := (List.mem_filter.mp h8).2
      simp [vx_ot, h9]
    · rfl
    · obtain ⟨q, hq, rfl⟩ := List.mem_map.mp h8
      rfl
  exact g_endX h1 (gx_throwXW (s := (ks K).setDrawn d) (A := gA E) (sa := sa) C.x C.b C.st x0 x1 x2 x5 C.ow hcls hnames (C.ts d _ hk) (C.ts d _ hini) (vk_R.same (u := ks K) rfl hsa) hw9 hg
    (vx_Zq.moved (u := ks K) (U := (ks K).setDrawn d) (Vm.Alike.refl _) C.zU) (vx_Zq.moved (u := ks K) (U := (ks K).setDrawn d) (Vm.Alike.refl _) C.zN) h3 (h4.1.trans C.ml.symm) d0 d3 d4 d7 d10 (by rw [C.tab]; exact hout)
    (by rw [hr]; exact hf) (by rw [hr]; exact hl) (by rw [hr]; exact hRc) (by rw [hr]; exact hRs) C.lk
    (fun t hA g1 g2 => ⟨M, hE, h2.grown g2, Nat.le_trans h3.1 g1, fun q u1 u2 => by rw [g2 q (Nat.lt_of_lt_of_le u1 h3.1)]; exact h3.2.1 q u1 u2⟩) h3.2.2 hc hs)
/-- what a call asks apart from the callee's contract; n parameters -/
def gCall (y : MethodName) (maxL n : Nat) (rm' rm : Room) : Prop :=
  ((∃ bytes ret', Cond.code y bytes maxL ret' ∈ gW) ∨ ∃ bytes ret' hh', Cond.codeWith y bytes maxL ret' hh' ∈ gW) ∧ Cond.initialized y.cls ∈ gW ∧ (y.cls ≠ "java/lang/invoke/MethodHandle" ∧ y.cls ≠ "java/lang/invoke/VarHandle") ∧ (parseMethodDescriptor y.desc).map (fun d => d.parameters.length) = some n ∧ rm'.frames + 1 ≤ rm.frames ∧ 8 + (maxL + 11) + rm'.locals ≤ rm.locals
theorem gCall.cd {y : MethodName} {maxL n : Nat} {rm' rm : Room} (h : gCall y maxL n rm' rm) {a : Array Value} {U : State} (hU : ∀ w ∈ gW, w.before a U = true) : gx_cd y maxL U := by
  rcases h.1 with ⟨b, r, hw⟩ | ⟨b, r, h9, hw⟩
  · exact gx_cd_code (hU _ hw)
  · exact gx_cd_codeW (hU _ hw)
theorem gW_warm {args a' : Array Value} {s U : State} (hW : s.WarmedH U.vm) (h : ∀ w ∈ gW, w.before args s = true) : ∀ w ∈ gW, w.before a' U = true := fun w hw => word_at hW (gW_good _ hw).2 (h w hw)
/-- behind a call -/
theorem g_came (C : GC K E cc own nL ret hh rm) {mc' ms' : Nat} {pc' : Nat} {st0 : List Value} {a : Array Value} {QV' : Option Value → MEM → Prop} {EX' : String → MEM → Prop} {d : Drawn} {H : Heap} {locs : List Loc} {ls : Array Slot} (h1 : (ks K).drawn.sameBut d lw_cs) (h3 : va_S (gA E) (ks K).heap H locs) (h4 : lv_has ls nL loc)
    (hcome : ∀ T : State, T.heap = H → Stand (kp K) (kl K) (ke K) (kR K) ((ks K).setDrawn d) (km K) (ka K) (kb K) (kh K) (kc K) T locs cells slots → gx_Came (kp K) (kl K) (ke K) (kR K) ((ks K).setDrawn d) (km K) (ka K) (kb K) (kh K) (kc K) T locs cells slots (F0 (km K) pc ls st0) st a (PostOf (gQc E QV') mc' ms' (gA E)) (vx_Post (gXc E EX') mc' ms' (gA E)))
    (hp : pc' = pc + 3) (kr : ∀ v M', QV' v M' → GX K E nL M' loc (v.toList ++ st) pc' (cells + mc') (slots + ms') Q) (kt : ∀ En M', EX' En M' → GT K E nL M' loc st pc (cells + mc') (slots + ms') Q En) : GW K d H locs cells slots Q (F0 (km K) pc ls st0) := by
  subst hp
  intro T hT X
  rcases hcome T hT X with ⟨v, vm₁, ⟨U', l2, c2, s2⟩, d', hd', hW₁, X', ⟨g', mk, t, L, e1, e2, hq, g1, hL, g2, g3⟩, hst⟩ | ⟨q, vm₁, ⟨U', l2, c2, s2⟩, d', hd', hW₁, X', ⟨g', mk, t, L, En, ce, e1, e2, hx, hce, hcv, hcl, g1, hL, g2, g3⟩, hst⟩
  · dsimp only [Pt.U, Pt.locs, Pt.cells, Pt.slots] at X' e1 e2 g1 g2 g3 hst
    subst g1; subst g2; subst g3
    obtain ⟨v', M', hv, hQ, hR, hF⟩ := hq
    cases hv
    obtain ⟨k1, k2, k3⟩ := vx_keep (T' := U') (H := H) (hT : (((T.setVm vm₁).setDrawn d').calling g' mk a).heap = H) e1 h3 (fun _ _ h => h) (fun _ h => h) hL hF
    obtain ⟨t2, a1, b1⟩ := kr v M' hQ d' U'.heap (locs ++ L) ls (h1.trans hd') (by rw [e1]; exact hR) k3 h4 U' rfl X'
    exact ⟨t2, hst t2 a1, b1⟩
  · dsimp only [Pt.U, Pt.locs, Pt.cells, Pt.slots] at X' e1 e2 g1 g2 g3 hst hcl
    subst g1; subst g2; subst g3
    obtain ⟨M', hQ, hR, hF⟩ := hx
    obtain ⟨k1, k2, k3⟩ := vx_keep (T' := U') (H := H) (hT : (((T.setVm vm₁).setDrawn d').calling g' mk a).heap = H) e1 h3 (fun _ _ h => h) (fun _ h => h) hL hF
    obtain ⟨t2, a1, b1⟩ := kt En M' hQ d' U'.heap (locs ++ L) ls q ce (h1.trans hd') (by rw [e1]; exact hR) k3 h4 (by rw [e1]; exact hce) hcv (vx_cls (s := ks K) (T := T) hW₁ hcl) U' rfl X'
    exact ⟨t2, hst.trans a1, b1⟩
theorem g_callV (C : GC K E cc own nL ret hh rm) {y : MethodName} {maxL n index ci N : Nat} {rm' : Room} {Cn : String} {T0 : u_T} {As : List Value} {a : Nat} {QV' : Option Value → MEM → Prop} {EX' : String → MEM → Prop} (hd : decode cc pc = .ok (.invokevirtual index, 3)) (hM : gMet (kl K) E y rm' (gR E a :: As) M QV' EX') (hcall : gCall y maxL n rm' rm) (hlink : Cond.methodLink own index y ∈ gW) (hinst : Cond.instanceMethod y ∈ gW) (hsel : Cond.selects Cn y y ∈ gW) (hcl : gCl[ci]? = some (Cn, T0, N)) (hci : ci < 7) (hkd : KD a = (ci + 10, 0)) (hn : As.length = n) (hW : (st.map fun v => v.category).sum ≤ 8) (hc : cells + rm'.cells ≤ rm.cells) (hs : slots + rm'.slots ≤ rm.slots)
    {sta : List Value} (hsta : sta = As.reverse ++ gR E a :: st)
    (kr : ∀ v M', QV' v M' → GX K E nL M' loc (v.toList ++ st) (pc + 3) (cells + rm'.cells) (slots + rm'.slots) Q) (kt : ∀ En M', EX' En M' → GT K E nL M' loc st pc (cells + rm'.cells) (slots + rm'.slots) Q En) : GX K E nL M loc sta pc cells slots Q := fun d H locs ls h1 h2 h3 h4 => by
  subst hsta
  refine g_came C (a := (gR E a :: As).toArray) (QV' := QV') (EX' := EX') h1 h3 h4 (fun T hT X => ?_) rfl kr kt
  have hts := C.ts d
  obtain ⟨-, hini, hy, hpar, hfr, hlo⟩ := id hcall
  have hr := C.rr
  have hB := gx_back (l := kl K) (R := kR K) (p := kp K) (e := ke K) (below := kb K) (s := (ks K).setDrawn d) (sargs := ka K) (len := 3) (W9 := 8) (maxL := maxL) hM (gPc_blind E _ M) rfl rfl (by rw [hr]; exact hfr) (by rw [hr]; exact hlo) (fun w hw a' U hW => gW_warm hW hts w hw) (fun U hW => hcall.cd (a := ka K) (gW_warm hW hts)) (fun a' U hW => gW_warm hW hts _ hini)
  obtain ⟨q0, e1, e2⟩ := wl_at (E := E) (M := M) (KD_mem hkd (by omega))
  rw [gE_obj hkd] at e2
  obtain ⟨cellB, b1, b2, b3⟩ := va_recv (C.k d) h2.1 hcl e2
  refine gx_callV (C := Cn) X C.x C.ow (hts _ hlink) (hts _ hinst) (hts _ hsel) (hcall.cd hts) hy hB (by rw [hT]; exact b1) b2 b3 rfl (h4.1.trans C.ml.symm) (fun sig h => by rw [h] at hpar; exact hn.trans (Option.some.inj hpar).symm) rfl (by simpa using hW) (by rw [C.b]; exact hd) (fun vm₁ hW₁ => ⟨by rw [hr]; exact hc, by rw [hr]; exact hs, rfl, ?_, gKP.warm (s := ks K) (U := T.setVm vm₁) hW₁ C.kp0, ?_, ?_⟩)
  · show REL E M T.heap
    rw [hT]; exact h2
  · show gZ E (T.setVm vm₁) T.heap
    rw [hT]
    exact gZ.moved (u := ks K) (U := T.setVm vm₁) hW₁.alike (C.z.S h3)
  · show E.2.2.2 ≤ T.heap.size
    rw [hT]; exact Nat.le_trans C.lo h3.1
theorem g_callS (C : GC K E cc own nL ret hh rm) {y : MethodName} {maxL n index : Nat} {rm' : Room} {As : List Value} {QV' : Option Value → MEM → Prop} {EX' : String → MEM → Prop} (hd : decode cc pc = .ok (.invokestatic index, 3)) (hM : gMet (kl K) E y rm' As M QV' EX') (hcall : gCall y maxL n rm' rm) (hlink : Cond.methodLink own index y ∈ gW ∨ ∃ host, (own, index, y, host) ∈ gNM) (hstat : Cond.static y ∈ gW) (hn : As.length = n) (hW : (st.map fun v => v.category).sum ≤ 8) (hc : cells + rm'.cells ≤ rm.cells) (hs : slots + rm'.slots ≤ rm.slots)
    {sta : List Value} (hsta : sta = As.reverse ++ st)
    (kr : ∀ v M', QV' v M' → GX K E nL M' loc (v.toList ++ st) (pc + 3) (cells + rm'.cells) (slots + rm'.slots) Q) (kt : ∀ En M', EX' En M' → GT K E nL M' loc st pc (cells + rm'.cells) (slots + rm'.slots) Q En) : GX K E nL M loc sta pc cells slots Q := fun d H locs ls h1 h2 h3 h4 => by
  subst hsta
  refine g_came C (a := As.toArray) (QV' := QV') (EX' := EX') h1 h3 h4 (fun T hT X => ?_) rfl kr kt
  have hts := C.ts d
  obtain ⟨-, hini, hy, hpar, hfr, hlo⟩ := id hcall
  have hr := C.rr
  have hB := gx_back (l := kl K) (R := kR K) (p := kp K) (e := ke K) (below := kb K) (s := (ks K).setDrawn d) (sargs := ka K) (len := 3) (W9 := 8) (maxL := maxL) hM (gPc_blind E _ M) rfl rfl (by rw [hr]; exact hfr) (by rw [hr]; exact hlo) (fun w hw a' U hW => gW_warm hW hts w hw) (fun U hW => hcall.cd (a := ka K) (gW_warm hW hts)) (fun a' U hW => gW_warm hW hts _ hini)
  have hl9 : (Cond.methodLink own index y).before (ka K) ((ks K).setDrawn d) = true ∨ ∃ host, (Cond.methodLinkNest own index y host).before (ka K) ((ks K).setDrawn d) = true := by
    rcases hlink with h | ⟨host, h⟩
    · exact Or.inl (hts _ h)
    · exact Or.inr ⟨host, va_Nw.use rfl (va_Nw.same (u := ks K) rfl rfl (C.kp0.2.2.1 _ h))⟩
  refine gx_callS X C.x C.ow hl9 (hts _ hstat) (hts _ hini) (hcall.cd hts) hy hB rfl (h4.1.trans C.ml.symm) (fun sig h => by rw [h] at hpar; exact hn.trans (Option.some.inj hpar).symm) rfl (by simpa using hW) (by rw [C.b]; exact hd) (fun vm₁ hW₁ => ⟨by rw [hr]; exact hc, by rw [hr]; exact hs, rfl, ?_, gKP.warm (s := ks K) (U := T.setVm vm₁) hW₁ C.kp0, ?_, ?_⟩)
  · show REL E M T.heap
    rw [hT]; exact h2
  · show gZ E (T.setVm vm₁) T.heap
    rw [hT]
    exact gZ.moved (u := ks K) (U := T.setVm vm₁) hW₁.alike (C.z.S h3)
  · show E.2.2.2 ≤ T.heap.size
    rw [hT]; exact Nat.le_trans C.lo h3.1
/-- System.arraycopy of ints -/
theorem g_copy (C : GC K E cc own nL ret hh rm) {index a b n0 n1 : Nat} {sp dp n : Int32} (hd : decode cc pc = .ok (.invokestatic index, 3)) (hlink : Cond.methodLink own index arraycopyName ∈ gW) (hnat : Cond.native arraycopyName ∈ gW) (hstat : Cond.static arraycopyName ∈ gW) (hini : Cond.initialized "java/lang/System" ∈ gW) (hka : KD a = (0, n0)) (hkb : KD b = (0, n1)) (g1 : ¬ sp < 0) (g2 : ¬ dp < 0) (g3 : ¬ n < 0) (g4 : sp.toNatClampNeg + n.toNatClampNeg ≤ n0) (g5 : dp.toNatClampNeg + n.toNatClampNeg ≤ n1) (hf : 1 ≤ rm.frames) (hl : (st.map fun v => v.category).sum + (nativeFrameWords "java/lang/System" "arraycopy" 5 + 11) ≤ rm.locals)
    (kk : GX K E nL (uC M a b sp.toNatClampNeg dp.toNatClampNeg n.toNatClampNeg) loc st (pc + 3) cells slots Q) : GX K E nL M loc (.int n :: .int dp :: gR E b :: .int sp :: gR E a :: st) pc cells slots Q := fun d H locs ls h1 h2 h3 h4 => by
  obtain ⟨q0, e1, e2⟩ := wl_at (E := E) (M := M) (KD_mem hka (by omega))
  obtain ⟨q1, e3, e4⟩ := wl_at (E := E) (M := M) (KD_mem hkb (by omega))
  rw [gE_I hka] at e2
  rw [gE_I hkb] at e4
  have hr := C.rr
  have hts := C.ts d
  have hf' : 1 ≤ (kR K).frames := by rw [hr]; exact hf
  have hl' : (st.map fun v => v.category).sum + (nativeFrameWords "java/lang/System" "arraycopy" 5 + 11) ≤ (kR K).locals := by rw [hr]; exact hl
  refine va_copyi (s := (ks K).setDrawn d) C.x C.b (C.ml.trans h4.1.symm) C.ow (hts _ hlink) (hts _ hnat) (hts _ hstat) (hts _ hini) (C.k d) h2.1 h2.2 h3 q0 q1 0 0 e2 e4 rfl rfl rfl g1 g2 g3 g4 g5 (fun i hi => rfl) hf' hl' hd (fun H1 locs1 b1 b2 b3 => ?_)
  have hrow : va_cpy (mI M a) (mI M b) sp.toNatClampNeg dp.toNatClampNeg n.toNatClampNeg = mI (uC M a b sp.toNatClampNeg dp.toNatClampNeg n.toNatClampNeg) b := funext fun j => by
    rw [mI_uC]
    simp [va_cpy]
  rw [hrow, ← gE_I (M := uC M a b sp.toNatClampNeg dp.toNatClampNeg n.toNatClampNeg) hkb, wl_set e3 (uC_oth _ _ _ _ _)] at b1 b2
  exact kk d H1 locs1 ls h1 ⟨b1, b2⟩ b3 h4
theorem g_max (C : GC K E cc own nL ret hh rm) {index : Nat} {x y : Int32} (hd : decode cc pc = .ok (.invokestatic index, 3)) (hlink : Cond.methodLink own index Lib.Math.max.name ∈ gW) (hstat : Cond.static Lib.Math.max.name ∈ gW) (hini : Cond.initialized "java/lang/Math" ∈ gW) (hcode : Cond.code Lib.Math.max.name Lib.Math.max.code 2 (some .int) ∈ gW) (hf : 1 ≤ rm.frames) (hl : (st.map fun v => v.category).sum + 13 ≤ rm.locals) (hc : cells ≤ rm.cells) (hs : slots ≤ rm.slots) (kk : GX K E nL M loc (.int (if x < y then y else x) :: st) (pc + 3) cells slots Q) : GX K E nL M loc (.int y :: .int x :: st) pc cells slots Q := fun d H locs ls h1 h2 h3 h4 => by
  have hr := C.rr
  have hts := C.ts d
  have hf' : 1 ≤ (kR K).frames := by rw [hr]; exact hf
  have hl' : (st.map fun v => v.category).sum + 13 ≤ (kR K).locals := by rw [hr]; exact hl
  have hc' : cells ≤ (kR K).cells := by rw [hr]; exact hc
  have hs' : slots ≤ (kR K).slots := by rw [hr]; exact hs
  exact va_mmax (s := (ks K).setDrawn d) C.x C.b (C.ml.trans h4.1.symm) C.ow (hts _ hlink) (hts _ hstat) (hts _ hini) (hts _ hcode) hf' hl' hc' hs' hd (kk d H locs ls h1 h2 h3 h4)
theorem g_min (C : GC K E cc own nL ret hh rm) {index : Nat} {x y : Int32} (hd : decode cc pc = .ok (.invokestatic index, 3)) (hlink : Cond.methodLink own index Lib.Math.min.name ∈ gW) (hstat : Cond.static Lib.Math.min.name ∈ gW) (hini : Cond.initialized "java/lang/Math" ∈ gW) (hcode : Cond.code Lib.Math.min.name Lib.Math.min.code 2 (some .int) ∈ gW) (hf : 1 ≤ rm.frames) (hl : (st.map fun v => v.category).sum + 13 ≤ rm.locals) (hc : cells ≤ rm.cells) (hs : slots ≤ rm.slots) (kk : GX K E nL M loc (.int (if y < x then y else x) :: st) (pc + 3) cells slots Q) : GX K E nL M loc (.int y :: .int x :: st) pc cells slots Q := fun d H locs ls h1 h2 h3 h4 => by
  have hr := C.rr
  have hts := C.ts d
  have hf' : 1 ≤ (kR K).frames := by rw [hr]; exact hf
  have hl' : (st.map fun v => v.category).sum + 13 ≤ (kR K).locals := by rw [hr]; exact hl
  have hc' : cells ≤ (kR K).cells := by rw [hr]; exact hc
  have hs' : slots ≤ (kR K).slots := by rw [hr]; exact hs
  exact va_mmin (s := (ks K).setDrawn d) C.x C.b (C.ml.trans h4.1.symm) C.ow (hts _ hlink) (hts _ hstat) (hts _ hini) (hts _ hcode) hf' hl' hc' hs' hd (kk d H locs ls h1 h2 h3 h4)
end GXE
/-- the contract out of the walk -/
theorem g_met {l : Launch} (hl : l.stackTraces = false) {E : MK} {y : MethodName} {cc : ByteArray} {maxL : Nat} {ret : Option FieldType} {hh : List (Nat × Nat × Nat × Nat)} {rm : Room} {av : List Value} {M : MEM} {QV : Option Value → MEM → Prop} {EX : String → MEM → Prop} {loc : List (Nat × Value)} (hy : plainFor y = true) (hw : (Cond.code y cc maxL ret ∈ gW ∧ hh = []) ∨ Cond.codeWith y cc maxL ret hh ∈ gW) (hlen : (lg_sl av).length ≤ maxL) (hloc : lv_args 0 av = loc)
    (body : ∀ K : KT, kl K = l → GC K E cc y.cls maxL ret hh rm → GX K E maxL M loc [] 0 0 0 (gEnd K E QV EX rm.cells rm.slots)) : gMet l E y rm av M QV EX := by
  refine gx_ofW hy hw (fun p e s m args below meth c s₁ B hml hv htab => ?_)
  obtain ⟨rfl, hR, hK, hZ, hlo⟩ := hv
  have C : GC (p, l, e, (headSpec gW rm).room, s, m, av.toArray, below, meth, c) E cc y.cls maxL ret hh rm := ⟨B.exec, B.bytes, atoms_spec (ws := gW) B.pre, findClass_of_methodNamed B.named, hml, B.returns, B.notSynchronized, hK, hl, htab, rfl, hZ.1, hZ.2, hlo⟩
  have k := body _ rfl C
  have hl9 := lv_entry av (n := maxL) hlen
  rw [lg_entry_eq]
  rw [hloc] at hl9
  exact k s.drawn s.heap [] _ (Drawn.sameBut.refl _ _) hR va_S.rf hl9
-- ANSWERS OF CALLEES THAT WRITE NOTHING
def qIp (M : MEM) (Q : Int32 → Prop) : Option Value → MEM → Prop := fun v M' => ∃ r : Int32, v = some (.int r) ∧ M' = M ∧ Q r
def qLp (M : MEM) (Q : Int64 → Prop) : Option Value → MEM → Prop := fun v M' => ∃ r : Int64, v = some (.long r) ∧ M' = M ∧ Q r
def qFp (M : MEM) (Q : UInt32 → Prop) : Option Value → MEM → Prop := fun v M' => ∃ r : UInt32, v = some (.float r) ∧ M' = M ∧ Q r
def qDp (M : MEM) (Q : UInt64 → Prop) : Option Value → MEM → Prop := fun v M' => ∃ r : UInt64, v = some (.double r) ∧ M' = M ∧ Q r
def qRp (E : MK) (M : MEM) (Q : Nat → Prop) : Option Value → MEM → Prop := fun v M' => ∃ r : Nat, v = some (gR E r) ∧ M' = M ∧ Q r
def qVp (M : MEM) (Q : Prop) : Option Value → MEM → Prop := fun v M' => v = none ∧ M' = M ∧ Q
def gNo : String → MEM → Prop := fun _ _ => False
def gXp (M : MEM) (X : String → Prop) : String → MEM → Prop := fun En M' => M' = M ∧ X En
def gB (x : Int32) : Prop := narrow .boolean (.int x) = .int x ∧ fits .boolean (.int x) = true
def gC (x : Int32) : Prop := narrow .char (.int x) = .int x
theorem gC.v {x : Int32} (h : gC x) : vp_nar .char x = x := by
  unfold vp_nar
  rw [show narrow .char (.int x) = .int x from h]
theorem gB0 : gB 0 := ⟨by decide, by decide⟩
theorem gB1 : gB 1 := ⟨by decide, by decide⟩
theorem vp_lit {i : Int32} {n : Nat} (h : (decide (i < 0) || decide (n ≤ i.toNatClampNeg)) = false) : vp_in i n := by
  simp only [Bool.or_eq_false_iff, decide_eq_false_iff_not] at h
  exact fun q => q.elim h.1 h.2
section GXK
variable {K : KT} {E : MK} {nL : Nat} {M : MEM} {loc : List (Nat × Value)} {st : List Value} {pc c2 s2 : Nat} {Z : State → Prop}
theorem kI {Q : Int32 → MEM → Prop} (k : ∀ r M', Q r M' → GX K E nL M' loc (.int r :: st) pc c2 s2 Z) : ∀ v M', qI Q v M' → GX K E nL M' loc (v.toList ++ st) pc c2 s2 Z := fun v M' h => by
  obtain ⟨r, rfl, h⟩ := h; exact k r M' h
theorem kL {Q : Int64 → MEM → Prop} (k : ∀ r M', Q r M' → GX K E nL M' loc (.long r :: st) pc c2 s2 Z) : ∀ v M', qL Q v M' → GX K E nL M' loc (v.toList ++ st) pc c2 s2 Z := fun v M' h => by
  obtain ⟨r, rfl, h⟩ := h; exact k r M' h
theorem kF {Q : UInt32 → MEM → Prop} (k : ∀ r M', Q r M' → GX K E nL M' loc (.float r :: st) pc c2 s2 Z) : ∀ v M', qF Q v M' → GX K E nL M' loc (v.toList ++ st) pc c2 s2 Z := fun v M' h => by
  obtain ⟨r, rfl, h⟩ := h; exact k r M' h
theorem kD {Q : UInt64 → MEM → Prop} (k : ∀ r M', Q r M' → GX K E nL M' loc (.double r :: st) pc c2 s2 Z) : ∀ v M', qD Q v M' → GX K E nL M' loc (v.toList ++ st) pc c2 s2 Z := fun v M' h => by
  obtain ⟨r, rfl, h⟩ := h; exact k r M' h
theorem kR' {Q : Nat → MEM → Prop} (k : ∀ r M', Q r M' → GX K E nL M' loc (gR E r :: st) pc c2 s2 Z) : ∀ v M', qR E Q v M' → GX K E nL M' loc (v.toList ++ st) pc c2 s2 Z := fun v M' h => by
  obtain ⟨r, rfl, h⟩ := h; exact k r M' h
theorem kV {Q : MEM → Prop} (k : ∀ M', Q M' → GX K E nL M' loc st pc c2 s2 Z) : ∀ v M', qV Q v M' → GX K E nL M' loc (v.toList ++ st) pc c2 s2 Z := fun v M' h => by
  obtain ⟨rfl, h⟩ := h; exact k M' h
theorem kIp {Q : Int32 → Prop} (k : ∀ r, Q r → GX K E nL M loc (.int r :: st) pc c2 s2 Z) : ∀ v M', qIp M Q v M' → GX K E nL M' loc (v.toList ++ st) pc c2 s2 Z := fun v M' h => by
  obtain ⟨r, rfl, rfl, h⟩ := h; exact k r h
theorem kLp {Q : Int64 → Prop} (k : ∀ r, Q r → GX K E nL M loc (.long r :: st) pc c2 s2 Z) : ∀ v M', qLp M Q v M' → GX K E nL M' loc (v.toList ++ st) pc c2 s2 Z := fun v M' h => by
  obtain ⟨r, rfl, rfl, h⟩ := h; exact k r h
theorem kFp {Q : UInt32 → Prop} (k : ∀ r, Q r → GX K E nL M loc (.float r :: st) pc c2 s2 Z) : ∀ v M', qFp M Q v M' → GX K E nL M' loc (v.toList ++ st) pc c2 s2 Z := fun v M' h => by
  obtain ⟨r, rfl, rfl, h⟩ := h; exact k r h
theorem kDp {Q : UInt64 → Prop} (k : ∀ r, Q r → GX K E nL M loc (.double r :: st) pc c2 s2 Z) : ∀ v M', qDp M Q v M' → GX K E nL M' loc (v.toList ++ st) pc c2 s2 Z := fun v M' h => by
  obtain ⟨r, rfl, rfl, h⟩ := h; exact k r h
theorem kRp {Q : Nat → Prop} (k : ∀ r, Q r → GX K E nL M loc (gR E r :: st) pc c2 s2 Z) : ∀ v M', qRp E M Q v M' → GX K E nL M' loc (v.toList ++ st) pc c2 s2 Z := fun v M' h => by
  obtain ⟨r, rfl, rfl, h⟩ := h; exact k r h
theorem kVp {Q : Prop} (k : Q → GX K E nL M loc st pc c2 s2 Z) : ∀ v M', qVp M Q v M' → GX K E nL M' loc (v.toList ++ st) pc c2 s2 Z := fun v M' h => by
  obtain ⟨rfl, rfl, h⟩ := h; exact k h
theorem tNo : ∀ En M', gNo En M' → GT K E nL M' loc st pc c2 s2 Z En := fun _ _ h => h.elim
/-- a value gets a name -/
theorem g_nmI {e : Int32} (k : ∀ x : Int32, x = e → GX K E nL M loc (.int x :: st) pc c2 s2 Z) : GX K E nL M loc (.int e :: st) pc c2 s2 Z := k e rfl
theorem g_nmL {e : Int64} (k : ∀ x : Int64, x = e → GX K E nL M loc (.long x :: st) pc c2 s2 Z) : GX K E nL M loc (.long e :: st) pc c2 s2 Z := k e rfl
theorem g_nmF {e : UInt32} (k : ∀ x : UInt32, x = e → GX K E nL M loc (.float x :: st) pc c2 s2 Z) : GX K E nL M loc (.float e :: st) pc c2 s2 Z := k e rfl
theorem g_nmD {e : UInt64} (k : ∀ x : UInt64, x = e → GX K E nL M loc (.double x :: st) pc c2 s2 Z) : GX K E nL M loc (.double e :: st) pc c2 s2 Z := k e rfl
theorem g_nmR {e : Nat} (k : ∀ x : Nat, x = e → GX K E nL M loc (gR E x :: st) pc c2 s2 Z) : GX K E nL M loc (gR E e :: st) pc c2 s2 Z := k e rfl
theorem g_nmM {e : MEM} (k : ∀ M' : MEM, M' = e → GX K E nL M' loc st pc c2 s2 Z) : GX K E nL e loc st pc c2 s2 Z := k e rfl
end GXK
section GXLC
variable {K : KT} {E : MK} {cc : ByteArray} {own : String} {nL : Nat} {ret : Option FieldType} {hh : List (Nat × Nat × Nat × Nat)} {rm : Room} {M : MEM} {loc loc' : List (Nat × Value)} {st : List Value} {pc cells slots : Nat} {Q : State → Prop}
theorem lg_cmp_cases (x y : Int64) : (x < y ∧ lg_cmp x y = -1) ∨ (x = y ∧ lg_cmp x y = 0) ∨ (y < x ∧ lg_cmp x y = 1) := by
  unfold lg_cmp
  rcases (show x.toInt < y.toInt ∨ x.toInt = y.toInt ∨ y.toInt < x.toInt by omega) with h | h | h
  · have h1 : x < y := Int64.lt_iff_toInt_lt.mpr h
    have h2 : ¬ y < x := fun h3 => absurd (Int64.lt_iff_toInt_lt.mp h3) (by omega)
    have h3 : ¬ x = y := fun h3 => by rw [h3] at h; omega
    exact Or.inl ⟨h1, by simp [h2, h3]⟩
  · have h1 : x = y := Int64.toInt_inj.mp h
    subst h1
    exact Or.inr (Or.inl ⟨rfl, by simp⟩)
  · have h1 : y < x := Int64.lt_iff_toInt_lt.mpr h
    have h2 : ¬ x < y := fun h3 => absurd (Int64.lt_iff_toInt_lt.mp h3) (by omega)
    have h3 : ¬ x = y := fun h3 => by rw [h3] at h; omega
    exact Or.inr (Or.inr ⟨h1, by simp [h1]⟩)
theorem l_lt_irr {x y : Int64} (h : x < y) : ¬ y < x ∧ ¬ x = y ∧ ¬ y ≤ x ∧ x ≤ y := by
  have h1 := Int64.lt_iff_toInt_lt.mp h
  exact ⟨fun q => by have := Int64.lt_iff_toInt_lt.mp q; omega, fun q => by rw [q] at h1; omega, fun q => by have := Int64.le_iff_toInt_le.mp q; omega, Int64.le_iff_toInt_le.mpr (by omega)⟩
theorem l_eq_irr {x y : Int64} (h : x = y) : ¬ x < y ∧ ¬ y < x ∧ y ≤ x ∧ x ≤ y := by
  subst h
  exact ⟨fun q => by have := Int64.lt_iff_toInt_lt.mp q; omega, fun q => by have := Int64.lt_iff_toInt_lt.mp q; omega, Int64.le_iff_toInt_le.mpr (Int.le_refl _), Int64.le_iff_toInt_le.mpr (Int.le_refl _)⟩
theorem g_lc_lt (C : GC K E cc own nL ret hh rm) {x y : Int64} {off : Int} {tgt : Nat} (h0 : decode cc pc = .ok (.lcmp, 1)) (hd : decode cc (pc + 1) = .ok (.ifCond .lt off, 3)) (ht : ((pc + 1 : Nat) : Int) + off = (tgt : Int)) (kt : x < y → GX K E nL M loc st tgt cells slots Q) (kf : ¬ x < y → GX K E nL M loc st (pc + 1 + 3) cells slots Q) : GX K E nL M loc (.long y :: .long x :: st) pc cells slots Q := by
  refine g_lcmp C h0 (g_if_lt C hd ht (fun c => kt ?_) (fun c => kf ?_))
  · rcases lg_cmp_cases x y with ⟨h, e⟩ | ⟨h, e⟩ | ⟨h, e⟩ <;> rw [e] at c
    · exact h
    · exact absurd c (by decide)
    · exact absurd c (by decide)
  · rcases lg_cmp_cases x y with ⟨h, e⟩ | ⟨h, e⟩ | ⟨h, e⟩ <;> rw [e] at c
    · exact absurd (by decide) c
    · exact (l_eq_irr h).1
    · exact (l_lt_irr h).1
theorem g_lc_ge (C : GC K E cc own nL ret hh rm) {x y : Int64} {off : Int} {tgt : Nat} (h0 : decode cc pc = .ok (.lcmp, 1)) (hd : decode cc (pc + 1) = .ok (.ifCond .ge off, 3)) (ht : ((pc + 1 : Nat) : Int) + off = (tgt : Int)) (kt : y ≤ x → GX K E nL M loc st tgt cells slots Q) (kf : ¬ y ≤ x → GX K E nL M loc st (pc + 1 + 3) cells slots Q) : GX K E nL M loc (.long y :: .long x :: st) pc cells slots Q := by
  refine g_lcmp C h0 (g_if_ge C hd ht (fun c => kt ?_) (fun c => kf ?_))
  · rcases lg_cmp_cases x y with ⟨h, e⟩ | ⟨h, e⟩ | ⟨h, e⟩ <;> rw [e] at c
    · exact absurd c (by decide)
    · exact (l_eq_irr h).2.2.1
    · exact (l_lt_irr h).2.2.2
  · rcases lg_cmp_cases x y with ⟨h, e⟩ | ⟨h, e⟩ | ⟨h, e⟩ <;> rw [e] at c
    · exact (l_lt_irr h).2.2.1
    · exact absurd (by decide) c
    · exact absurd (by decide) c
theorem g_lc_gt (C : GC K E cc own nL ret hh rm) {x y : Int64} {off : Int} {tgt : Nat} (h0 : decode cc pc = .ok (.lcmp, 1)) (hd : decode cc (pc + 1) = .ok (.ifCond .gt off, 3)) (ht : ((pc + 1 : Nat) : Int) + off = (tgt : Int)) (kt : y < x → GX K E nL M loc st tgt cells slots Q) (kf : ¬ y < x → GX K E nL M loc st (pc + 1 + 3) cells slots Q) : GX K E nL M loc (.long y :: .long x :: st) pc cells slots Q := by
  refine g_lcmp C h0 (g_if_gt C hd ht (fun c => kt ?_) (fun c => kf ?_))
  · rcases lg_cmp_cases x y with ⟨h, e⟩ | ⟨h, e⟩ | ⟨h, e⟩ <;> rw [e] at c
    · exact absurd c (by decide)
    · exact absurd c (by decide)
    · exact h
  · rcases lg_cmp_cases x y with ⟨h, e⟩ | ⟨h, e⟩ | ⟨h, e⟩ <;> rw [e] at c
    · exact (l_lt_irr h).1
    · exact (l_eq_irr h).2.1
    · exact absurd (by decide) c
theorem g_lc_le (C : GC K E cc own nL ret hh rm) {x y : Int64} {off : Int} {tgt : Nat} (h0 : decode cc pc = .ok (.lcmp, 1)) (hd : decode cc (pc + 1) = .ok (.ifCond .le off, 3)) (ht : ((pc + 1 : Nat) : Int) + off = (tgt : Int)) (kt : x ≤ y → GX K E nL M loc st tgt cells slots Q) (kf : ¬ x ≤ y → GX K E nL M loc st (pc + 1 + 3) cells slots Q) : GX K E nL M loc (.long y :: .long x :: st) pc cells slots Q := by
  refine g_lcmp C h0 (g_if_le C hd ht (fun c => kt ?_) (fun c => kf ?_))
  · rcases lg_cmp_cases x y with ⟨h, e⟩ | ⟨h, e⟩ | ⟨h, e⟩ <;> rw [e] at c
    · exact (l_lt_irr h).2.2.2
    · exact (l_eq_irr h).2.2.2
    · exact absurd c (by decide)
  · rcases lg_cmp_cases x y with ⟨h, e⟩ | ⟨h, e⟩ | ⟨h, e⟩ <;> rw [e] at c
    · exact absurd (by decide) c
    · exact absurd (by decide) c
    · exact (l_lt_irr h).2.2.1
theorem g_lc_eq (C : GC K E cc own nL ret hh rm) {x y : Int64} {off : Int} {tgt : Nat} (h0 : decode cc pc = .ok (.lcmp, 1)) (hd : decode cc (pc + 1) = .ok (.ifCond .eq off, 3)) (ht : ((pc + 1 : Nat) : Int) + off = (tgt : Int)) (kt : x = y → GX K E nL M loc st tgt cells slots Q) (kf : ¬ x = y → GX K E nL M loc st (pc + 1 + 3) cells slots Q) : GX K E nL M loc (.long y :: .long x :: st) pc cells slots Q := by
  refine g_lcmp C h0 (g_if_eq C hd ht (fun c => kt ?_) (fun c => kf ?_))
  · rcases lg_cmp_cases x y with ⟨h, e⟩ | ⟨h, e⟩ | ⟨h, e⟩ <;> rw [e] at c
    · exact absurd c (by decide)
    · exact h
    · exact absurd c (by decide)
  · rcases lg_cmp_cases x y with ⟨h, e⟩ | ⟨h, e⟩ | ⟨h, e⟩ <;> rw [e] at c
    · exact (l_lt_irr h).2.1
    · exact absurd (by decide) c
    · exact fun q => (l_lt_irr h).2.1 q.symm
theorem g_lc_ne (C : GC K E cc own nL ret hh rm) {x y : Int64} {off : Int} {tgt : Nat} (h0 : decode cc pc = .ok (.lcmp, 1)) (hd : decode cc (pc + 1) = .ok (.ifCond .ne off, 3)) (ht : ((pc + 1 : Nat) : Int) + off = (tgt : Int)) (kt : ¬ x = y → GX K E nL M loc st tgt cells slots Q) (kf : x = y → GX K E nL M loc st (pc + 1 + 3) cells slots Q) : GX K E nL M loc (.long y :: .long x :: st) pc cells slots Q := by
  refine g_lcmp C h0 (g_if_ne C hd ht (fun c => kt ?_) (fun c => kf ?_))
  · rcases lg_cmp_cases x y with ⟨h, e⟩ | ⟨h, e⟩ | ⟨h, e⟩ <;> rw [e] at c
    · exact (l_lt_irr h).2.1
    · exact absurd rfl c
    · exact fun q => (l_lt_irr h).2.1 q.symm
  · rcases lg_cmp_cases x y with ⟨h, e⟩ | ⟨h, e⟩ | ⟨h, e⟩ <;> rw [e] at c
    · exact absurd c (by decide)
    · exact h
    · exact absurd c (by decide)
end GXLC
