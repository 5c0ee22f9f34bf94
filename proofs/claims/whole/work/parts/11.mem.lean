-- READS AND WRITES OF THE WORLD, CALLS, ENDS
def gZ (E : MK) (U : State) (H : Heap) : Prop := vx_Zq Bundle.tN "UNASSIGNED_STACK" Bundle.steD (gA E) U H ∧ vx_Zq Bundle.tN "SUPPRESSED_SENTINEL" Bundle.listD (gA E) U H
theorem gZ.moved {E : MK} {u U : State} {H : Heap} (hvm : u.vm.Alike U.vm) (h : gZ E u H) : gZ E U H := ⟨vx_Zq.moved hvm h.1, vx_Zq.moved hvm h.2⟩
theorem gZ.S {E : MK} {U : State} {H0 H : Heap} {locs : List Loc} (h : gZ E U H0) (hS : va_S (gA E) H0 H locs) : gZ E U H := ⟨vx_Zq.kept h.1 (fun a ha hA => hS.2.1 a ha hA), vx_Zq.kept h.2 (fun a ha hA => hS.2.1 a ha hA)⟩
section GXM
variable {K : KT} {E : MK} {cc : ByteArray} {own : String} {nL : Nat} {ret : Option FieldType} {hh : List (Nat × Nat × Nat × Nat)} {rm : Room} {M : MEM} {loc loc' : List (Nat × Value)} {st : List Value} {pc cells slots : Nat} {Q : State → Prop}
theorem GC.z (C : GC K E cc own nL ret hh rm) : gZ E (ks K) (ks K).heap := ⟨C.zU, C.zN⟩
theorem g_get (C : GC K E cc own nL ret hh rm) {ci N : Nat} {Cn : String} {T : u_T} {a k index : Nat} {v : Value} (hcl : gCl[ci]? = some (Cn, T, N)) (hin : ∀ w ∈ u_ws Cn T N, w ∈ gW) (hk : k < N) (hlink : Cond.fieldLink own index (T k).1 (T k).2.1 (T k).2.2.1 ∈ gW) (hkd : KD a = (ci + 10, 0)) (hci : ci < 7) (hv : (gF E M a ci)[k]? = some v) (hd : decode cc pc = .ok (.getfield index, 3)) (kk : GX K E nL M loc (v :: st) (pc + 3) cells slots Q) : GX K E nL M loc (gR E a :: st) pc cells slots Q := fun d H locs ls h1 h2 h3 h4 => by
  obtain ⟨q0, e1, e2⟩ := wl_at (E := E) (M := M) (KD_mem hkd (by omega))
  rw [gE_obj hkd] at e2
  exact va_get C.x C.b (C.ts d) hin C.ow (C.k d) h2.1 q0 e2 hcl k hk (C.ts d _ hlink) (fun _ h9 => h9) hv hd (kk d H locs ls h1 h2 h3 h4)
theorem g_getN (C : GC K E cc own nL ret hh rm) {ci N : Nat} {Cn host : String} {T : u_T} {a k index : Nat} {v : Value} (hcl : gCl[ci]? = some (Cn, T, N)) (hin : ∀ w ∈ u_ws Cn T N, w ∈ gW) (hk : k < N) (hlink : (own, index, (T k).1, (T k).2.1, (T k).2.2.1, host) ∈ gNF) (hkd : KD a = (ci + 10, 0)) (hci : ci < 7) (hv : (gF E M a ci)[k]? = some v) (hd : decode cc pc = .ok (.getfield index, 3)) (kk : GX K E nL M loc (v :: st) (pc + 3) cells slots Q) : GX K E nL M loc (gR E a :: st) pc cells slots Q := fun d H locs ls h1 h2 h3 h4 => by
  obtain ⟨q0, e1, e2⟩ := wl_at (E := E) (M := M) (KD_mem hkd (by omega))
  rw [gE_obj hkd] at e2
  exact va_getN C.x C.b (C.ts d) hin C.ow (C.k d) h2.1 q0 e2 hcl k hk (va_Nw.use rfl (va_Nw.same (u := ks K) rfl rfl (C.kp0.2.1 _ hlink))) (fun _ h9 => h9) hv hd (kk d H locs ls h1 h2 h3 h4)
/-- a store into a field of an object; M' is the memory behind it -/
theorem g_put (C : GC K E cc own nL ret hh rm) {M' : MEM} {ci N : Nat} {Cn : String} {T : u_T} {a k index : Nat} {v : Value} {ty : FieldType} {ty0 : Nat → FieldType} (hcl : gCl[ci]? = some (Cn, T, N)) (hin : ∀ w ∈ u_ws Cn T N, w ∈ gW) (hty : ∀ k, k < N → parseFieldDescriptor (T k).2.2.1 = some (ty0 k)) (hnm : ∀ a, a < N → ∀ b, b < N → a ≠ b → (T a).2.1 ≠ (T b).2.1) (hk : k < N) (hlink : Cond.fieldLink own index (T k).1 (T k).2.1 (T k).2.2.1 ∈ gW) (hfin : (T k).2.2.2 = false) (hpd : parseFieldDescriptor (T k).2.2.1 = some ty) (hn : narrow ty v = v) (hfit : fits ty v = true) (hkd : KD a = (ci + 10, 0)) (hci : ci < 7) (hl : k < (gF E M a ci).length) (hset : (gF E M a ci).set k v = gF E M' a ci) (hoth : ∀ j, j ≠ a → gE E M' j = gE E M j) (hd : decode cc pc = .ok (.putfield index, 3)) (kk : GX K E nL M' loc st (pc + 3) cells slots Q) : GX K E nL M loc (v :: gR E a :: st) pc cells slots Q := fun d H locs ls h1 h2 h3 h4 => by
  obtain ⟨q0, e1, e2⟩ := wl_at (E := E) (M := M) (KD_mem hkd (by omega))
  rw [gE_obj hkd] at e2
  refine va_put C.x C.b (C.ts d) hin ty0 hty hnm C.ow (C.k d) h2.1 h2.2 h3 q0 e2 hcl k hk (C.ts d _ hlink) (fun _ h9 => h9) hfin hpd hn hfit hl hd (fun H1 locs1 b1 b2 b3 => ?_)
  rw [hset, ← gE_obj (M := M') hkd, wl_set e1 hoth] at b1 b2
  exact kk d H1 locs1 ls h1 ⟨b1, b2⟩ b3 h4
theorem uI_oth (a k : Nat) (v : Int32) : ∀ j, j ≠ a → gE E (uI M a k v) j = gE E M j := fun j hj => gE_ext (funext fun b => by rw [mI_uI, if_neg (fun h => hj h.1)]) rfl rfl rfl
theorem uL_oth (a k : Nat) (v : Int64) : ∀ j, j ≠ a → gE E (uL M a k v) j = gE E M j := fun j hj => gE_ext rfl rfl (funext fun b => by rw [mL_uL, if_neg (fun h => hj h.1)]) rfl
theorem uD_oth (a k : Nat) (v : UInt64) : ∀ j, j ≠ a → gE E (uD M a k v) j = gE E M j := fun j hj => gE_ext rfl rfl rfl (funext fun b => by rw [mD_uD, if_neg (fun h => hj h.1)])
theorem uO_oth (a v : Nat) : ∀ j, j ≠ a → gE E (uO M a v) j = gE E M j := fun j hj => gE_ext rfl (by rw [mO_uO, if_neg hj]) rfl rfl
theorem uC_oth (a b sp dp n : Nat) : ∀ j, j ≠ b → gE E (uC M a b sp dp n) j = gE E M j := fun j hj => gE_ext (funext fun x => by rw [mI_uC, if_neg (fun h => hj h.1)]) rfl rfl rfl
theorem uI_row (a k : Nat) (v : Int32) : mI (uI M a k v) a = upd (mI M a) k v := funext fun j => by
  rw [mI_uI]
  simp [upd]
theorem uL_row (a k : Nat) (v : Int64) : mL (uL M a k v) a = vp_updL (mL M a) k v := funext fun j => by
  rw [mL_uL]
  simp [vp_updL]
theorem g_iaload (C : GC K E cc own nL ret hh rm) {a n : Nat} {i : Int32} (hkd : KD a = (0, n)) (hi : vp_in i n) (hd : decode cc pc = .ok (.iaload, 1)) (kk : GX K E nL M loc (.int (mI M a i.toNatClampNeg) :: st) (pc + 1) cells slots Q) : GX K E nL M loc (.int i :: gR E a :: st) pc cells slots Q := fun d H locs ls h1 h2 h3 h4 => by
  obtain ⟨q0, e1, e2⟩ := wl_at (E := E) (M := M) (KD_mem hkd (by omega))
  rw [gE_I hkd] at e2
  exact va_iald C.x C.b (C.k d) h2.1 q0 0 e2 rfl hi hd (kk d H locs ls h1 h2 h3 h4)
theorem g_caload (C : GC K E cc own nL ret hh rm) {a n : Nat} {i : Int32} (hkd : KD a = (1, n)) (hi : vp_in i n) (hd : decode cc pc = .ok (.caload, 1)) (kk : GX K E nL M loc (.int (mI M a i.toNatClampNeg) :: st) (pc + 1) cells slots Q) : GX K E nL M loc (.int i :: gR E a :: st) pc cells slots Q := fun d H locs ls h1 h2 h3 h4 => by
  obtain ⟨q0, e1, e2⟩ := wl_at (E := E) (M := M) (KD_mem hkd (by omega))
  rw [gE_C hkd] at e2
  exact va_cald C.x C.b (C.k d) h2.1 q0 1 e2 rfl hi hd (kk d H locs ls h1 h2 h3 h4)
theorem g_laload (C : GC K E cc own nL ret hh rm) {a n : Nat} {i : Int32} (hkd : KD a = (2, n)) (hi : vp_in i n) (hd : decode cc pc = .ok (.laload, 1)) (kk : GX K E nL M loc (.long (mL M a i.toNatClampNeg) :: st) (pc + 1) cells slots Q) : GX K E nL M loc (.int i :: gR E a :: st) pc cells slots Q := fun d H locs ls h1 h2 h3 h4 => by
  obtain ⟨q0, e1, e2⟩ := wl_at (E := E) (M := M) (KD_mem hkd (by omega))
  rw [gE_L hkd] at e2
  exact va_lald C.x C.b (C.k d) h2.1 q0 2 e2 rfl hi hd (kk d H locs ls h1 h2 h3 h4)
theorem g_daload (C : GC K E cc own nL ret hh rm) {a n : Nat} {i : Int32} (hkd : KD a = (3, n)) (hi : vp_in i n) (hd : decode cc pc = .ok (.daload, 1)) (kk : GX K E nL M loc (.double (mD M a i.toNatClampNeg) :: st) (pc + 1) cells slots Q) : GX K E nL M loc (.int i :: gR E a :: st) pc cells slots Q := fun d H locs ls h1 h2 h3 h4 => by
  obtain ⟨q0, e1, e2⟩ := wl_at (E := E) (M := M) (KD_mem hkd (by omega))
  rw [gE_D hkd] at e2
  exact va_dald C.x C.b (C.k d) h2.1 q0 3 e2 rfl hi hd (kk d H locs ls h1 h2 h3 h4)
theorem g_aaload (C : GC K E cc own nL ret hh rm) {a n : Nat} {i : Int32} (hkd : KD a = (4, n)) (hi : vp_in i n) (hd : decode cc pc = .ok (.aaload, 1)) (kk : GX K E nL M loc (gR E (RF a i.toNatClampNeg) :: st) (pc + 1) cells slots Q) : GX K E nL M loc (.int i :: gR E a :: st) pc cells slots Q := fun d H locs ls h1 h2 h3 h4 => by
  obtain ⟨q0, e1, e2⟩ := wl_at (E := E) (M := M) (KD_mem hkd (by omega))
  rw [gE_R hkd] at e2
  exact va_aldq C.x C.b (C.k d) h2.1 q0 4 e2 rfl hi hd (kk d H locs ls h1 h2 h3 h4)
theorem g_alen (C : GC K E cc own nL ret hh rm) {a t n : Nat} {v : Int32} (hkd : KD a = (t, n)) (ht : t < 5) (hv : Int32.ofNat n = v) (hd : decode cc pc = .ok (.arraylength, 1)) (kk : GX K E nL M loc (.int v :: st) (pc + 1) cells slots Q) : GX K E nL M loc (gR E a :: st) pc cells slots Q := fun d H locs ls h1 h2 h3 h4 => by
  obtain ⟨q0, e1, e2⟩ := wl_at (E := E) (M := M) (KD_mem hkd (by omega))
  rcases (show t = 0 ∨ t = 1 ∨ t = 2 ∨ t = 3 ∨ t = 4 by omega) with rfl | rfl | rfl | rfl | rfl
  · rw [gE_I hkd] at e2
    exact va_alen C.x C.b (C.k d) h2.1 q0 0 e2 rfl hv hd (kk d H locs ls h1 h2 h3 h4)
  · rw [gE_C hkd] at e2
    exact va_alen C.x C.b (C.k d) h2.1 q0 1 e2 rfl hv hd (kk d H locs ls h1 h2 h3 h4)
  · rw [gE_L hkd] at e2
    exact va_alen C.x C.b (C.k d) h2.1 q0 2 e2 rfl hv hd (kk d H locs ls h1 h2 h3 h4)
  · rw [gE_D hkd] at e2
    exact va_alen C.x C.b (C.k d) h2.1 q0 3 e2 rfl hv hd (kk d H locs ls h1 h2 h3 h4)
  · rw [gE_R hkd] at e2
    exact va_alen C.x C.b (C.k d) h2.1 q0 4 e2 rfl hv hd (kk d H locs ls h1 h2 h3 h4)
theorem g_iastore (C : GC K E cc own nL ret hh rm) {a n : Nat} {i x : Int32} (hkd : KD a = (0, n)) (hi : vp_in i n) (hd : decode cc pc = .ok (.iastore, 1)) (kk : GX K E nL (uI M a i.toNatClampNeg x) loc st (pc + 1) cells slots Q) : GX K E nL M loc (.int x :: .int i :: gR E a :: st) pc cells slots Q := fun d H locs ls h1 h2 h3 h4 => by
  obtain ⟨q0, e1, e2⟩ := wl_at (E := E) (M := M) (KD_mem hkd (by omega))
  rw [gE_I hkd] at e2
  refine va_iast C.x C.b (C.k d) h2.1 h2.2 h3 q0 0 e2 rfl hi hd (fun H1 locs1 b1 b2 b3 => ?_)
  rw [← uI_row (M := M) a, ← gE_I (M := uI M a i.toNatClampNeg x) hkd, wl_set e1 (uI_oth _ _ _)] at b1 b2
  exact kk d H1 locs1 ls h1 ⟨b1, b2⟩ b3 h4
theorem g_castore (C : GC K E cc own nL ret hh rm) {a n : Nat} {i x : Int32} (hkd : KD a = (1, n)) (hi : vp_in i n) (hx : vp_nar .char x = x) (hd : decode cc pc = .ok (.castore, 1)) (kk : GX K E nL (uI M a i.toNatClampNeg x) loc st (pc + 1) cells slots Q) : GX K E nL M loc (.int x :: .int i :: gR E a :: st) pc cells slots Q := fun d H locs ls h1 h2 h3 h4 => by
  obtain ⟨q0, e1, e2⟩ := wl_at (E := E) (M := M) (KD_mem hkd (by omega))
  rw [gE_C hkd] at e2
  refine va_cast C.x C.b (C.k d) h2.1 h2.2 h3 q0 1 e2 rfl hi hd (fun H1 locs1 b1 b2 b3 => ?_)
  rw [hx, ← uI_row (M := M) a, ← gE_C (M := uI M a i.toNatClampNeg x) hkd, wl_set e1 (uI_oth _ _ _)] at b1 b2
  exact kk d H1 locs1 ls h1 ⟨b1, b2⟩ b3 h4
theorem g_lastore (C : GC K E cc own nL ret hh rm) {a n : Nat} {i : Int32} {x : Int64} (hkd : KD a = (2, n)) (hi : vp_in i n) (hd : decode cc pc = .ok (.lastore, 1)) (kk : GX K E nL (uL M a i.toNatClampNeg x) loc st (pc + 1) cells slots Q) : GX K E nL M loc (.long x :: .int i :: gR E a :: st) pc cells slots Q := fun d H locs ls h1 h2 h3 h4 => by
  obtain ⟨q0, e1, e2⟩ := wl_at (E := E) (M := M) (KD_mem hkd (by omega))
  rw [gE_L hkd] at e2
  refine va_last C.x C.b (C.k d) h2.1 h2.2 h3 q0 2 e2 rfl hi hd (fun H1 locs1 b1 b2 b3 => ?_)
  rw [← uL_row (M := M) a, ← gE_L (M := uL M a i.toNatClampNeg x) hkd, wl_set e1 (uL_oth _ _ _)] at b1 b2
  exact kk d H1 locs1 ls h1 ⟨b1, b2⟩ b3 h4
end GXM
