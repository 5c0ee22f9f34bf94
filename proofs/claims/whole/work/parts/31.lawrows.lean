-- THE LAW'S OWN ROWS: the script, the end
def gScr (K : KT) (E : MK) (b L : Nat) (xs : Nat → Int32) (s0 : State) : Prop := va_X b L xs (ks K) (ks K).heap ∧ b < (ks K).heap.size ∧ ¬ gA E b ∧ (ks K).heap.size ≤ E.2.2.2 ∧ ks K = s0 ∧ ka K = #[Value.ref b]
section GLAW
variable {K : KT} {E : MK} {cc : ByteArray} {own : String} {nL : Nat} {rt : Option FieldType} {hh : List (Nat × Nat × Nat × Nat)} {rm : Room} {M : MEM} {loc loc' : List (Nat × Value)} {st : List Value} {pc cells slots : Nat} {Q : State → Prop} {b L : Nat} {xs : Nat → Int32} {s0 : State}
theorem g_slen (C : GC K E cc own nL rt hh rm) (GS : gScr K E b L xs s0) (hd : decode cc pc = .ok (.arraylength, 1)) (kk : GX K E nL M loc (.int (nI L) :: st) (pc + 1) cells slots Q) : GX K E nL M loc (.ref b :: st) pc cells slots Q := fun d H locs ls h1 h2 h3 h4 =>
  va_slen (s := (ks K).setDrawn d) C.x C.b GS.1 GS.2.1 GS.2.2.1 h3 hd (kk d H locs ls h1 h2 h3 h4)
theorem g_sld (C : GC K E cc own nL rt hh rm) (GS : gScr K E b L xs s0) {i : Int32} (hi : vp_in i L) (hd : decode cc pc = .ok (.iaload, 1)) (kk : GX K E nL M loc (.int (xs i.toNatClampNeg) :: st) (pc + 1) cells slots Q) : GX K E nL M loc (.int i :: .ref b :: st) pc cells slots Q := fun d H locs ls h1 h2 h3 h4 =>
  va_sld (s := (ks K).setDrawn d) C.x C.b GS.1 GS.2.1 GS.2.2.1 h3 hi hd (kk d H locs ls h1 h2 h3 h4)
theorem g_lawret (C : GC K E cL_law RL 9 ret hh room_1) (GS : gScr K E b L xs s0) (hd : decode cL_law pc = .ok (.ireturn, 1)) (hc : cells ≤ room_1.cells) (hs : slots ≤ room_1.slots) : GX K E nL M loc [.int 1] pc cells slots (lw_Z (kb K) #[Value.ref b] s0) := fun d H locs ls h1 h2 h3 h4 => by
  obtain ⟨-, -, -, hlo, hk, ha⟩ := GS
  subst hk
  have hr := C.rr
  have k := lw_ret (p := kp K) (l := kl K) (e := ke K) (m := km K) (below := kb K) (meth := kh K) (c := kc K) (b := b) (H := H) (ls := ls) h1 C.x C.b C.r C.lk hd
  rw [← hr, ← ha] at k
  rw [← ha]
  exact va_forget (s := (ks K).setDrawn d) (fun q hq => Nat.le_trans hlo (h3.2.2 q hq)) (W.widen hc hs k)
end GLAW
