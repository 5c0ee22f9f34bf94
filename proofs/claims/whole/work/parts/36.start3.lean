-- THE START OF THE LAW: what the tables say, taken once; then the loop
theorem lw_q {a : Array Value} {s : State} (hts : ∀ w ∈ lw_tbl, w.before a s = true) {w : Cond} (i : Nat) (h : lw_tbl[i]? = some w) : w.before a s = true := hts w (List.mem_of_getElem? h)
theorem st_NF {a : Array Value} {s : State} (hts : ∀ w ∈ lw_tbl, w.before a s = true) : ∀ q ∈ gNF, va_Nw (.fieldLinkNest q.1 q.2.1 q.2.2.1 q.2.2.2.1 q.2.2.2.2.1 q.2.2.2.2.2) s := (List.forall_mem_cons.mpr ⟨va_Nw.of rfl (lw_q hts 107 (by decide +kernel)), (List.forall_mem_cons.mpr ⟨va_Nw.of rfl (lw_q hts 109 (by decide +kernel)), (List.forall_mem_cons.mpr ⟨va_Nw.of rfl (lw_q hts 111 (by decide +kernel)), (List.forall_mem_cons.mpr ⟨va_Nw.of rfl (lw_q hts 113 (by decide +kernel)), (List.forall_mem_cons.mpr ⟨va_Nw.of rfl (lw_q hts 115 (by decide +kernel)), (fun _ h => absurd h List.not_mem_nil)⟩)⟩)⟩)⟩)⟩)
theorem st_NM {a : Array Value} {s : State} (hts : ∀ w ∈ lw_tbl, w.before a s = true) : ∀ q ∈ gNM, va_Nw (.methodLinkNest q.1 q.2.1 q.2.2.1 q.2.2.2) s := (List.forall_mem_cons.mpr ⟨va_Nw.of rfl (lw_q hts 102 (by decide +kernel)), (List.forall_mem_cons.mpr ⟨va_Nw.of rfl (lw_q hts 144 (by decide +kernel)), (List.forall_mem_cons.mpr ⟨va_Nw.of rfl (lw_q hts 163 (by decide +kernel)), (List.forall_mem_cons.mpr ⟨va_Nw.of rfl (lw_q hts 168 (by decide +kernel)), (List.forall_mem_cons.mpr ⟨va_Nw.of rfl (lw_q hts 217 (by decide +kernel)), (List.forall_mem_cons.mpr ⟨va_Nw.of rfl (lw_q hts 548 (by decide +kernel)), (List.forall_mem_cons.mpr ⟨va_Nw.of rfl (lw_q hts 845 (by decide +kernel)), (List.forall_mem_cons.mpr ⟨va_Nw.of rfl (lw_q hts 847 (by decide +kernel)), (List.forall_mem_cons.mpr ⟨va_Nw.of rfl (lw_q hts 977 (by decide +kernel)), (List.forall_mem_cons.mpr ⟨va_Nw.of rfl (lw_q hts 997 (by decide +kernel)), (List.forall_mem_cons.mpr ⟨va_Nw.of rfl (lw_q hts 1010 (by decide +kernel)), (fun _ h => absurd h List.not_mem_nil)⟩)⟩)⟩)⟩)⟩)⟩)⟩)⟩)⟩)⟩)⟩)
theorem st_R {a : Array Value} {s : State} {own tx : String} {k : Nat} (h1 : (Cond.stringRef own k tx).before a s = true) (h2 : (Cond.exactly (.string own k) "java/lang/String").before a s = true) : ∃ r, vk_R own k tx r s := by
  obtain ⟨r, _, _, _, h3, _⟩ := Cond.exactly_spec h2
  exact ⟨r, vk_R.of h1 h3⟩
theorem st_ST {a : Array Value} {s : State} (hts : ∀ w ∈ lw_tbl, w.before a s = true) (hs : ∀ w ∈ flatC (Jvm.Cond.and given_1 narrow_1), w.before a s = true) : ∀ q ∈ gST, ∃ r, vk_R q.1 q.2.1 q.2.2 r s := (List.forall_mem_cons.mpr ⟨st_R (lw_q hts 398 (by decide +kernel)) (hs (.exactly (.string "SampleBench" 360) "java/lang/String") (by decide +kernel)), (List.forall_mem_cons.mpr ⟨st_R (lw_q hts 423 (by decide +kernel)) (hs (.exactly (.string "SampleBench" 370) "java/lang/String") (by decide +kernel)), (List.forall_mem_cons.mpr ⟨st_R (lw_q hts 487 (by decide +kernel)) (hs (.exactly (.string "SampleBench" 373) "java/lang/String") (by decide +kernel)), (List.forall_mem_cons.mpr ⟨st_R (lw_q hts 501 (by decide +kernel)) (hs (.exactly (.string "SampleBench" 192) "java/lang/String") (by decide +kernel)), (List.forall_mem_cons.mpr ⟨st_R (lw_q hts 615 (by decide +kernel)) (hs (.exactly (.string "SampleBench" 364) "java/lang/String") (by decide +kernel)), (List.forall_mem_cons.mpr ⟨st_R (lw_q hts 648 (by decide +kernel)) (hs (.exactly (.string "SampleBench" 167) "java/lang/String") (by decide +kernel)), (List.forall_mem_cons.mpr ⟨st_R (lw_q hts 682 (by decide +kernel)) (hs (.exactly (.string "SampleBench" 181) "java/lang/String") (by decide +kernel)), (List.forall_mem_cons.mpr ⟨st_R (lw_q hts 723 (by decide +kernel)) (hs (.exactly (.string "SampleBench" 366) "java/lang/String") (by decide +kernel)), (List.forall_mem_cons.mpr ⟨st_R (lw_q hts 736 (by decide +kernel)) (hs (.exactly (.string "SampleBench" 218) "java/lang/String") (by decide +kernel)), (List.forall_mem_cons.mpr ⟨st_R (lw_q hts 778 (by decide +kernel)) (hs (.exactly (.string "SampleBench" 375) "java/lang/String") (by decide +kernel)), (List.forall_mem_cons.mpr ⟨st_R (lw_q hts 809 (by decide +kernel)) (hs (.exactly (.string "SampleBench" 242) "java/lang/String") (by decide +kernel)), (List.forall_mem_cons.mpr ⟨st_R (lw_q hts 817 (by decide +kernel)) (hs (.exactly (.string "SampleBench" 245) "java/lang/String") (by decide +kernel)), (List.forall_mem_cons.mpr ⟨st_R (lw_q hts 943 (by decide +kernel)) (hs (.exactly (.string "SampleBench" 289) "java/lang/String") (by decide +kernel)), (List.forall_mem_cons.mpr ⟨st_R (lw_q hts 1016 (by decide +kernel)) (hs (.exactly (.string "SampleBench" 312) "java/lang/String") (by decide +kernel)), (List.forall_mem_cons.mpr ⟨st_R (lw_q hts 1053 (by decide +kernel)) (hs (.exactly (.string "SampleBench" 324) "java/lang/String") (by decide +kernel)), (List.forall_mem_cons.mpr ⟨st_R (lw_q hts 1066 (by decide +kernel)) (hs (.exactly (.string "SampleBench" 331) "java/lang/String") (by decide +kernel)), (List.forall_mem_cons.mpr ⟨st_R (lw_q hts 1091 (by decide +kernel)) (hs (.exactly (.string "SampleBench" 355) "java/lang/String") (by decide +kernel)), (fun _ h => absurd h List.not_mem_nil)⟩)⟩)⟩)⟩)⟩)⟩)⟩)⟩)⟩)⟩)⟩)⟩)⟩)⟩)⟩)⟩)⟩)
theorem st_NC {a : Array Value} {s : State} (hs : ∀ w ∈ flatC (Jvm.Cond.and given_1 narrow_1), w.before a s = true) : ∀ q ∈ gNC, va_Nc q.1 q.2 s := (List.forall_mem_cons.mpr ⟨va_Nc.of (hs (.not (.castable "java/lang/IllegalArgumentException" "java/lang/IndexOutOfBoundsException")) (by decide +kernel)), (List.forall_mem_cons.mpr ⟨va_Nc.of (hs (.not (.castable "java/lang/IllegalStateException" "java/lang/IndexOutOfBoundsException")) (by decide +kernel)), (List.forall_mem_cons.mpr ⟨va_Nc.of (hs (.not (.castable "java/lang/ArithmeticException" "java/lang/IndexOutOfBoundsException")) (by decide +kernel)), (List.forall_mem_cons.mpr ⟨va_Nc.of (hs (.not (.castable "java/lang/UnsupportedOperationException" "java/lang/IndexOutOfBoundsException")) (by decide +kernel)), (List.forall_mem_cons.mpr ⟨va_Nc.of (hs (.not (.castable "java/util/NoSuchElementException" "java/lang/IndexOutOfBoundsException")) (by decide +kernel)), (List.forall_mem_cons.mpr ⟨va_Nc.of (hs (.not (.castable "java/lang/IndexOutOfBoundsException" "java/lang/IllegalArgumentException")) (by decide +kernel)), (List.forall_mem_cons.mpr ⟨va_Nc.of (hs (.not (.castable "java/lang/IllegalStateException" "java/lang/IllegalArgumentException")) (by decide +kernel)), (List.forall_mem_cons.mpr ⟨va_Nc.of (hs (.not (.castable "java/lang/ArithmeticException" "java/lang/IllegalArgumentException")) (by decide +kernel)), (List.forall_mem_cons.mpr ⟨va_Nc.of (hs (.not (.castable "java/lang/UnsupportedOperationException" "java/lang/IllegalArgumentException")) (by decide +kernel)), (List.forall_mem_cons.mpr ⟨va_Nc.of (hs (.not (.castable "java/util/NoSuchElementException" "java/lang/IllegalArgumentException")) (by decide +kernel)), (List.forall_mem_cons.mpr ⟨va_Nc.of (hs (.not (.castable "java/lang/IndexOutOfBoundsException" "java/lang/IllegalStateException")) (by decide +kernel)), (List.forall_mem_cons.mpr ⟨va_Nc.of (hs (.not (.castable "java/lang/IllegalArgumentException" "java/lang/IllegalStateException")) (by decide +kernel)), (List.forall_mem_cons.mpr ⟨va_Nc.of (hs (.not (.castable "java/lang/ArithmeticException" "java/lang/IllegalStateException")) (by decide +kernel)), (List.forall_mem_cons.mpr ⟨va_Nc.of (hs (.not (.castable "java/lang/UnsupportedOperationException" "java/lang/IllegalStateException")) (by decide +kernel)), (List.forall_mem_cons.mpr ⟨va_Nc.of (hs (.not (.castable "java/util/NoSuchElementException" "java/lang/IllegalStateException")) (by decide +kernel)), (List.forall_mem_cons.mpr ⟨va_Nc.of (hs (.not (.castable "java/lang/IndexOutOfBoundsException" "java/lang/ArithmeticException")) (by decide +kernel)), (List.forall_mem_cons.mpr ⟨va_Nc.of (hs (.not (.castable "java/lang/IllegalArgumentException" "java/lang/ArithmeticException")) (by decide +kernel)), (List.forall_mem_cons.mpr ⟨va_Nc.of (hs (.not (.castable "java/lang/IllegalStateException" "java/lang/ArithmeticException")) (by decide +kernel)), (List.forall_mem_cons.mpr ⟨va_Nc.of (hs (.not (.castable "java/lang/UnsupportedOperationException" "java/lang/ArithmeticException")) (by decide +kernel)), (List.forall_mem_cons.mpr ⟨va_Nc.of (hs (.not (.castable "java/util/NoSuchElementException" "java/lang/ArithmeticException")) (by decide +kernel)), (List.forall_mem_cons.mpr ⟨va_Nc.of (hs (.not (.castable "java/lang/IndexOutOfBoundsException" "java/lang/UnsupportedOperationException")) (by decide +kernel)), (List.forall_mem_cons.mpr ⟨va_Nc.of (hs (.not (.castable "java/lang/IllegalArgumentException" "java/lang/UnsupportedOperationException")) (by decide +kernel)), (List.forall_mem_cons.mpr ⟨va_Nc.of (hs (.not (.castable "java/lang/IllegalStateException" "java/lang/UnsupportedOperationException")) (by decide +kernel)), (List.forall_mem_cons.mpr ⟨va_Nc.of (hs (.not (.castable "java/lang/ArithmeticException" "java/lang/UnsupportedOperationException")) (by decide +kernel)), (List.forall_mem_cons.mpr ⟨va_Nc.of (hs (.not (.castable "java/util/NoSuchElementException" "java/lang/UnsupportedOperationException")) (by decide +kernel)), (List.forall_mem_cons.mpr ⟨va_Nc.of (hs (.not (.castable "java/lang/IndexOutOfBoundsException" "java/util/NoSuchElementException")) (by decide +kernel)), (List.forall_mem_cons.mpr ⟨va_Nc.of (hs (.not (.castable "java/lang/IllegalArgumentException" "java/util/NoSuchElementException")) (by decide +kernel)), (List.forall_mem_cons.mpr ⟨va_Nc.of (hs (.not (.castable "java/lang/IllegalStateException" "java/util/NoSuchElementException")) (by decide +kernel)), (List.forall_mem_cons.mpr ⟨va_Nc.of (hs (.not (.castable "java/lang/ArithmeticException" "java/util/NoSuchElementException")) (by decide +kernel)), (List.forall_mem_cons.mpr ⟨va_Nc.of (hs (.not (.castable "java/lang/UnsupportedOperationException" "java/util/NoSuchElementException")) (by decide +kernel)), (fun _ h => absurd h List.not_mem_nil)⟩)⟩)⟩)⟩)⟩)⟩)⟩)⟩)⟩)⟩)⟩)⟩)⟩)⟩)⟩)⟩)⟩)⟩)⟩)⟩)⟩)⟩)⟩)⟩)⟩)⟩)⟩)⟩)⟩)⟩)
theorem st_CA {a : Array Value} {s : State} (hts : ∀ w ∈ lw_tbl, w.before a s = true) : ∀ q ∈ gCA, va_Nw (.castable q q) s := (List.forall_mem_cons.mpr ⟨va_Nw.of rfl (lw_q hts 391 (by decide +kernel)), (List.forall_mem_cons.mpr ⟨va_Nw.of rfl (lw_q hts 416 (by decide +kernel)), (List.forall_mem_cons.mpr ⟨va_Nw.of rfl (lw_q hts 480 (by decide +kernel)), (List.forall_mem_cons.mpr ⟨va_Nw.of rfl (lw_q hts 636 (by decide +kernel)), (List.forall_mem_cons.mpr ⟨va_Nw.of rfl (lw_q hts 675 (by decide +kernel)), (List.forall_mem_cons.mpr ⟨va_Nw.of rfl (lw_q hts 771 (by decide +kernel)), (fun _ h => absurd h List.not_mem_nil)⟩)⟩)⟩)⟩)⟩)⟩)
theorem st_DC {a : Array Value} {s : State} (hts : ∀ w ∈ lw_tbl, w.before a s = true) : ∀ q ∈ gDC, va_Nw (.declares q) s := (List.forall_mem_cons.mpr ⟨va_Nw.of rfl (lw_q hts 356 (by decide +kernel)), (List.forall_mem_cons.mpr ⟨va_Nw.of rfl (lw_q hts 357 (by decide +kernel)), (List.forall_mem_cons.mpr ⟨va_Nw.of rfl (lw_q hts 358 (by decide +kernel)), (List.forall_mem_cons.mpr ⟨va_Nw.of rfl (lw_q hts 359 (by decide +kernel)), (List.forall_mem_cons.mpr ⟨va_Nw.of rfl (lw_q hts 360 (by decide +kernel)), (List.forall_mem_cons.mpr ⟨va_Nw.of rfl (lw_q hts 361 (by decide +kernel)), (List.forall_mem_cons.mpr ⟨va_Nw.of rfl (lw_q hts 362 (by decide +kernel)), (List.forall_mem_cons.mpr ⟨va_Nw.of rfl (lw_q hts 363 (by decide +kernel)), (fun _ h => absurd h List.not_mem_nil)⟩)⟩)⟩)⟩)⟩)⟩)⟩)⟩)
theorem st_nest {a : Array Value} {s : State} (hts : ∀ w ∈ lw_tbl, w.before a s = true) (hs : ∀ w ∈ flatC (Jvm.Cond.and given_1 narrow_1), w.before a s = true) : gNest s := ⟨st_NF hts, st_NM hts, st_ST hts hs, st_NC hs, st_CA hts, st_DC hts⟩
theorem st_gW {a : Array Value} {s : State} (hts : ∀ w ∈ lw_tbl, w.before a s = true) : ∀ w ∈ gW, w.before a s = true := fun w hw => hts w (List.mem_filter.mp hw).1
theorem st_A {a : Array Value} {s : State} {ty : FieldType} (h : (Cond.arrayClass ty).before a s = true) (hsm : ∀ C, ty ≠ .object C) : ∃ cA : ClassId, ArrOfT s cA ty ∧ va_RA s cA ty := by
  obtain ⟨cA, kA, comp, h1, h2, h3⟩ := Cond.arrayClass_spec h
  refine ⟨cA, fun n z => ⟨(fun k h => by cases h), kA, h2, comp, h3⟩, ?_⟩
  cases ty with
  | object C => exact absurd rfl (hsm C)
  | _ => exact h1
theorem st_O {a : Array Value} {s : State} {C : String} (h : (Cond.arrayOver (.object C)).before a s = true) : ∃ cA : ClassId, ArrOfT s cA (.object C) ∧ va_RA s cA (.object C) := by
  obtain ⟨comp, c, k, h1, h2, h3, h4, h5⟩ := Cond.arrayOver_spec h
  exact ⟨c, fun n z => ⟨(fun k h => by cases h), k, h3, comp, h4⟩, k, comp, h3, h4, h1, h5⟩
theorem st_K {a : Array Value} {s : State} (hts : ∀ w ∈ lw_tbl, w.before a s = true) : ∃ (D : va_G) (ac : Nat → ClassId), ∀ ad lo, va_K D gCl (gTys (D, ac, ad, lo)) s := by
  obtain ⟨c0, i0, k0⟩ := u_known (n := 5) (st_gW hts) inX0 (lw_q hts 138 (by decide +kernel))
  obtain ⟨c1, i1, k1⟩ := u_known (n := 2) (st_gW hts) inX1 (lw_q hts 199 (by decide +kernel))
  obtain ⟨c2, i2, k2⟩ := u_known (n := 3) (st_gW hts) inX2 (lw_q hts 216 (by decide +kernel))
  obtain ⟨c3, i3, k3⟩ := u_known (n := 9) (st_gW hts) inX3 (lw_q hts 162 (by decide +kernel))
  obtain ⟨c4, i4, k4⟩ := u_known (n := 8) (st_gW hts) inX4 (lw_q hts 101 (by decide +kernel))
  obtain ⟨c5, i5, k5⟩ := u_known (n := 14) (st_gW hts) inX5 (lw_q hts 92 (by decide +kernel))
  obtain ⟨c6, i6, k6⟩ := u_known (n := 29) (st_gW hts) inX6 (lw_q hts 1097 (by decide +kernel))
  obtain ⟨d0, a0⟩ := st_A (ty := .int) (lw_q hts 136 (by decide +kernel)) (fun C h => by cases h)
  obtain ⟨d1, a1⟩ := st_A (ty := .char) (lw_q hts 214 (by decide +kernel)) (fun C h => by cases h)
  obtain ⟨d2, a2⟩ := st_A (ty := .long) (lw_q hts 197 (by decide +kernel)) (fun C h => by cases h)
  obtain ⟨d3, a3⟩ := st_A (ty := .double) (lw_q hts 1536 (by decide +kernel)) (fun C h => by cases h)
  obtain ⟨d4, a4⟩ := st_O (C := RX4) (lw_q hts 100 (by decide +kernel))
  refine ⟨((fun c => match c with | 0 => c0 | 1 => c1 | 2 => c2 | 3 => c3 | 4 => c4 | 5 => c5 | _ => c6), (fun c => match c with | 0 => i0 | 1 => i1 | 2 => i2 | 3 => i3 | 4 => i4 | 5 => i5 | _ => i6)), (fun k => match k with | 0 => d0 | 1 => d1 | 2 => d2 | 3 => d3 | _ => d4), fun ad lo => ⟨fun c q hq => ?_, fun k q hq => ?_⟩⟩
  · rcases (show c = 0 ∨ c = 1 ∨ c = 2 ∨ c = 3 ∨ c = 4 ∨ c = 5 ∨ c = 6 by have h9 : c < 7 := (List.getElem?_eq_some_iff.mp hq).1; omega) with rfl | rfl | rfl | rfl | rfl | rfl | rfl <;> cases hq <;> assumption
  · rcases (show k = 0 ∨ k = 1 ∨ k = 2 ∨ k = 3 ∨ k = 4 by have h9 : k < 5 := (List.getElem?_eq_some_iff.mp hq).1; omega) with rfl | rfl | rfl | rfl | rfl <;> cases hq <;> assumption
/-- all references laid: the world at the start is the world of M0 -/
def rfs : Nat → List Nat
  | 10 => [0, 1, 2] | 11 => [0] | 12 => [0] | 13 => [0, 3, 4, 5, 6, 7, 8] | 14 => [6, 7] | 15 => [0, 1, 5, 6, 7, 8, 9, 10, 11, 12, 13] | 16 => [1, 2, 3, 4, 7, 8, 9, 14, 15, 16, 18, 19, 20, 25, 26] | _ => []
theorem A6_all : ∀ i ∈ DOM, ∀ k ∈ (if (KD i).1 = 4 then List.range (KD i).2 else rfs (KD i).1), (i, k) ∈ A6 := by decide +kernel
theorem DOM_ORD : ∀ i ∈ DOM, ORD[POS i]? = some i := by decide +kernel
theorem DOM_KD : ∀ i ∈ DOM, (KD i).1 < 5 ∨ ((KD i).2 = 0 ∧ 10 ≤ (KD i).1 ∧ (KD i).1 < 17) := by decide +kernel
theorem ORD_len : ORD.length = 110 := by decide +kernel
theorem gF0_all {E : MK} {A : AS} {i c : Nat} (hc : c < 7) (hA : ∀ k ∈ rfs (c + 10), (i, k) ∈ A) : gF0 E A i c = gF E M0 i c := by
  have hB : ∀ k ∈ rfs (c + 10), rv0 E A i k = gR E (RF i k) := fun k hk => if_pos (hA k hk)
  have hC : 0 ∈ rfs (c + 10) → rvo E A i = gR E (mO M0 i) := fun h => if_pos (hA 0 h)
  rcases (show c = 0 ∨ c = 1 ∨ c = 2 ∨ c = 3 ∨ c = 4 ∨ c = 5 ∨ c = 6 by omega) with rfl | rfl | rfl | rfl | rfl | rfl | rfl <;> simp [rfs] at hB hC <;> simp [gF0, gF, hB, hC, mI, M0]
theorem to_at {E : MK} {H : Heap} {i : Nat} (hi : i ∈ DOM) (h : va_at E.1 gCl (E.2.2.1 i, gE0 E A6 i) H) : va_at E.1 gCl (E.2.2.1 i, gE E M0 i) H := by
  have hA := A6_all i hi
  have hK := DOM_KD i hi
  revert hA hK
  generalize hkd : KD i = kd
  obtain ⟨k, n⟩ := kd
  intro hA hK
  simp only at hA hK
  rcases hK with hk | ⟨hn, h10, h17⟩
  · rcases (show k = 0 ∨ k = 1 ∨ k = 2 ∨ k = 3 ∨ k = 4 by omega) with rfl | rfl | rfl | rfl | rfl
    · rw [gE0_I hkd] at h; rw [gE_I hkd]; exact h
    · rw [gE0_C hkd] at h; rw [gE_C hkd]; exact h
    · rw [gE0_L hkd] at h; rw [gE_L hkd]; exact h
    · rw [gE0_D hkd] at h; rw [gE_D hkd]; exact h
    · rw [gE0_R hkd] at h; rw [gE_R hkd]
      have h9 : H[E.2.2.1 i]? = some (vp_cell (E.2.1 4) (n, .inr (.inr (.inr (.inr (fun j => if (i, j) ∈ A6 then some (E.2.2.1 (RF i j)) else none)))))) := h
      show H[E.2.2.1 i]? = some (vp_cell (E.2.1 4) (n, .inr (.inr (.inr (.inr (fun j => some (E.2.2.1 (RF i j))))))))
      rw [h9, vp_cell_q, vp_cell_q]
      refine congrArg some ?_
      unfold arrV
      have h8 : (Array.ofFn (n := n) fun j => va_rf (if (i, j.val) ∈ A6 then some (E.2.2.1 (RF i j.val)) else none)) = Array.ofFn (n := n) fun j => va_rf (some (E.2.2.1 (RF i j.val))) := congrArg (Array.ofFn (n := n)) (funext fun j => by rw [if_pos (hA j.val (by rw [if_pos rfl]; exact List.mem_range.mpr j.isLt))])
      rw [h8]
  · subst hn
    obtain ⟨c, rfl⟩ : ∃ c, k = c + 10 := ⟨k - 10, by omega⟩
    rw [gE0_obj hkd] at h
    rw [gE_obj hkd]
    have hF : gF0 E A6 i c = gF E M0 i c := gF0_all (by omega) (fun k hk => hA k (by rw [if_neg (by omega)]; exact hk))
    rw [← hF]
    exact h
theorem POS_inj {i j : Nat} (hi : i ∈ DOM) (hj : j ∈ DOM) (h : POS i = POS j) : i = j := by
  have h1 := DOM_ORD i hi
  have h2 := DOM_ORD j hj
  rw [h, h2] at h1
  exact (Option.some.inj h1).symm
theorem to_REL {E : MK} {H : Heap} (h : REL0 E A6 110 H) : REL E M0 H := by
  obtain ⟨hP, hD, -, hpos⟩ := h
  have hw : ∀ (k : Nat) (q : Nat × va_E), (wl E M0)[k]? = some q → ∃ i, i ∈ DOM ∧ DOM[k]? = some i ∧ q = (E.2.2.1 i, gE E M0 i) := fun k q hk => by
    simp only [wl, List.getElem?_map] at hk
    cases hj : DOM[k]? with
    | none => simp [hj] at hk
    | some i => simp [hj] at hk; exact ⟨i, List.mem_of_getElem? hj, rfl, hk.symm⟩
  refine ⟨fun k q hk => ?_, fun i j p q hi hj he => ?_, fun k q hk => ?_⟩
  · obtain ⟨i, hi, -, rfl⟩ := hw k q hk
    have hl : POS i < 110 := by rw [← ORD_len]; exact (List.getElem?_eq_some_iff.mp (DOM_ORD i hi)).1
    exact to_at hi (hP _ _ (wl0_at (DOM_ORD i hi) hl))
  · obtain ⟨a, ha, ha2, rfl⟩ := hw i p hi
    obtain ⟨b, hb, hb2, rfl⟩ := hw j q hj
    have he : E.2.2.1 a = E.2.2.1 b := he
    rw [hpos, hpos] at he
    have hab := POS_inj ha hb (by omega)
    subst hab
    exact (List.getElem?_inj (l := DOM) (List.getElem?_eq_some_iff.mp ha2).1 DOM_nd).mp (ha2.trans hb2.symm)
  · obtain ⟨a, ha, -, rfl⟩ := hw k q hk
    show E.2.2.2 ≤ E.2.2.1 a
    rw [hpos]; omega

set_option maxRecDepth 100000 in
set_option maxHeartbeats 8000000 in
theorem st_walk {K : KT} {E : MK} {b : Nat} {Q : State → Prop} (C : GC0 K E cL_law RL 9 ret room_1) (kk : GX0 K E 9 A6 110 [(5, .int 0), (4, gR E 61), (3, gR E 60), (2, gR E 40), (1, gR E 1), (0, .ref b)] [] 28 110 29057 Q) : GX0 K E 9 [] 0 [(0, .ref b)] [] 0 0 0 Q := by
  refine h_new C (ci := 5) (T := TX5) (N := 14) (ty := tyX5) (i := 1) rfl inX5 tyX5_ok (gW_in 91 (by decide +kernel) (by decide +kernel)) (gW_in 92 (by decide +kernel) (by decide +kernel)) (gW_in 71 (by decide +kernel) (by decide +kernel)) rfl rfl (df5 (by intro k; simp)) dL_law_0 (Nat.le_of_ble_eq_true rfl) (Nat.le_of_ble_eq_true rfl) ?_
  refine h_dup C dL_law_3 rfl ?_
  refine h_call C dL_law_4 hm_X5 (show Cond.code yX5_init prog_1_method_1_code 2 none ∈ gW from (gW_in 95 (by decide +kernel) (by decide +kernel))) (gW_in 71 (by decide +kernel) (by decide +kernel)) (gW_in 94 (by decide +kernel) (by decide +kernel)) rfl ⟨by decide, by decide, by decide⟩ (Or.inl (gW_in 93 (by decide +kernel) (by decide +kernel))) rfl (Nat.le_of_ble_eq_true rfl) ⟨(Nat.le_of_ble_eq_true rfl), (Nat.le_of_ble_eq_true rfl)⟩ (c2 := 92) (s2 := 11518) rfl rfl (Nat.le_of_ble_eq_true rfl) (Nat.le_of_ble_eq_true rfl) rfl ?_
  refine h_astore_n C dL_law_7 rfl (Nat.le_of_ble_eq_true rfl) (loc' := [(1, gR E 1), (0, .ref b)]) rfl ?_
  refine h_new C (ci := 6) (T := TX6) (N := 29) (ty := tyX6) (i := 40) rfl inX6 tyX6_ok (gW_in 1096 (by decide +kernel) (by decide +kernel)) (gW_in 1097 (by decide +kernel) (by decide +kernel)) (gW_in 78 (by decide +kernel) (by decide +kernel)) rfl rfl (df6 (by intro k; simp)) dL_law_8 (Nat.le_of_ble_eq_true rfl) (Nat.le_of_ble_eq_true rfl) ?_
  refine h_dup C dL_law_11 rfl ?_
  refine h_call C dL_law_12 hm_X6 (show Cond.code yX6_init prog_8_method_1_code 1 none ∈ gW from (gW_in 1100 (by decide +kernel) (by decide +kernel))) (gW_in 78 (by decide +kernel) (by decide +kernel)) (gW_in 1099 (by decide +kernel) (by decide +kernel)) rfl ⟨by decide, by decide, by decide⟩ (Or.inl (gW_in 1098 (by decide +kernel) (by decide +kernel))) rfl (Nat.le_of_ble_eq_true rfl) ⟨(Nat.le_of_ble_eq_true rfl), (Nat.le_of_ble_eq_true rfl)⟩ (c2 := 108) (s2 := 29055) rfl rfl (Nat.le_of_ble_eq_true rfl) (Nat.le_of_ble_eq_true rfl) rfl ?_
  refine h_astore_n C dL_law_15 rfl (Nat.le_of_ble_eq_true rfl) (loc' := [(2, gR E 40), (1, gR E 1), (0, .ref b)]) rfl ?_
  refine h_iconst C dL_law_16 (v := 1) rfl ?_
  refine h_newarr C (at0 := .long) (t0 := 2) (len := 1) (i := 60) (gW_in 197 (by decide +kernel) (by decide +kernel)) rfl (fun C9 h9 => by cases h9) rfl (gE0_L rfl) (fun _ => rfl) (by decide) (by decide) (by decide) dL_law_17 (Nat.le_of_ble_eq_true rfl) (Nat.le_of_ble_eq_true rfl) ?_
  refine h_astore_n C dL_law_19 rfl (Nat.le_of_ble_eq_true rfl) (loc' := [(3, gR E 60), (2, gR E 40), (1, gR E 1), (0, .ref b)]) rfl ?_
  refine h_iconst C dL_law_20 (v := 1) rfl ?_
  refine h_newarr C (at0 := .double) (t0 := 3) (len := 1) (i := 61) (gW_in 1536 (by decide +kernel) (by decide +kernel)) rfl (fun C9 h9 => by cases h9) rfl (gE0_D rfl) (fun _ => rfl) (by decide) (by decide) (by decide) dL_law_21 (Nat.le_of_ble_eq_true rfl) (Nat.le_of_ble_eq_true rfl) ?_
  refine h_astore C dL_law_23 (Nat.le_of_ble_eq_true rfl) (loc' := [(4, gR E 61), (3, gR E 60), (2, gR E 40), (1, gR E 1), (0, .ref b)]) rfl ?_
  refine h_iconst C dL_law_25 (v := 0) rfl ?_
  refine h_istore C dL_law_26 (Nat.le_of_ble_eq_true rfl) (loc' := [(5, .int 0), (4, gR E 61), (3, gR E 60), (2, gR E 40), (1, gR E 1), (0, .ref b)]) rfl ?_
  exact kk
theorem tab_any (t : List ExceptionTableEntry) : ∃ hh, t = tableOf hh := ⟨t.map fun h => (h.startPc, h.endPc, h.handlerPc, h.catchType), (table_eq t).symm⟩
set_option maxRecDepth 100000 in
set_option maxHeartbeats 8000000 in
theorem start0 {p : Program} {l : Launch} {e : Env} {s : State} {m : MethodId} {below : List Frame} {meth : Method} {c : Code} {b L : Nat} {xs : Nat → Int32} (hflags : l.flags = flags0) (pure : ∃ n, n ≤ 600 ∧ wp_L_law_L28 L xs n 0 M0) (h : lw_At p s m meth c b L xs) :
    W p l e room_1 s m #[Value.ref b] below meth c s.heap [] 0 0 (lw_Z below #[Value.ref b] s) (entryFrame m ([Value.ref b] : List Value).toArray 9) := by
  obtain ⟨hx, hb, hret, hml, hown, hts, hX, hbl, hlk, hgv⟩ := h
  have hs := flat_of_before _ hgv
  obtain ⟨D, ac, hK⟩ := st_K hts
  obtain ⟨hh, htab⟩ := tab_any c.exceptionTable.toList
  have hst : l.stackTraces = false := by
    unfold Launch.stackTraces
    rw [hflags]
    decide +kernel
  let E : MK := (D, ac, fun i => s.heap.size + POS i, s.heap.size)
  let K : KT := (p, l, e, room_1, s, m, #[Value.ref b], below, meth, c)
  have hKP : gKP E s := ⟨hK _ _, st_nest hts hs⟩
  have hAO : va_AO RX4 s := va_AO.of (lw_q hts 100 (by decide +kernel))
  have hZ1 : vx_Zq Bundle.tN "UNASSIGNED_STACK" Bundle.steD (gA E) s s.heap := vx_Zqof (lw_q hts 318 (by decide +kernel)) (lw_q hts 79 (by decide +kernel)) (hs (.isRef (.static "java/lang/Throwable" "UNASSIGNED_STACK" "[Ljava/lang/StackTraceElement;")) (by decide +kernel)) (fun a ha hA => Nat.not_le.mpr ha hA)
  have hZ2 : vx_Zq Bundle.tN "SUPPRESSED_SENTINEL" Bundle.listD (gA E) s s.heap := vx_Zqof (lw_q hts 320 (by decide +kernel)) (lw_q hts 79 (by decide +kernel)) (hs (.isRef (.static "java/lang/Throwable" "SUPPRESSED_SENTINEL" "Ljava/util/List;")) (by decide +kernel)) (fun a ha hA => Nat.not_le.mpr ha hA)
  have C0 : GC0 K E cL_law RL 9 ret room_1 := ⟨hx, hb, st_gW hts, hown, hml, hret, hlk, ⟨hKP, hAO⟩, rfl, Nat.le_refl _⟩
  have C : GC K E cL_law RL 9 ret hh room_1 := ⟨hx, hb, st_gW hts, hown, hml, hret, hlk, hKP, hst, htab, rfl, hZ1, hZ2, Nat.le_refl _⟩
  have GS : gScr K E b L xs s := ⟨hX, hbl, Nat.not_le.mpr hbl, Nat.le_refl _, rfl, rfl⟩
  obtain ⟨n, hn, hw⟩ := pure
  have hbody := law_walk C GS n 0 M0 110 29057 (by show 110 + 8 * n ≤ 603072; omega) (by show 29057 + 48 * n ≤ 7211114; omega) hw
  have k0 := st_walk (b := b) (Q := lw_Z below #[Value.ref b] s) C0 (fun H locs ls h2 h3 h4 => W.base (hbody s.drawn H locs ls (Drawn.sameBut.refl _ _) (to_REL h2) h3 (lv_sub h4 [5, 4, 3, 2, 1, 0] rfl)))
  have h9 := lv_entry [Value.ref b] (n := 9) (Nat.le_of_ble_eq_true rfl)
  have k2 := k0 s.heap [] _ ⟨fun k q hk => by simp [wl0] at hk, ⟨fun i j p q hi => by simp [wl0] at hi, fun k q hk => by simp [wl0] at hk⟩, rfl, fun _ => rfl⟩ va_S.rf h9
  rw [← lg_entry_eq] at k2
  exact k2
