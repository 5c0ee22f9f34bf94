theorem inX0 : ∀ w ∈ u_ws RX0 TX0 5, w ∈ gW := List.forall_mem_cons.mpr ⟨tw80, List.forall_mem_cons.mpr ⟨tw82, List.forall_mem_cons.mpr ⟨tw84, List.forall_mem_cons.mpr ⟨tw86, List.forall_mem_cons.mpr ⟨tw88, fun w h => absurd h List.not_mem_nil⟩⟩⟩⟩⟩
theorem inX1 : ∀ w ∈ u_ws RX1 TX1 2, w ∈ gW := List.forall_mem_cons.mpr ⟨tw139, List.forall_mem_cons.mpr ⟨tw141, fun w h => absurd h List.not_mem_nil⟩⟩
theorem inX2 : ∀ w ∈ u_ws RX2 TX2 3, w ∈ gW := List.forall_mem_cons.mpr ⟨tw154, List.forall_mem_cons.mpr ⟨tw156, List.forall_mem_cons.mpr ⟨tw158, fun w h => absurd h List.not_mem_nil⟩⟩⟩
theorem inX3 : ∀ w ∈ u_ws RX3 TX3 9, w ∈ gW := List.forall_mem_cons.mpr ⟨tw108, List.forall_mem_cons.mpr ⟨tw110, List.forall_mem_cons.mpr ⟨tw112, List.forall_mem_cons.mpr ⟨tw114, List.forall_mem_cons.mpr ⟨tw116, List.forall_mem_cons.mpr ⟨tw118, List.forall_mem_cons.mpr ⟨tw120, List.forall_mem_cons.mpr ⟨tw122, List.forall_mem_cons.mpr ⟨tw124, fun w h => absurd h List.not_mem_nil⟩⟩⟩⟩⟩⟩⟩⟩⟩
theorem inX4 : ∀ w ∈ u_ws RX4 TX4 8, w ∈ gW := List.forall_mem_cons.mpr ⟨tw49, List.forall_mem_cons.mpr ⟨tw51, List.forall_mem_cons.mpr ⟨tw53, List.forall_mem_cons.mpr ⟨tw55, List.forall_mem_cons.mpr ⟨tw57, List.forall_mem_cons.mpr ⟨tw59, List.forall_mem_cons.mpr ⟨tw61, List.forall_mem_cons.mpr ⟨tw63, fun w h => absurd h List.not_mem_nil⟩⟩⟩⟩⟩⟩⟩⟩
theorem inX5 : ∀ w ∈ u_ws RX5 TX5 14, w ∈ gW := List.forall_mem_cons.mpr ⟨tw175, List.forall_mem_cons.mpr ⟨tw177, List.forall_mem_cons.mpr ⟨tw179, List.forall_mem_cons.mpr ⟨tw181, List.forall_mem_cons.mpr ⟨tw183, List.forall_mem_cons.mpr ⟨tw185, List.forall_mem_cons.mpr ⟨tw187, List.forall_mem_cons.mpr ⟨tw189, List.forall_mem_cons.mpr ⟨tw191, List.forall_mem_cons.mpr ⟨tw193, List.forall_mem_cons.mpr ⟨tw195, List.forall_mem_cons.mpr ⟨tw197, List.forall_mem_cons.mpr ⟨tw199, List.forall_mem_cons.mpr ⟨tw201, fun w h => absurd h List.not_mem_nil⟩⟩⟩⟩⟩⟩⟩⟩⟩⟩⟩⟩⟩⟩
theorem inX6 : ∀ w ∈ u_ws RX6 TX6 29, w ∈ gW := List.forall_mem_cons.mpr ⟨tw1061, List.forall_mem_cons.mpr ⟨tw1063, List.forall_mem_cons.mpr ⟨tw1065, List.forall_mem_cons.mpr ⟨tw1067, List.forall_mem_cons.mpr ⟨tw1069, List.forall_mem_cons.mpr ⟨tw1071, List.forall_mem_cons.mpr ⟨tw1073, List.forall_mem_cons.mpr ⟨tw1075, List.forall_mem_cons.mpr ⟨tw1077, List.forall_mem_cons.mpr ⟨tw1079, List.forall_mem_cons.mpr ⟨tw1081, List.forall_mem_cons.mpr ⟨tw1083, List.forall_mem_cons.mpr ⟨tw1085, List.forall_mem_cons.mpr ⟨tw1087, List.forall_mem_cons.mpr ⟨tw1089, List.forall_mem_cons.mpr ⟨tw1091, List.forall_mem_cons.mpr ⟨tw1093, List.forall_mem_cons.mpr ⟨tw1095, List.forall_mem_cons.mpr ⟨tw1097, List.forall_mem_cons.mpr ⟨tw1099, List.forall_mem_cons.mpr ⟨tw1101, List.forall_mem_cons.mpr ⟨tw1103, List.forall_mem_cons.mpr ⟨tw1105, List.forall_mem_cons.mpr ⟨tw1107, List.forall_mem_cons.mpr ⟨tw1109, List.forall_mem_cons.mpr ⟨tw1111, List.forall_mem_cons.mpr ⟨tw1113, List.forall_mem_cons.mpr ⟨tw1115, List.forall_mem_cons.mpr ⟨tw1117, fun w h => absurd h List.not_mem_nil⟩⟩⟩⟩⟩⟩⟩⟩⟩⟩⟩⟩⟩⟩⟩⟩⟩⟩⟩⟩⟩⟩⟩⟩⟩⟩⟩⟩⟩
def exN : List String := ["java/lang/RuntimeException", "java/lang/Exception"]
theorem fit_IndexOutOfBoundsException : Bundle.fit "java/lang/IndexOutOfBoundsException" = true := by decide +kernel
theorem fit_IllegalArgumentException : Bundle.fit "java/lang/IllegalArgumentException" = true := by decide +kernel
theorem fit_IllegalStateException : Bundle.fit "java/lang/IllegalStateException" = true := by decide +kernel
theorem fit_ArithmeticException : Bundle.fit "java/lang/ArithmeticException" = true := by decide +kernel
theorem fit_UnsupportedOperationException : Bundle.fit "java/lang/UnsupportedOperationException" = true := by decide +kernel
theorem fit_NoSuchElementException : Bundle.fit "java/util/NoSuchElementException" = true := by decide +kernel
theorem nse0 : decode prog_22_method_4_code 0 = .ok (.aload_n 0, 1) := by decide +kernel
theorem nse1 : decode prog_22_method_4_code 1 = .ok (.aload_n 1, 1) := by decide +kernel
theorem nse2 : decode prog_22_method_4_code 2 = .ok (.invokespecial 13, 3) := by decide +kernel
theorem nse5 : decode prog_22_method_4_code 5 = .ok (.return_, 1) := by decide +kernel
theorem fit_N : ∀ n ∈ exN, Bundle.fit n = true := by decide +kernel
theorem noTab (pc : Nat) : ∀ x ∈ tableOf [], covers x pc = false := fun _ h => absurd h List.not_mem_nil
theorem sw_cases (x : Int32) (n : Nat) (hn : n < 1000) : (x.toInt < 0 ∨ (n : Int) - 1 < x.toInt) ∨ ∃ i, i < n ∧ x = nI i := by
  by_cases h : x.toInt < 0 ∨ (n : Int) - 1 < x.toInt
  · exact Or.inl h
  · refine Or.inr ⟨x.toInt.toNat, by omega, Int32.toInt_inj.mp ?_⟩
    rw [nI_toInt (by omega)]
    omega
