-- PURE: a call of the law: how it ends; the ranges of the new state
section PT
variable {M M' M1 M5 : MEM} {G G' : GST} {B s nx : Nat} {a : SLT}
/-- the law compares what was thrown, then what was answered -/
def tlI (N : Int32 → MEM → Prop) (x k : Int32) (r : Int64) (M : MEM) : Prop := wp_X6_thrown 40 M (fun t => (t = k → ((¬ k = 0 → (∀ y : Int32, y = x + 6 → N y M)) ∧ (k = 0 → (KD 60 = (2, 1) ∧ (((mL M 60 0) = r → (∀ y : Int32, y = x + 6 → N y M)) ∧ (¬ (mL M 60 0) = r → False)))))) ∧ (¬ t = k → False))
def NXT (N : Int32 → MEM → Prop) (x : Int32) (B : Nat) : Prop := ∀ G' M', SIMC M' G' → SIMR M' G' → WFG (B + 60) G' → N (x + 6) M'
theorem tl_k {N : Int32 → MEM → Prop} {x : Int32} {k : Nat} {r : Int64} (hk : 1 ≤ k ∧ k ≤ 9) (E : ENDR M1 G' k M') (S : SIMC M1 G') (hW : WFG (B + 60) G') (next : NXT N x B) : tlI N x (nI k) r M' := by
  refine ⟨rfl, fun _ => ⟨fun _ y e => ?_, fun w => absurd w (nI_ne0 (by omega) (by omega))⟩, fun w => absurd E.2.2 w⟩
  rw [e]
  exact next G' M' (E.1.simc S) E.2.1 hW
theorem tl_0 {N : Int32 → MEM → Prop} {x : Int32} {r : Int64} (E : ENDR M5 G' 0 M') (S : SIMC M5 G') (hL : mL M5 60 0 = r) (hW : WFG (B + 60) G') (next : NXT N x B) : tlI N x 0 r M' := by
  have h1 : mL M' 60 0 = r := E.1.2.1.trans hL
  refine ⟨rfl, fun _ => ⟨fun w => absurd rfl w, fun _ => ⟨rfl, fun _ y e => ?_, fun w => absurd h1 w⟩⟩, fun w => absurd E.2.2 w⟩
  rw [e]
  exact next G' M' (E.1.simc S) E.2.1 hW
/-- the class's answer is put aside -/
theorem pk5 {v : Int64} (S : SIMC M1 G') (E : EqR M M1) (hR : SIMR M G) (em : M5 = uL M1 60 0 v) : SIMC M5 G' ∧ SIMR M5 G ∧ mL M5 60 0 = v :=
  ⟨S.of (fun b _ j => by rw [em]; rfl), hR.eq (fun b p q j => by rw [em]; exact E b p q j), by rw [em, mL_uL, if_pos ⟨rfl, rfl⟩]⟩
theorem pkD {v : UInt64} (S : SIMC M1 G') (E : EqR M M1) (hR : SIMR M G) (em : M5 = uD M1 61 0 v) : SIMC M5 G' ∧ SIMR M5 G ∧ mD M5 61 0 = v :=
  ⟨S.of (fun b _ j => by rw [em]; rfl), hR.eq (fun b p q j => by rw [em]; exact E b p q j), by rw [em, mD_uD, if_pos ⟨rfl, rfl⟩]⟩
theorem beginA_ok {k z q nx : Nat} {sd : Int32} (h1 : k ≤ 3) (h2 : 1 ≤ z) (h3 : z ≤ 12) (h4 : q ≤ 40) : WF nx (beginA k z sd q) :=
  ⟨Nat.zero_le _, fun w => absurd (show true = false from w) (by decide), fun _ => ⟨h1, h2, h3, h4, fun t _ => h3, fun _ => Nat.zero_le _⟩, fun i hi => absurd hi (Nat.not_lt_zero _), fun i j _ hj => absurd hj (Nat.not_lt_zero _)⟩
theorem emptyA_ok : WF nx (emptyA a) :=
  ⟨Nat.zero_le _, fun _ => rfl, fun w => absurd (show false = true from w) (by decide), fun i hi => absurd hi (Nat.not_lt_zero _), fun i j _ hj => absurd hj (Nat.not_lt_zero _)⟩
theorem putQA_ok (h : WF nx a) {t q : Nat} (hq : q ≤ 12) : WF nx (putQA a t q) :=
  ⟨h.1, h.2.1, fun ha => by
    obtain ⟨v1, v2, v3, v4, v5, v6⟩ := h.2.2.1 ha
    refine ⟨v1, v2, v3, v4, fun u hu => ?_, v6⟩
    show (if u = t then q else sQ a u) ≤ 12
    split
    · exact hq
    · exact v5 u hu, h.2.2.2⟩
theorem allocA_ok (h : WF nx a) (hr : RS M s a nx) {w : Bool} {T : Nat} (hT : T ≤ 12) (hn : 0 < sN a) : WF nx (allocA a w T) := by
  have hpos := all4_p hr.str (fun i hi => (hr.ok hi).2.2.2.1) w hn
  have hqs := quo_sum (a := a) w T hpos
  refine h.setQ (fun t ht => ?_)
  refine alc_ok _ _ _ 12 ?_ t ht
  unfold lft; omega
theorem WFG.un {F : FULL} {r : List (Nat × FULL)} (h : WFG B G) (hh : gHis G = (s, F) :: r) : WFG B (undoG G s F r) := by
  obtain ⟨h1, h2, h3, h4, h5, h6, h7⟩ := h
  rw [hh] at h3 h4 h5
  exact ⟨h3 (s, F) List.mem_cons_self, h2, fun q hq => h3 q (List.mem_cons_of_mem _ hq), h4.2.2, by have : (s, F) :: r = (s, F) :: r := rfl; rw [List.length_cons] at h5; show r.length ≤ 10; omega, h6, h7⟩
theorem WFG.sv (h : WFG B G) : WFG B (saveG G) :=
  ⟨h.1, fun F hF => by
    have : F = G.1 := (Option.some.inj hF).symm
    rw [this]; exact h.1, h.2.2⟩
theorem WFG.rs {F : FULL} (h : WFG B G) (hF : gSav G = some F) : WFG B (resG G F) :=
  ⟨h.2.1 F hF, h.2.1, fun q hq => absurd hq List.not_mem_nil, trivial, Nat.zero_le _, h.2.2.2.2.2⟩
theorem WFG.ou {cs : List Nat} (h : WFG B G) (h1 : cs.length ≤ 1279) (h2 : ∀ c ∈ cs, c < 128) : WFG B (outG G cs) := ⟨h.1, h.2.1, h.2.2.1, h.2.2.2.1, h.2.2.2.2.1, h.2.2.2.2.2.1, h1, h2⟩
theorem WFG.ip {cs : List Nat} (h : WFG B G) (h1 : cs.length ≤ 120) (h2 : ∀ c ∈ cs, c < 65536) : WFG B (inpG G cs) := ⟨h.1, h.2.1, h.2.2.1, h.2.2.2.1, h.2.2.2.2.1, ⟨h1, h2⟩, h.2.2.2.2.2.2⟩
theorem ENDR.of_simr (h : FrR M M') (hR : SIMR M' G) (h0 : mI M' 40 0 = nI 0) : ENDR M G 0 M' := ⟨h, hR, h0⟩
end PT
