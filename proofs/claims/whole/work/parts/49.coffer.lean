-- PURE: the class's offers
def mkI (nx : Nat) (z : Int32) : ITM :=
  let r := z.toBitVec.toNat / 256
  (nx, r % 100, r / 100 % 4, r / 400 % 99 + 1, nI (r % 1999) - 999)
def stp (z : Int32) : Int32 := z * 1103515245 + 12345
def drwA : Nat → Int32 → SLT → Nat → SLT
  | 0, _, a, _ => a
  | k + 1, z, a, nx => drwA k (stp z) (pushA a (mkI nx (stp z))) (nx + 1)
theorem gush8 (z : Int32) : gush z 8 = nI (z.toBitVec.toNat / 256) := by
  unfold gush
  have h := pk_ushr z 8 8 (by decide)
  refine Int32.toBitVec_inj.mp (BitVec.eq_of_toNat_eq ?_)
  rw [h, pk_tn (by have := z.toBitVec.isLt; omega)]
theorem sub999 {n : Nat} (h : n < 1999) : (nI n - 999).toInt = (n : Int) - 999 := by
  have := pk_sub_toInt (a := n) (b := 999) (by omega) (by decide)
  exact this
theorem mkI_ok (nx : Nat) (z : Int32) : okI (nx + 1) (mkI nx z) := by
  have h := sub999 (n := z.toBitVec.toNat / 256 % 1999) (Nat.mod_lt _ (by decide))
  refine ⟨Nat.lt_succ_self _, ?_, ?_, ?_, ?_, ?_, ?_⟩
  · show z.toBitVec.toNat / 256 % 100 ≤ 99; omega
  · show z.toBitVec.toNat / 256 / 100 % 4 < 4; omega
  · show 1 ≤ z.toBitVec.toNat / 256 / 400 % 99 + 1; omega
  · show z.toBitVec.toNat / 256 / 400 % 99 + 1 ≤ 99; omega
  · show -999 ≤ (nI (z.toBitVec.toNat / 256 % 1999) - 999).toInt; rw [h]; omega
  · show (nI (z.toBitVec.toNat / 256 % 1999) - 999).toInt ≤ 999; rw [h]; omega
theorem drw_parts (nx : Nat) (z : Int32) : let x := gush z 8; x - x / 100 * 100 = pt (mkI nx z) 1 ∧ (x / 100) - (x / 100) / 4 * 4 = pt (mkI nx z) 2 ∧ ((x / 400) - (x / 400) / 99 * 99) + 1 = pt (mkI nx z) 3 ∧ (x - x / 1999 * 1999) - 999 = pt (mkI nx z) 4 := by
  have hz := z.toBitVec.isLt
  have hr : z.toBitVec.toNat / 256 < 16777216 := by omega
  rw [gush8]
  refine ⟨pk_rem (by omega) (d := 100) (by decide) (by decide), ?_, ?_, ?_⟩
  · have e : nI (z.toBitVec.toNat / 256) / 100 = nI (z.toBitVec.toNat / 256 / 100) := pk_div (d := 100) (by omega) (by decide) (by decide)
    rw [e]; exact pk_rem (d := 4) (by omega) (by decide) (by decide)
  · have e : nI (z.toBitVec.toNat / 256) / 400 = nI (z.toBitVec.toNat / 256 / 400) := pk_div (d := 400) (by omega) (by decide) (by decide)
    have e2 : nI (z.toBitVec.toNat / 256 / 400) - nI (z.toBitVec.toNat / 256 / 400) / 99 * 99 = nI (z.toBitVec.toNat / 256 / 400 % 99) := pk_rem (d := 99) (by omega) (by decide) (by decide)
    rw [e, e2, n1, nA]; rfl
  · have e2 : nI (z.toBitVec.toNat / 256) - nI (z.toBitVec.toNat / 256) / 1999 * 1999 = nI (z.toBitVec.toNat / 256 % 1999) := pk_rem (d := 1999) (by omega) (by decide) (by decide)
    rw [e2]; rfl
theorem it_push {a : SLT} {x : ITM} (i : Nat) : it (pushA a x) i = if sP a ≠ 0 ∧ sP a ≤ sN a then (if i < sN a - 1 then it a (i + 1) else if i = sN a - 1 then x else (0, 0, 0, 0, 0)) else (if i < sN a then it a i else if i = sN a then x else (0, 0, 0, 0, 0)) := by
  unfold pushA
  rw [it_app]
  by_cases c : sP a ≠ 0 ∧ sP a ≤ sN a
  · rw [if_pos c, if_pos c, List.length_drop]
    by_cases d : i < sN a - 1
    · rw [if_pos d, if_pos d]
      have := it_drop (L := sL a) (q := true) (u := (0, 0, 0, 0)) (v := fun _ => 0) i
      exact this
    · rw [if_neg d, if_neg d]
  · rw [if_neg c, if_neg c]; rfl
theorem WF.push {nx : Nat} {a : SLT} (h : WF nx a) (ha : sH a = true) (h0 : sP a = 0 → sN a < 60) {x : ITM} {nx' : Nat} (hx : okI nx' x) (hn : nx ≤ nx') (hl : ∀ i, i < sN a → (it a i).1 < x.1) : WF nx' (pushA a x) := by
  obtain ⟨w1, w2, w3, w4, w5⟩ := h
  obtain ⟨v1, v2, v3, v4, v5, v6⟩ := w3 ha
  have hpn := pushA_n (a := a) x
  have hN : sN (pushA a x) ≤ 60 ∧ (sP a ≠ 0 → sN (pushA a x) ≤ sP a) := by
    rw [hpn]
    by_cases c : sP a = 0
    · have := h0 c
      rw [if_neg (fun w => w.1 c)]
      exact ⟨by omega, fun w => absurd c w⟩
    · have := v6 c
      split <;> exact ⟨by omega, fun _ => by omega⟩
  refine ⟨hN.1, (fun q => absurd (ha.symm.trans q) (by decide)), fun _ => ⟨v1, v2, v3, v4, v5, hN.2⟩, fun i hi => ?_, fun i j hij hj => ?_⟩
  · have up : ∀ i, i < sN a → okI nx' (it a i) := fun i hi => ⟨Nat.lt_of_lt_of_le (w4 i hi).1 hn, (w4 i hi).2⟩
    rw [it_push]
    rw [hpn] at hi
    split at hi
    · rename_i c
      rw [if_pos c]
      split
      · exact up _ (by omega)
      · rw [if_pos (by omega)]; exact hx
    · rename_i c
      rw [if_neg c]
      split
      · exact up _ (by omega)
      · rw [if_pos (by omega)]; exact hx
  · rw [it_push, it_push]
    rw [hpn] at hj
    split at hj
    · rename_i c
      rw [if_pos c, if_pos c, if_pos (show i < sN a - 1 by omega)]
      split
      · exact w5 _ _ (by omega) (by omega)
      · rw [if_pos (by omega)]; exact hl _ (by omega)
    · rename_i c
      rw [if_neg c, if_neg c, if_pos (show i < sN a by omega)]
      split
      · exact w5 _ _ hij (by omega)
      · rw [if_pos (by omega)]; exact hl _ (by omega)
theorem drwA_ok : ∀ (k : Nat) (z : Int32) (a : SLT) (nx : Nat), WF nx a → sH a = true → (sP a = 0 → sN a + k ≤ 60) → WF (nx + k) (drwA k z a nx) ∧ sH (drwA k z a nx) = true := by
  intro k
  induction k with
  | zero => intro z a nx hw ha _; exact ⟨hw, ha⟩
  | succ k ih =>
    intro z a nx hw ha h0
    have hp := hw.push ha (fun c => by have := h0 c; omega) (mkI_ok nx (stp z)) (Nat.le_succ _) (fun i hi => (hw.2.2.2.1 i hi).1)
    have := ih (stp z) _ (nx + 1) hp ha (fun c => by
      have := h0 c
      rw [pushA_n, if_neg (fun w => w.1 c)]; omega)
    rw [show nx + (k + 1) = nx + 1 + k by omega]
    exact this
theorem setG_setG (G : GST) (s : Nat) (a b : SLT) (m n : Nat) : setG (setG G s a m) s b n = setG G s b n := by
  unfold setG
  refine Prod.ext (Prod.ext (funext fun i => ?_) rfl) rfl
  show (if i = s then b else if i = s then a else G.1.1 i) = if i = s then b else G.1.1 i
  by_cases c : i = s
  · rw [if_pos c, if_pos c]
  · rw [if_neg c, if_neg c, if_neg c]
section PO
variable {M : MEM} {G : GST} {B : Nat}
theorem c_offer (hS : SIMC M G) (hW : WFG B G) (hB : B ≤ 1000000 + 90000) {p1 p2 p3 p4 p5 : Int32} {Q : Int32 → MEM → Prop} {X : String → MEM → Prop}
    (x1 : ¬ rng p1 0 3 → X "java/lang/IndexOutOfBoundsException" M) (x2 : rng p1 0 3 → ¬ partOk p2 p3 p4 p5 → X "java/lang/IllegalArgumentException" M)
    (x3 : ∀ s, s < 4 → p1 = nI s → partOk p2 p3 p4 p5 → (sH ((gCur G).1 s) = false ∨ (sH ((gCur G).1 s) = true ∧ sP ((gCur G).1 s) = 0 ∧ 60 < sN ((gCur G).1 s) + 1)) → X "java/lang/IllegalStateException" M)
    (hQ : ∀ s k t w, s < 4 → p1 = nI s → p2 = nI k → p3 = nI t → p4 = nI w → okI ((gCur G).2 + 1) ((gCur G).2, k, t, w, p5) → sH ((gCur G).1 s) = true → ¬ (sP ((gCur G).1 s) = 0 ∧ 60 < sN ((gCur G).1 s) + 1) → ∀ M', SIMC M' (chgG G s (pushA ((gCur G).1 s) ((gCur G).2, k, t, w, p5)) ((gCur G).2 + 1)) → EqR M M' → Q (nI (gCur G).2) M') : wp_X5_offer 1 p1 p2 p3 p4 p5 M Q X := by
  refine ⟨rfl, s_slotAt (fun s hs e => ?_) x1⟩
  subst e
  have hc := hS.cs hW (by omega) hs
  refine s_parts (fun ok => s_need (fun _ => ?_) (fun e => absurd e (by decide))) (fun ok => s_need (fun e => absurd rfl e) (fun _ => x2 (rng_slot hs) ok))
  refine c_filled hc (fun ha => ?_) (fun h => x3 s hs rfl ok (Or.inl h))
  refine c_needRoom hc ha (m := 1) (by decide) (fun hr => ?_) (fun h => x3 s hs rfl ok (Or.inr ⟨ha, h⟩))
  obtain ⟨k, e2, -, k2, -⟩ := rng_nI ok.1 (by decide)
  obtain ⟨t, e3, -, t2, -⟩ := rng_nI ok.2.1 (by decide)
  obtain ⟨w, e4, w1, w2, -⟩ := rng_nI ok.2.2.1 (by decide)
  subst e2; subst e3; subst e4
  have hx : okI ((gCur G).2 + 1) ((gCur G).2, k, t, w, p5) := ⟨Nat.lt_succ_self _, by show k ≤ 99; omega, by show t < 4; omega, by show 1 ≤ w; omega, by show w ≤ 99; omega, ok.2.2.2.1, ok.2.2.2.2⟩
  refine ⟨rfl, c_remember hS hW (by omega) hs (fun M1 S1 F1 x7 e7 => ⟨hc.kd, ?_⟩)⟩
  have hc1 := S1.cs (hW.rem hs) (by omega) hs
  rw [S1.nx] at e7
  subst e7
  obtain ⟨-, -, -, v4, -, v6⟩ := hc1.2.1.2.2.1 ha
  refine s_push hc1.1 ha hc1.h1 hc1.h2 hc1.n v4 v6 (fun q => ?_) ((gCur G).2, k, t, w, p5) (fun M2 r2 F2 M3 e3 => ?_)
  · have : ¬ 60 < sN ((gCur G).1 s) + 1 := fun w => hr ⟨q, w⟩
    show sN ((gCur G).1 s) < 60
    omega
  · have hF3 : FrI (fun b => b = 1 ∨ inH (100 + s) b) M1 M3 := by rw [e3]; exact (F2.mono (fun b hb => Or.inr hb)).uIs (Or.inl rfl)
    have ho : ∀ b, b ≠ 1 → ∀ j, mI M3 b j = mI M2 b j := fun b hb j => by rw [e3, rd_ne (Or.inl hb)]
    refine hQ s k t w hs rfl rfl rfl rfl hx ha hr M3 (S1.set hs (r2.of (fun b hb j => ho b (by unfold inH at hb; omega) j)) (fun b h1 h2 _ j => hF3.1 b (fun q => q.elim h1 h2) j) ?_ ?_ ?_) ((EqR.fr F1 (fun b p q => not_inHis p q)).trans (EqR.fr hF3 (fun b p q w => w.elim (fun w => by omega) (not_inHs p q hc.h1))))
    · rw [e3, rd_ne (by omega)]; exact F2.1 1 (by unfold inH; omega) 2
    · rw [e3, rd_ne (by omega)]; exact F2.1 1 (by unfold inH; omega) 3
    · rw [e3, rd_eq]; exact nA _ _
theorem c_offerDrawn (hS : SIMC M G) (hW : WFG B G) (hB : B ≤ 1000000 + 90000) {p1 p2 p3 : Int32} {Q : Int32 → MEM → Prop} {X : String → MEM → Prop}
    (x1 : ¬ rng p1 0 3 → X "java/lang/IndexOutOfBoundsException" M) (x2 : rng p1 0 3 → ¬ rng p3 0 60 → X "java/lang/IllegalArgumentException" M)
    (x3 : ∀ s c, s < 4 → p1 = nI s → p3 = nI c → c ≤ 60 → (sH ((gCur G).1 s) = false ∨ (sH ((gCur G).1 s) = true ∧ sP ((gCur G).1 s) = 0 ∧ 60 < sN ((gCur G).1 s) + c)) → X "java/lang/IllegalStateException" M)
    (hQ : ∀ s c, s < 4 → p1 = nI s → p3 = nI c → c ≤ 60 → sH ((gCur G).1 s) = true → ¬ (sP ((gCur G).1 s) = 0 ∧ 60 < sN ((gCur G).1 s) + c) → ∀ M', SIMC M' (chgG G s (drwA c p2 ((gCur G).1 s) (gCur G).2) ((gCur G).2 + c)) → EqR M M' → Q (nI (sN (drwA c p2 ((gCur G).1 s) (gCur G).2))) M') : wp_X5_offerDrawn 1 p1 p2 p3 M Q X := by
  refine ⟨rfl, s_slotAt (fun s hs e => ?_) x1⟩
  subst e
  have hc := hS.cs hW (by omega) hs
  refine s_w32 0 60 (by decide) (by decide) (fun r3 => s_need (fun _ => ?_) (fun e => absurd e (by decide))) (fun r3 => s_need (fun e => absurd rfl e) (fun _ => x2 (rng_slot hs) r3))
  obtain ⟨c, e3, -, c2, -⟩ := rng_nI r3 (by decide)
  subst e3
  have hc60 : c ≤ 60 := by omega
  refine c_filled hc (fun ha => ?_) (fun h => x3 s c hs rfl rfl hc60 (Or.inl h))
  refine c_needRoom hc ha hc60 (fun hr => ?_) (fun h => x3 s c hs rfl rfl hc60 (Or.inr ⟨ha, h⟩))
  refine ⟨rfl, c_remember hS hW (by omega) hs (fun M1 S1 F1 => ⟨c + 1, ?_⟩)⟩
  have hnx := hW.1.1
  have lp : ∀ f k z a nx M2, k ≤ c → c - k < f → SIMC M2 (setG (remG G s) s a nx) → WF nx a → sH a = true → (sP a = 0 → sN a + (c - k) ≤ 60) → nx + (c - k) = (gCur G).2 + c → EqR M M2 → drwA (c - k) z a nx = drwA c p2 ((gCur G).1 s) (gCur G).2 → wp_X5_offerDrawn_L50 1 (nI c) Q (100 + s) f z (nI k) M2 := by
    intro f
    induction f with
    | zero => intro k z a nx M2 _ h9; omega
    | succ f ih =>
      intro k z a nx M2 hk hf S2 w2 ha2 h0 hsum hE hD
      have hcell : RepC M2 (100 + s) a := by
        have := S2.1 s hs
        rw [show (gCur (setG (remG G s) s a nx)).1 s = if s = s then a else G.1.1 s from rfl, if_pos rfl] at this
        exact this
      have hcs : CS nx M2 (100 + s) a := ⟨hcell, w2, hc.h1, hc.h2, by omega⟩
      unfold wp_X5_offerDrawn_L50
      by_cases q : k = c
      · subst q
        simp (disch := omega) only [nEF, nET, true_and, and_true, true_implies, false_implies, not_true_eq_false, not_false_eq_true, forall_const, false_or, or_false, if_true, if_false]
        rw [Nat.sub_self] at hD hsum
        have hD' : a = drwA k p2 ((gCur G).1 s) (gCur G).2 := hD
        refine ⟨hc.kd, s_count hcell hc.h1 hc.h2 ?_⟩
        rw [hD'] at S2 ⊢
        rw [show nx = (gCur G).2 + k by omega] at S2
        exact hQ s k hs rfl rfl hc60 ha hr M2 S2 hE
      · simp (disch := omega) only [nEF, nET, true_and, and_true, true_implies, false_implies, not_true_eq_false, not_false_eq_true, forall_const, false_or, or_false, if_true, if_false]
        intro x7 e7
        obtain ⟨d1, d2, d3, d4⟩ := drw_parts nx (stp z)
        have e7' : x7 = gush (stp z) 8 := e7
        rw [e7', d1, d2, d3, d4]
        refine ⟨hc.kd, ?_⟩
        have hn4 : mI M2 1 4 = nI nx := S2.nx
        rw [show mI M2 1 4 = pt (mkI nx (stp z)) 0 from hn4]
        obtain ⟨-, -, -, v4, -, v6⟩ := w2.2.2.1 ha2
        have h0' : sP a = 0 → sN a < 60 := fun w => by have := h0 w; omega
        refine s_push hcell ha2 hc.h1 hc.h2 w2.1 v4 v6 h0' (mkI nx (stp z)) (fun M3 r3 F3 M4 e4 x6 e6 => ?_)
        rw [e6, n1, nA]
        have hF4 : FrI (fun b => b = 1 ∨ inH (100 + s) b) M2 M4 := by rw [e4]; exact (F3.mono (fun b hb => Or.inr hb)).uIs (Or.inl rfl)
        have S4 : SIMC M4 (setG (remG G s) s (pushA a (mkI nx (stp z))) (nx + 1)) := by
          rw [← setG_setG (remG G s) s a _ nx]
          refine S2.set hs (r3.of (fun b hb j => by rw [e4, rd_ne (by unfold inH at hb; omega)])) (fun b h1 h2 _ j => hF4.1 b (fun q => q.elim h1 h2) j) ?_ ?_ ?_
          · rw [e4, rd_ne (by omega)]; exact F3.1 1 (by unfold inH; omega) 2
          · rw [e4, rd_ne (by omega)]; exact F3.1 1 (by unfold inH; omega) 3
          · rw [e4, rd_eq, F3.1 1 (by unfold inH; omega) 4, hn4]; exact nA _ _
        refine ih (k + 1) (stp z) _ (nx + 1) M4 (by omega) (by omega) S4 (w2.push ha2 h0' (mkI_ok nx _) (Nat.le_succ _) (fun i hi => (w2.2.2.2.1 i hi).1)) ha2 (fun w => ?_) (by omega) (hE.trans (EqR.fr hF4 (fun b p q w => w.elim (fun w => by omega) (not_inHs p q hc.h1)))) ?_
        · have := h0 w
          rw [pushA_n, if_neg (fun q => q.1 w)]; omega
        · rw [show c - k = (c - (k + 1)) + 1 by omega] at hD
          exact hD
  refine lp (c + 1) 0 p2 ((gCur G).1 s) (gCur G).2 M1 (Nat.zero_le _) (by omega) ?_ (hW.1.2 s hs) ha (fun w => ?_) (by omega) (EqR.fr F1 (fun b p q => not_inHis p q)) rfl
  · have := S1.set1 hs (S1.1 s hs) (FrI.refl M1)
    exact this
  · have : ¬ 60 < sN ((gCur G).1 s) + c := fun q => hr ⟨w, q⟩
    omega
end PO
