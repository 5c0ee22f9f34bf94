-- PURE: the reference: save, restore, merge, allocate
section PR8
variable {M M' M1 M5 M7 : MEM} {G : GST} {B s t nx nx2 : Nat} {a b : SLT} {p p1 p2 p3 p4 p5 : Int32}
theorem q_thereN {F : FULL} (hF : RepF (mI M 41) F) {Q : Int32 → Prop} (hQ : Q (nI (filN F))) : wp_X6_there 40 M Q := by
  refine ⟨rfl, rfl, ?_⟩
  have h0 : mI M 41 0 = if sH (F.1 0) = true then 1 else 0 := (hF.1 0 (by decide)).1
  have h1 : mI M 41 310 = if sH (F.1 1) = true then 1 else 0 := (hF.1 1 (by decide)).1
  have h2 : mI M 41 620 = if sH (F.1 2) = true then 1 else 0 := (hF.1 2 (by decide)).1
  have h3 : mI M 41 930 = if sH (F.1 3) = true then 1 else 0 := (hF.1 3 (by decide)).1
  rw [show RF 40 1 = 41 from rfl, h0, h1, h2, h3]
  unfold filN at hQ
  rw [cntF_s, cntF_s, cntF_s, cntF_s, cntF_0] at hQ
  cases e0 : sH (F.1 0) <;> cases e1 : sH (F.1 1) <;> cases e2 : sH (F.1 2) <;> cases e3 : sH (F.1 3) <;> (simp only [e0, e1, e2, e3] at hQ; exact hQ)
theorem q_save (hR : SIMR M G) (hW : WFG B G) {Q : Int32 → MEM → Prop} (hQ : ∀ M', FrR M M' → SIMR M' (saveG G) → Q (nI (filN (gCur G))) M') : wp_X6_save 40 M Q := by
  refine ⟨rfl, fun M1 e1 M2 e2 => ⟨1242, ?_⟩⟩
  have lp : ∀ f k M3, k ≤ 1241 → 1241 - k < f → (∀ b j, b ≠ 55 → mI M3 b j = mI M2 b j) → (∀ i, i < k → mI M3 55 i = mI M 41 i) → M3.2 = M2.2 → wp_X6_save_L12 40 Q f (nI k) M3 := by
    intro f
    induction f with
    | zero => intro k M3 _ h9; omega
    | succ f ih =>
      intro k M3 hk hf hO hV hE
      have e41 : ∀ j, mI M3 41 j = mI M 41 j := fun j => by rw [hO 41 j (by decide), e2, rd_ne (by omega), e1, rd_ne (by omega)]
      unfold wp_X6_save_L12
      refine ⟨fun q => ?_, fun q => ?_⟩
      · have hk1 : 1241 ≤ k := (nI_leI (a := 1241) (by decide) (by omega)).mp q
        have ek : k = 1241 := by omega
        subst ek
        obtain ⟨h1, h2, h3, ⟨h4, h5⟩, h6, h7⟩ := hR
        have h41 : mI M3 41 = mI M 41 := funext e41
        have ho : ∀ b j, keepR b j → b ≠ 55 → (b ≠ 40 ∨ j ≠ 28) → mI M3 b j = mI M b j := fun b j hk1 hk2 hk3 => by rw [hO b j hk2, e2, rd_ne (by omega), e1, rd_ne (by unfold keepR at hk1; omega)]
        have e54 : mI M3 54 = mI M 54 := funext fun j => ho 54 j (by unfold keepR; omega) (by decide) (Or.inl (by decide))
        have e51 : mI M3 51 = mI M 51 := funext fun j => ho 51 j (by unfold keepR; omega) (by decide) (Or.inl (by decide))
        have e53 : mI M3 53 = mI M 53 := funext fun j => ho 53 j (by unfold keepR; omega) (by decide) (Or.inl (by decide))
        refine q_thereN (F := gCur G) (by rw [h41]; exact h1) (hQ M3 ⟨fun b hb j => ?_, ?_, ?_⟩ ⟨by rw [h41]; exact h1, ?_, fun F hF => ?_, ⟨?_, fun j hj => ?_⟩, ⟨?_, fun k hk => ?_⟩, ?_, fun k hk => ?_⟩)
        · rw [hO b j (by omega), e2, rd_ne (by omega), e1, rd_ne (by omega)]
        · show M3.2.1 60 0 = M.2.1 60 0; rw [hE, e2, e1]; rfl
        · rw [hE, e2, e1]; rfl
        · rw [hO 40 28 (by decide), e2, rd_eq]; rfl
        · have eF : F = gCur G := (Option.some.inj hF).symm
          subst eF
          exact RepF.ext h1 (fun k hk => hV k hk) (fun i hi => (hW.1.2 i hi).1)
        · rw [ho 40 27 (by unfold keepR; omega) (by decide) (by decide)]; exact h4
        · rw [e54]; exact h5 j hj
        · rw [ho 40 21 (by unfold keepR; omega) (by decide) (by decide)]; exact h6.1
        · rw [e51]; exact h6.2 k hk
        · rw [ho 40 24 (by unfold keepR; omega) (by decide) (by decide)]; exact h7.1
        · rw [e53]; exact h7.2 k hk
      · have hk1 : k < 1241 := Nat.not_le.mp (fun z => q ((nI_leI (a := 1241) (by decide) (by omega)).mpr z))
        rw [nC (by omega)]
        refine ⟨rfl, nV (by omega) (by decide), rfl, nV (by omega) (by decide), fun M9 e9 x e => ?_⟩
        rw [show RF 40 26 = 55 from rfl, show RF 40 1 = 41 from rfl, e41] at e9
        rw [e, nI_1]
        refine ih (k + 1) M9 (by omega) (by omega) (fun b j h => by rw [e9, rd_ne (by omega)]; exact hO b j h) (fun i hi => ?_) (by rw [e9]; exact hE)
        by_cases z : i = k
        · subst z; rw [e9, rd_eq]
        · rw [e9, rd_ne (by omega)]; exact hV i (by omega)
  exact lp 1242 0 M2 (by decide) (by decide) (fun _ _ _ => rfl) (fun i hi => absurd hi (Nat.not_lt_zero _)) rfl
theorem q_restore_1 (hR : SIMR M G) {Q : Int32 → MEM → Prop} (h : gSav G = none) (hQ : ∀ M', ENDR M G 1 M' → Q 0 M') : wp_X6_restore 40 M Q := by
  refine ⟨rfl, ?_⟩
  rw [hR.2.1, h]
  exact i0 (q_fails (k := 1) hR hQ)
theorem q_restore_0 (hR : SIMR M G) (hW : WFG B G) {Q : Int32 → MEM → Prop} {F : FULL} (h : gSav G = some F) (hQ : ∀ M', ENDR M (resG G F) 0 M' → Q (nI (filN F)) M') : wp_X6_restore 40 M Q := by
  have hF0 := hR.2.2.1 F h
  have hok : okF B F := hW.2.1 F h
  refine ⟨rfl, ?_⟩
  rw [hR.2.1, h]
  refine i1 (fun M1 e1 => ⟨1242, ?_⟩)
  have lp : ∀ f k M3, k ≤ 1241 → 1241 - k < f → (∀ b j, b ≠ 41 → mI M3 b j = mI M1 b j) → (∀ i, i < k → mI M3 41 i = mI M 55 i) → M3.2 = M1.2 → wp_X6_restore_L20 40 Q f (nI k) M3 := by
    intro f
    induction f with
    | zero => intro k M3 _ h9; omega
    | succ f ih =>
      intro k M3 hk hf hO hV hE
      unfold wp_X6_restore_L20
      refine ⟨fun q M4 e4 => ?_, fun q => ?_⟩
      · have hk1 : 1241 ≤ k := (nI_leI (a := 1241) (by decide) (by omega)).mp q
        have ek : k = 1241 := by omega
        subst ek
        have hF4 : RepF (mI M4 41) F := RepF.ext hF0 (fun k hk => by rw [e4, rd_ne (by omega)]; exact hV k hk) (fun i hi => (hok.2 i hi).1)
        refine q_thereN hF4 (hQ M4 ⟨⟨fun b hb j => ?_, ?_, ?_⟩, hR.cur (F := F) (r := []) hF4 (fun b j hk h1 h2 => by rw [e4, rd_ne (by omega), hO b j h1, e1, rd_ne (by unfold keepR at hk; omega)]) (by rw [e4, rd_eq]; rfl) (fun j hj => absurd hj (Nat.not_lt_zero _)), ?_⟩)
        · rw [e4, rd_ne (by omega), hO b j (by omega), e1, rd_ne (by omega)]
        · show M4.2.1 60 0 = M.2.1 60 0; rw [e4]; show M3.2.1 60 0 = _; rw [hE, e1]; rfl
        · rw [e4]; show M3.2.2 = _; rw [hE, e1]; rfl
        · rw [e4, rd_ne (by omega), hO 40 0 (by decide), e1, rd_eq]; rfl
      · have hk1 : k < 1241 := Nat.not_le.mp (fun z => q ((nI_leI (a := 1241) (by decide) (by omega)).mpr z))
        rw [nC (by omega)]
        refine ⟨rfl, nV (by omega) (by decide), rfl, nV (by omega) (by decide), fun M9 e9 x e => ?_⟩
        rw [show RF 40 26 = 55 from rfl, show RF 40 1 = 41 from rfl, hO 55 _ (by decide), e1, rd_ne (by omega)] at e9
        rw [e, nI_1]
        refine ih (k + 1) M9 (by omega) (by omega) (fun b j h => by rw [e9, rd_ne (by omega)]; rw [hO b j h, e1]) (fun i hi => ?_) (by rw [e9]; exact hE)
        by_cases z : i = k
        · subst z; rw [e9, rd_eq]
        · rw [e9, rd_ne (by omega)]; exact hV i (by omega)
  exact lp 1242 0 M1 (by decide) (by decide) (fun _ _ _ => rfl) (fun i hi => absurd hi (Nat.not_lt_zero _)) rfl
/-- the merged list -/
def MRA (M : MEM) (R : List ITM) : Prop := mI M 40 10 = nI R.length ∧ ∀ k, k < R.length → ∀ p, p < 5 → mI M 47 (5 * k + p) = pt (R.getD k (0, 0, 0, 0, 0)) p
def FrM (M M' : MEM) : Prop := (∀ b j, b ≠ 47 → (b ≠ 40 ∨ j ≠ 10) → mI M' b j = mI M b j) ∧ M'.2 = M.2
theorem FrM.trans {M M1 M2 : MEM} (h1 : FrM M M1) (h2 : FrM M1 M2) : FrM M M2 := ⟨fun b j p q => (h2.1 b j p q).trans (h1.1 b j p q), h2.2.trans h1.2⟩
theorem FrM.R (h : FrM M M') : FrR M M' := ⟨fun b p j => h.1 b j (by omega) (by omega), by show M'.2.1 60 0 = M.2.1 60 0; rw [h.2], by rw [h.2]⟩
theorem FrM.sim (h : FrM M M') (hR : SIMR M G) : SIMR M' G := hR.of (fun b j k => h.1 b j (by unfold keepR at k; omega) (by unfold keepR at k; omega))
theorem FrM.rs (h : FrM M M') (hr : RS M s a nx) : RS M' s a nx := hr.of (fun j => h.1 41 j (by decide) (Or.inl (by decide)))
theorem gdI {R : List ITM} {x : ITM} (k : Nat) : (R ++ [x]).getD k (0, 0, 0, 0, 0) = if k < R.length then R.getD k (0, 0, 0, 0, 0) else if k = R.length then x else (0, 0, 0, 0, 0) := by
  have := it_app (L := R) (x := x) (q := true) (u := (0, 0, 0, 0)) (v := fun _ => 0) k
  exact this
theorem q_comes (hr : RS M s a nx) (ha : sH a = true) {i : Nat} (hi : i < sN a) {R : List ITM} (hM : MRA M R) (hl : R.length < 120) {Q : MEM → Prop} (hQ : ∀ M', MRA M' (R ++ [it a i]) → FrM M M' → Q M') : wp_X6_comes 40 (nI s) (nI i) M Q := by
  refine ⟨rfl, 6, ?_⟩
  have lp : ∀ f q M2, q ≤ 5 → 5 - q < f → FrM M M2 → mI M2 40 10 = nI R.length → (∀ k, k < R.length → ∀ p, p < 5 → mI M2 47 (5 * k + p) = pt (R.getD k (0, 0, 0, 0, 0)) p) → (∀ p, p < q → mI M2 47 (5 * R.length + p) = pt (it a i) p) → wp_X6_comes_L2 40 (nI s) (nI i) Q f (nI q) M2 := by
    intro f
    induction f with
    | zero => intro q M2 _ h9; omega
    | succ f ih =>
      intro q M2 hq hf hF h10 hA hB
      unfold wp_X6_comes_L2
      rw [n5, nI_leI (by omega) (by omega)]
      refine ⟨fun c M3 e3 => ?_, fun c => q_item (hF.rs hr) ha hi (by omega) ?_⟩
      · rw [h10, nI_1] at e3
        refine hQ M3 ⟨by rw [e3, rd_eq, List.length_append]; rfl, fun k hk p hp => ?_⟩ (hF.trans ⟨fun b j h1 h2 => by rw [e3, rd_ne (by omega)], by rw [e3]; rfl⟩)
        rw [List.length_append] at hk
        have hk' : k < R.length + 1 := hk
        rw [e3, rd_ne (by omega), gdI]
        by_cases c2 : k < R.length
        · rw [if_pos c2]; exact hA k c2 p hp
        · rw [if_neg c2, if_pos (by omega), show k = R.length by omega]; exact hB p (by omega)
      · rw [h10, nM, nA]
        refine ⟨rfl, nV (by omega) (by decide), fun M8 e8 x e => ?_⟩
        rw [nC (by omega), show RF 40 9 = 47 from rfl] at e8
        rw [e, n1, nA]
        refine ih (q + 1) M8 (by omega) (by omega) (hF.trans ⟨fun b j h1 h2 => by rw [e8, rd_ne (by omega)], by rw [e8]; rfl⟩) (by rw [e8, rd_ne (by omega)]; exact h10) (fun k hk p hp => by rw [e8, rd_ne (by omega)]; exact hA k hk p hp) (fun p hp => ?_)
        by_cases c2 : p = q
        · subst c2; rw [e8, rd_eq]
        · rw [e8, rd_ne (by omega)]; exact hB p (by omega)
  exact lp 6 0 M (by decide) (by decide) ⟨fun _ _ _ _ => rfl, rfl⟩ hM.1 hM.2 (fun p hp => absurd hp (Nat.not_lt_zero _))
theorem mrg_nil1 (t : List ITM) : mrg [] t = t := by rw [mrg]
theorem mrg_step {x y : ITM} {g t : List ITM} (h : x.1 = y.1) (hg : ∀ z ∈ g, x.1 < z.1) : mrg (x :: g) (y :: t) = y :: mrg g t := by
  rw [mrg_eq h]
  cases g with
  | nil => rw [mrg_nil1, mrg_nil1]
  | cons z g => exact mrg_gt (by have := hg z List.mem_cons_self; omega)
theorem q_merges (hr : RS M s a nx) (hr2 : RS M t b nx2) (ha : sH a = true) (hb : sH b = true) {Q : MEM → Prop} (hQ : ∀ M', MRA M' (mrg (sL a) (sL b)) → FrM M M' → Q M') : wp_X6_merges 40 (nI s) (nI t) M Q := by
  have hna := hr.n
  have hnb := hr2.n
  refine ⟨rfl, fun M1 em => ⟨sN a + sN b + 1, ?_⟩⟩
  have F1 : FrM M M1 := ⟨fun b j h1 h2 => by rw [em, rd_ne (by omega)], by rw [em]; rfl⟩
  have lp : ∀ f i j M4 R, i ≤ sN a → j ≤ sN b → (sN a - i) + (sN b - j) < f → R.length ≤ i + j → FrM M M4 → MRA M4 R → R ++ mrg ((sL a).drop i) ((sL b).drop j) = mrg (sL a) (sL b) → wp_X6_merges_L10 40 (nI s) (nI t) Q f (nI i) (nI j) M4 := by
    intro f
    induction f with
    | zero => intro i j M4 R _ _ h9; omega
    | succ f ih =>
      intro i j M4 R hi hj hf hlR hF hM hmr
      have r4 := hF.rs hr
      have r42 := hF.rs hr2
      -- what comes next out of the other list, the own one
      have own : ∀ i', i' ≤ sN a → i ≤ i' → j < sN b → R ++ [it b j] ++ mrg ((sL a).drop i') ((sL b).drop (j + 1)) = mrg (sL a) (sL b) → wp_X6_merges_J108 40 (nI s) (nI t) (wp_X6_merges_L10 40 (nI s) (nI t) Q f) (nI j) M4 1 (nI i') := fun i' h1 h2 h3 h4 => by
        refine e1 (q_comes r42 hb h3 hM (by omega) (fun M5 hM5 F5 => e1 ?_))
        refine fun x e => e1 (fun y e2 => ?_)
        rw [e, e2, n0, n1, nA, nA, Nat.add_zero]
        exact ih i' (j + 1) M5 _ h1 (by omega) (by omega) (by rw [List.length_append]; show R.length + 1 ≤ _; omega) (hF.trans F5) hM5 h4
      have other : i < sN a → R ++ [it a i] ++ mrg ((sL a).drop (i + 1)) ((sL b).drop j) = mrg (sL a) (sL b) → wp_X6_merges_J70 40 (nI s) (nI t) (wp_X6_merges_L10 40 (nI s) (nI t) Q f) (nI i) (nI j) M4 := fun h1 h4 => by
        refine e0 (e0 (q_comes r4 ha h1 hM (by omega) (fun M5 hM5 F5 => e0 ?_)))
        refine fun x e => e0 (fun y e2 => ?_)
        rw [e, e2, n0, n1, nA, nA, Nat.add_zero]
        exact ih (i + 1) j M5 _ (by omega) hj (by omega) (by rw [List.length_append]; show R.length + 1 ≤ _; omega) (hF.trans F5) hM5 h4
      have body : (i < sN a ∨ j < sN b) → wp_X6_merges_J29 40 (nI s) (nI t) (wp_X6_merges_L10 40 (nI s) (nI t) Q f) (nI i) (nI j) M4 := fun hor => by
        refine q_many r4 ha ?_
        rw [nI_eq (by omega) (by omega)]
        refine ⟨fun c => ?_, fun c => q_many r42 hb ?_⟩
        · -- the own one alone is left
          have hj' : j < sN b := by omega
          refine e1 (q_many r4 ha ⟨fun _ => own i hi (Nat.le_refl _) hj' ?_, fun w => absurd (nI_le (by omega) (by omega)) w⟩)
          rw [← hmr, drop_all (a := a) (by omega), mrg_nil1, mrg_nil1, drop_it hj', List.append_assoc]; rfl
        · have hi' : i < sN a := by omega
          rw [nI_leI (by omega) (by omega)]
          refine ⟨fun c2 => other hi' ?_, fun c2 => ?_⟩
          · rw [← hmr, drop_all (a := b) (by omega), mrg_nil, mrg_nil, drop_it hi', List.append_assoc]; rfl
          · have hj' : j < sN b := by omega
            have m1 : nmA a i < 1100000 := hr.num i
            have m2 : nmA b j < 1100000 := hr2.num j
            refine q_item r42 hb (p := 0) hj' (by decide) (q_item r4 ha (p := 0) hi' (by decide) ?_)
            show (nI (nmA a i) < nI (nmA b j) → _) ∧ (¬ nI (nmA a i) < nI (nmA b j) → _)
            rw [nI_ltI (by omega) (by omega)]
            refine ⟨fun c3 => other hi' ?_, fun c3 => e1 (q_many r4 ha ⟨fun w => absurd w (nI_ge hi' (by omega)), fun _ => q_item r42 hb (p := 0) hj' (by decide) (q_item r4 ha (p := 0) hi' (by decide) ?_)⟩)⟩
            · rw [← hmr, drop_it hi', drop_it hj', mrg_lt c3, List.append_assoc]; rfl
            · show (¬ nI (nmA b j) = nI (nmA a i) → _) ∧ (nI (nmA b j) = nI (nmA a i) → _)
              rw [nI_eq (by omega) (by omega)]
              refine ⟨fun c4 => own i hi (Nat.le_refl _) hj' ?_, fun c4 x e => ?_⟩
              · have h5 : nmA b j < nmA a i := by omega
                rw [← hmr, drop_it hi', drop_it hj', mrg_gt h5, List.append_assoc]; rfl
              · rw [e, n1, nA]
                refine own (i + 1) (by omega) (Nat.le_succ _) hj' ?_
                have hasc := hr.2.1.asc
                have hgt : ∀ z ∈ (sL a).drop (i + 1), (it a i).1 < z.1 := fun z hz => by
                  have h6 : asc ((sL a).drop i) := List.Pairwise.sublist (List.drop_sublist i (sL a)) hasc
                  rw [drop_it hi'] at h6
                  exact (asc_cons h6).1 z hz
                rw [← hmr, drop_it hi', drop_it hj', mrg_step c4.symm hgt, List.append_assoc]; rfl
      unfold wp_X6_merges_L10
      refine q_many r4 ha ⟨fun c => body (Or.inl ((nI_ltI (by omega) (by omega)).mp c)), fun c => q_many r42 hb ⟨fun c2 => ?_, fun c2 => body (Or.inr (Nat.not_le.mp (fun z => c2 (nI_le z (by omega)))))⟩⟩
      have hi' : sN a ≤ i := Nat.not_lt.mp (fun z => c (nI_lt z (by omega)))
      have hj' : sN b ≤ j := (nI_leI (by omega) (by omega)).mp c2
      rw [drop_all hi', drop_all hj', mrg_nil1, List.append_nil] at hmr
      rw [hmr] at hM
      exact hQ M4 hM hF
  refine lp _ 0 0 M1 [] (Nat.zero_le _) (Nat.zero_le _) (by omega) (Nat.zero_le _) F1 ⟨by rw [em, rd_eq]; rfl, fun k hk => absurd hk (Nat.not_lt_zero _)⟩ ?_
  rw [List.nil_append, List.drop_zero, List.drop_zero]
end PR8
