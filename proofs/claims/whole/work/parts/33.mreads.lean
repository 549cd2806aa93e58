/-! ===== the model reads a statement ===== -/
def xfn (M M' : xM) : Prop := (∀ o, o ≠ xN 9 → o ≠ xN 2 → M' o = M o) ∧ ∀ k, k ≠ 10 → M' (xN 2) k = M (xN 2) k
theorem xfn.rf {M : xM} : xfn M M := ⟨fun _ _ _ => rfl, fun _ _ => rfl⟩
theorem xfn.tr {M M1 M2 : xM} (h : xfn M M1) (g : xfn M1 M2) : xfn M M2 := ⟨fun o a b => (g.1 o a b).trans (h.1 o a b), fun k a => (g.2 k a).trans (h.2 k a)⟩
theorem xN_ne {c d : Nat} (h : d ≠ c) : xN d ≠ xN c := fun e => h (Sum.inr.inj (Sum.inr.inj (Sum.inr.inj e)))
theorem xfn.up {M M1 : xM} (h : xfn M M1) (v : Int32) : xfn M (xup M1 (xN 2) 10 v) := ⟨fun o a b => (xup_n b _ _).trans (h.1 o a b), fun k a => by rw [xup_s, upd_n _ a]; exact h.2 k a⟩
theorem xfn.un {M M1 : xM} (h : xfn M M1) (k : Nat) (v : Int32) : xfn M (xup M1 (xN 9) k v) := ⟨fun o a b => (xup_n a _ _).trans (h.1 o a b), fun k a => by rw [xup_N (by omega)]; exact h.2 k a⟩
section XMR
variable {R : xR} {L : Nat} {le : Nat → Int32}
theorem xLm.f {M M' : xM} (h : xLm M L le) (hF : xfn M M') : xLm M' L le := ⟨by rw [hF.2 8 (by omega)]; exact h.1, fun j hj => by rw [hF.1 (xN 6) (xN_ne (by omega)) (xN_ne (by omega))]; exact h.2 j hj⟩
theorem c3_here {M : xM} (i : Nat) (hi : i < 2 ^ 30) (hv : xLv L le) (hL : xLm M L le) (hp : M (xN 2) 10 = nI i) (hk : R (some (xi (aAt L le i))) M) : xWP pg_X3_here 0 ([some (xo (xN 2))], [], M) R := by
  have h96 := hv.1
  unfold aAt at hk
  refine xgo [19] 100 ⟨fun z => ⟨trivial, ?_⟩, fun z => ?_⟩
  · rw [hL.1, hp] at z
    rw [if_neg (fun w => absurd z (nI_ge w (by omega)))] at hk
    exact hk
  · rw [hL.1, hp] at z
    have hlt : i < L := Nat.lt_of_not_le (fun w => z (nI_le w (by omega)))
    rw [if_pos hlt] at hk
    show xWP pg_X3_here 19 ([some (xo (xN 2))], [xi (M (xN 2) 10), xo (xN 6)], M) R
    rw [hp]
    refine xgo [] 100 ⟨vp_in_nI (show i < 96 by omega) (by omega), trivial, ?_⟩
    rw [nI_clamp (by omega), hL.2 i hlt]
    exact hk
theorem l3_rn {M : xM} (k : Nat) (hk3 : k < 3) (d n i : Nat) (hn : n < d) (hd : d < 10) (hi : i < 2 ^ 20) (hv : xLv L le) (hL : xLm M L le) (hp : M (xN 2) 10 = nI i) (h1 : aDg L le i → ∀ M', xfn M M' → M' (xN 2) 10 = nI (i + 1) → M' (xN 9) k = 10 * M (xN 9) k + aAt L le i - 48 → (∀ k', k' ≠ k → M' (xN 9) k' = M (xN 9) k') → xWP pg_X3_readsNumber 9 ([some (xo (xN 2)), some (xi (nI k)), some (xi (nI d)), some (xi (nI (n + 1)))], [], M') R) (h2 : ¬ aDg L le i → R (some (xi 0)) M) : xWP pg_X3_readsNumber 9 ([some (xo (xN 2)), some (xi (nI k)), some (xi (nI d)), some (xi (nI n))], [], M) R := by
  refine xgo [9] 100 ⟨fun z => absurd z (nI_ge hn (by omega)), fun _ => ⟨rfl, c3_here i (by omega) hv hL hp ⟨rfl, c3_isIn _ 48 57 (fun e => ⟨fun z => absurd z (by decide), fun _ => ?_⟩) (fun e => ⟨fun _ => ⟨Or.inl rfl, h2 e⟩, fun z => absurd rfl z⟩)⟩⟩⟩
  refine ⟨vp_in_nI (n := k) (N := 3) hk3 (by omega), rfl, c3_here i (by omega) hv hL hp ⟨vp_in_nI (n := k) (N := 3) hk3 (by omega), ?_⟩⟩
  rw [nI_clamp (show k < 2 ^ 31 by omega)]
  show xWP pg_X3_readsNumber 9 ([some (xo (xN 2)), some (xi (nI k)), some (xi (nI d)), some (xi (nI n + 1))], [], xup (xup M (xN 9) k (10 * M (xN 9) k + aAt L le i - 48)) (xN 2) 10 (xup M (xN 9) k (10 * M (xN 9) k + aAt L le i - 48) (xN 2) 10 + 1)) R
  rw [nI_1, xup_N (show 2 ≠ 9 by omega), hp, nI_1]
  refine h1 e _ ((xfn.rf.un _ _).up _) (by rw [xup_s, upd_s]) (by rw [xup_N (by omega), xup_s, upd_s]) (fun k' h' => by rw [xup_N (by omega), xup_s, upd_n _ h'])
theorem d1_eq (c : Int32) : 10 * 0 + c - 48 = c - 48 := by rw [Int32.mul_zero, Int32.zero_add]
theorem d2_eq (c d : Int32) : 10 * (c - 48) + d - 48 = 10 * (c - 48) + (d - 48) := by rw [Int32.sub_eq_add_neg, Int32.sub_eq_add_neg, Int32.sub_eq_add_neg, Int32.add_assoc]
theorem c3_rn1 {M : xM} (k : Nat) (hk3 : k < 3) (i : Nat) (hi : i < 2 ^ 20) (hv : xLv L le) (hL : xLm M L le) (hp : M (xN 2) 10 = nI i) (h1 : aDg L le i → ∀ M', xfn M M' → M' (xN 2) 10 = nI (i + 1) → M' (xN 9) k = aAt L le i - 48 → (∀ k', k' ≠ k → M' (xN 9) k' = M (xN 9) k') → R (some (xi 1)) M') (h2 : ¬ aDg L le i → ∀ M', xfn M M' → M' (xN 2) 10 = nI i → R (some (xi 0)) M') : xWP pg_X3_readsNumber 0 ([some (xo (xN 2)), some (xi (nI k)), some (xi 1), none], [], M) R := by
  refine xgo [9] 100 ⟨vp_in_nI (n := k) (N := 3) hk3 (by omega), ?_⟩
  rw [nI_clamp (show k < 2 ^ 31 by omega)]
  have hF1 : xfn M (xup M (xN 9) k 0) := xfn.rf.un _ _
  refine l3_rn (M := xup M (xN 9) k 0) k hk3 1 0 i (by omega) (by omega) hi hv (hL.f hF1) (by rw [xup_N (by omega)]; exact hp) (fun e M1 hF2 hp2 hn2 ho2 => ?_) (fun e => h2 e _ hF1 (by rw [xup_N (by omega)]; exact hp))
  rw [xup_s, upd_s, d1_eq] at hn2
  refine xgo [] 100 ⟨fun _ => ⟨Or.inr rfl, h1 e M1 (hF1.tr hF2) hp2 hn2 (fun k' h' => ?_)⟩, fun z => absurd (nI_le (a := 1) (b := 1) (by omega) (by omega)) z⟩
  rw [ho2 k' h', xup_s, upd_n _ h']
theorem c3_rn2 {M : xM} (k : Nat) (hk3 : k < 3) (i : Nat) (hi : i + 1 < 2 ^ 20) (hv : xLv L le) (hL : xLm M L le) (hp : M (xN 2) 10 = nI i) (h1 : aDg L le i → aDg L le (i + 1) → ∀ M', xfn M M' → M' (xN 2) 10 = nI (i + 2) → M' (xN 9) k = 10 * (aAt L le i - 48) + (aAt L le (i + 1) - 48) → (∀ k', k' ≠ k → M' (xN 9) k' = M (xN 9) k') → R (some (xi 1)) M') (h2 : ¬ aDg L le i → ∀ M', xfn M M' → M' (xN 2) 10 = nI i → R (some (xi 0)) M') (h3 : aDg L le i → ¬ aDg L le (i + 1) → ∀ M', xfn M M' → M' (xN 2) 10 = nI (i + 1) → R (some (xi 0)) M') : xWP pg_X3_readsNumber 0 ([some (xo (xN 2)), some (xi (nI k)), some (xi 2), none], [], M) R := by
  refine xgo [9] 100 ⟨vp_in_nI (n := k) (N := 3) hk3 (by omega), ?_⟩
  rw [nI_clamp (show k < 2 ^ 31 by omega)]
  have hF1 : xfn M (xup M (xN 9) k 0) := xfn.rf.un _ _
  refine l3_rn (M := xup M (xN 9) k 0) k hk3 2 0 i (by omega) (by omega) (by omega) hv (hL.f hF1) (by rw [xup_N (by omega)]; exact hp) (fun e M1 hF2 hp2 hn2 ho2 => ?_) (fun e => h2 e _ hF1 (by rw [xup_N (by omega)]; exact hp))
  rw [xup_s, upd_s, d1_eq] at hn2
  have hF3 := hF1.tr hF2
  refine l3_rn (M := M1) k hk3 2 1 (i + 1) (by omega) (by omega) (by omega) hv (hL.f hF3) hp2 (fun e' M2 hF4 hp4 hn4 ho4 => ?_) (fun e' => h3 e e' _ hF3 hp2)
  rw [hn2, d2_eq] at hn4
  refine xgo [] 100 ⟨fun _ => ⟨Or.inr rfl, h1 e e' M2 (hF3.tr hF4) hp4 hn4 (fun k' h' => ?_)⟩, fun z => absurd (nI_le (a := 2) (b := 2) (by omega) (by omega)) z⟩
  rw [ho4 k' h', ho2 k' h', xup_s, upd_n _ h']
theorem c3_kindBy {M : xM} (c : Int32) (hk : R (some (xi (aKd (-9) c))) M) : xWP pg_X3_kindBy 0 ([some (xi c)], [], M) R :=
  xgo [] 100 ⟨fun e => ⟨trivial, by rw [e, show aKd (-9) 108 = 5 from by decide] at hk; exact hk⟩, fun n108 => ⟨fun e => ⟨trivial, by rw [e, show aKd (-9) 109 = 3 from by decide] at hk; exact hk⟩, fun n109 => ⟨fun e => ⟨trivial, by rw [e, show aKd (-9) 110 = (-9) from by decide] at hk; exact hk⟩, fun n110 => ⟨fun e => ⟨trivial, by rw [e, show aKd (-9) 111 = (-9) from by decide] at hk; exact hk⟩, fun n111 => ⟨fun e => ⟨trivial, by rw [e, show aKd (-9) 112 = 0 from by decide] at hk; exact hk⟩, fun n112 => ⟨fun e => ⟨trivial, by rw [e, show aKd (-9) 113 = (-9) from by decide] at hk; exact hk⟩, fun n113 => ⟨fun e => ⟨trivial, by rw [e, show aKd (-9) 114 = (-9) from by decide] at hk; exact hk⟩, fun n114 => ⟨fun e => ⟨trivial, by rw [e, show aKd (-9) 115 = 2 from by decide] at hk; exact hk⟩, fun n115 => ⟨fun e => ⟨trivial, by rw [e, show aKd (-9) 116 = 4 from by decide] at hk; exact hk⟩, fun n116 => ⟨fun e => ⟨trivial, by rw [e, show aKd (-9) 117 = (-9) from by decide] at hk; exact hk⟩, fun n117 => ⟨fun e => ⟨trivial, by rw [e, show aKd (-9) 118 = (-9) from by decide] at hk; exact hk⟩, fun n118 => ⟨fun e => ⟨trivial, by rw [e, show aKd (-9) 119 = 1 from by decide] at hk; exact hk⟩, fun n119 => ⟨trivial, by rw [show aKd (-9) c = -9 from by unfold aKd; rw [if_neg n112, if_neg n119, if_neg n115, if_neg n109, if_neg n116, if_neg n108]] at hk; exact hk⟩⟩⟩⟩⟩⟩⟩⟩⟩⟩⟩⟩⟩
theorem aKd_19 (c : Int32) : (0 ≤ aKd (-1) c ∧ aKd (-9) c = aKd (-1) c ∧ ∃ k, k ≤ 5 ∧ aKd (-1) c = nI k) ∨ (¬ 0 ≤ aKd (-1) c ∧ aKd (-9) c = -9) := by
  unfold aKd
  by_cases h : c = 112
  · rw [if_pos h, if_pos h]; exact Or.inl ⟨by decide, rfl, 0, by omega, rfl⟩
  rw [if_neg h, if_neg h]
  by_cases h : c = 119
  · rw [if_pos h, if_pos h]; exact Or.inl ⟨by decide, rfl, 1, by omega, rfl⟩
  rw [if_neg h, if_neg h]
  by_cases h : c = 115
  · rw [if_pos h, if_pos h]; exact Or.inl ⟨by decide, rfl, 2, by omega, rfl⟩
  rw [if_neg h, if_neg h]
  by_cases h : c = 109
  · rw [if_pos h, if_pos h]; exact Or.inl ⟨by decide, rfl, 3, by omega, rfl⟩
  rw [if_neg h, if_neg h]
  by_cases h : c = 116
  · rw [if_pos h, if_pos h]; exact Or.inl ⟨by decide, rfl, 4, by omega, rfl⟩
  rw [if_neg h, if_neg h]
  by_cases h : c = 108
  · rw [if_pos h, if_pos h]; exact Or.inl ⟨by decide, rfl, 5, by omega, rfl⟩
  rw [if_neg h, if_neg h]
  exact Or.inr ⟨by decide, rfl⟩
theorem c3_readsKind {M : xM} (i : Nat) (hi : i < 2 ^ 20) (hv : xLv L le) (hL : xLm M L le) (hp : M (xN 2) 10 = nI i) (h1 : 0 ≤ aKd (-1) (aAt L le i) → ∀ M', xfn M M' → M' (xN 2) 10 = nI (i + 1) → M' (xN 9) 0 = aKd (-1) (aAt L le i) → R (some (xi 1)) M') (h2 : ¬ 0 ≤ aKd (-1) (aAt L le i) → ∀ M', xfn M M' → M' (xN 2) 10 = nI i → R (some (xi 0)) M') : xWP pg_X3_readsKind 0 ([some (xo (xN 2))], [], M) R := by
  refine xgo [13] 100 ⟨rfl, c3_here i (by omega) hv hL hp ⟨rfl, c3_kindBy _ ⟨vp_in_nI (n := 0) (N := 3) (by omega) (by omega), ?_⟩⟩⟩
  have hF1 : xfn M (xup M (xN 9) 0 (aKd (-9) (aAt L le i))) := xfn.rf.un _ _
  have hp1 : xup M (xN 9) 0 (aKd (-9) (aAt L le i)) (xN 2) 10 = nI i := by rw [xup_N (by omega)]; exact hp
  have hn1 : xup M (xN 9) 0 (aKd (-9) (aAt L le i)) (xN 9) 0 = aKd (-9) (aAt L le i) := by rw [xup_s, upd_s]
  show xWP pg_X3_readsKind 13 ([some (xo (xN 2))], [], xup M (xN 9) 0 (aKd (-9) (aAt L le i))) R
  generalize xup M (xN 9) 0 (aKd (-9) (aAt L le i)) = M1 at hF1 hp1 hn1
  have n0 : M1 (xN 9) (Int32.toNatClampNeg 0) = aKd (-9) (aAt L le i) := hn1
  refine xgo [36] 100 ⟨vp_in_nI (n := 0) (N := 3) (by omega) (by omega), ?_⟩
  rw [n0, hp1]
  have fin : ∀ j, xfn M (xup M1 (xN 2) 10 (nI j)) ∧ xup M1 (xN 2) 10 (nI j) (xN 2) 10 = nI j ∧ xup M1 (xN 2) 10 (nI j) (xN 9) 0 = aKd (-9) (aAt L le i) := fun j => ⟨hF1.up _, by rw [xup_s, upd_s], by rw [xup_N (by omega)]; exact hn1⟩
  rcases aKd_19 (aAt L le i) with ⟨a, b, -⟩ | ⟨a, b⟩
  · refine ⟨fun _ => ?_, fun z => absurd (by rw [b]; exact a) z⟩
    show xWP pg_X3_readsKind 36 ([some (xo (xN 2))], [], xup M1 (xN 2) 10 (nI i + 1)) R
    rw [nI_1]
    obtain ⟨f1, f2, f3⟩ := fin (i + 1)
    generalize xup M1 (xN 2) 10 (nI (i + 1)) = M2 at f1 f2 f3
    have n2 : M2 (xN 9) (Int32.toNatClampNeg 0) = aKd (-9) (aAt L le i) := f3
    refine xgo [] 100 ⟨vp_in_nI (n := 0) (N := 3) (by omega) (by omega), ?_⟩
    rw [n2, b]
    exact ⟨fun z => absurd a (Int32.not_le.mpr z), fun _ => ⟨Or.inr rfl, h1 a M2 f1 f2 (f3.trans b)⟩⟩
  · refine ⟨fun z => absurd z (by rw [b]; decide), fun _ => ?_⟩
    show xWP pg_X3_readsKind 36 ([some (xo (xN 2))], [], xup M1 (xN 2) 10 (nI i + 0)) R
    rw [Int32.add_zero]
    obtain ⟨f1, f2, f3⟩ := fin i
    generalize xup M1 (xN 2) 10 (nI i) = M2 at f1 f2 f3
    have n2 : M2 (xN 9) (Int32.toNatClampNeg 0) = aKd (-9) (aAt L le i) := f3
    refine xgo [] 100 ⟨vp_in_nI (n := 0) (N := 3) (by omega) (by omega), ?_⟩
    rw [n2, b]
    exact ⟨fun _ => ⟨Or.inl rfl, h2 a M2 f1 f2⟩, fun z => absurd (by decide) z⟩
def aNb (L : Nat) (le : Nat → Int32) (i : Nat) (N : Nat → Int32) : Prop :=
  (aAt L le i = 112 → N 0 = aKd (-1) (aAt L le (i + 1)) ∧ N 1 = aAt L le (i + 2) - 48 ∧ N 2 = aAt L le (i + 3) - 48) ∧
  (aAt L le i = 102 → N 0 = aAt L le (i + 1) - 48 ∧ N 1 = aAt L le (i + 2) - 48) ∧
  (aAt L le i = 103 → N 0 = aAt L le (i + 1) - 48 ∧ N 1 = 10 * (aAt L le (i + 2) - 48) + (aAt L le (i + 3) - 48)) ∧
  (aAt L le i = 119 ∨ aAt L le i = 108 ∨ aAt L le i = 104 → N 0 = 10 * (aAt L le (i + 1) - 48) + (aAt L le (i + 2) - 48)) ∧
  (aAt L le i = 115 → N 0 = aAt L le (i + 1) - 48)
theorem l3_end {M0 M : xM} (c : Int32) (i j q k : Nat) (hj : j < 2 ^ 20) (hv : xLv L le) (hL : xLm M L le) (hp : M (xN 2) 10 = nI j) (hF : xfn M0 M) (hb : aBy q k = 59) (hs : aSt L le i = aRd L le q 1 k j) (h1 : ∀ M', aSt L le i = (j + 1, true) → xfn M0 M' → M' (xN 2) 10 = nI (j + 1) → M' (xN 9) = M (xN 9) → R (some (xi 1)) M') (h0 : ∀ M' j, aSt L le i = (j, false) → xfn M0 M' → M' (xN 2) 10 = nI j → R (some (xi 0)) M') : xWP pg_X3_readsStatement 224 ([some (xo (xN 2)), some (xi c), some (xi 1)], [], M) R := by
  refine xgo [239] 100 ⟨fun z => absurd z (by decide), fun _ => ⟨rfl, c3_here j (by omega) hv hL hp ⟨fun e => ?_, fun e => ⟨Or.inl rfl, h0 M j (hs.trans (aRd_n (by rw [hb, aFt_s]; exact e))) hF hp⟩⟩⟩⟩
  have hy : aFt (aBy q k) (aAt L le j) := by rw [hb, aFt_s]; exact e
  have hs' : aSt L le i = (j + 1, true) := hs.trans (aRd_y hy)
  refine xgo [249] 100 ?_
  show xWP pg_X3_readsStatement 249 ([some (xo (xN 2)), some (xi c), some (xi 1)], [], xup M (xN 2) 10 (M (xN 2) 10 + 1)) R
  rw [hp, nI_1]
  exact xgo [] 100 ⟨Or.inr rfl, h1 _ hs' (hF.up _) (by rw [xup_s, upd_s]) (xup_N (by omega) _ _)⟩
theorem l3_no {M0 M : xM} (c : Int32) (i j : Nat) (hp : M (xN 2) 10 = nI j) (hF : xfn M0 M) (hs : aSt L le i = (j, false)) (h0 : ∀ M' j, aSt L le i = (j, false) → xfn M0 M' → M' (xN 2) 10 = nI j → R (some (xi 0)) M') : xWP pg_X3_readsStatement 224 ([some (xo (xN 2)), some (xi c), some (xi 0)], [], M) R :=
  xgo [] 100 ⟨fun _ => ⟨Or.inl rfl, h0 M j hs hF hp⟩, fun z => absurd rfl z⟩
theorem l3_rs_p {M0 M : xM} (i : Nat) (hi : i + 10 < 2 ^ 20) (hv : xLv L le) (hL0 : xLm M0 L le) (h1 : ∀ M' j, aSt L le i = (j, true) → xfn M0 M' → M' (xN 2) 10 = nI j → aNb L le i (M' (xN 9)) → R (some (xi 1)) M') (h0 : ∀ M' j, aSt L le i = (j, false) → xfn M0 M' → M' (xN 2) 10 = nI j → R (some (xi 0)) M') (hc : aAt L le i = 112) (hF : xfn M0 M) (hp : M (xN 2) 10 = nI (i + 1)) : xWP pg_X3_readsStatement 104 ([some (xo (xN 2)), some (xi 112), none], [], M) R := by
  have hs : aSt L le i = aRd L le 0 4 0 (i + 1) := aSt_s hc (by decide) (by decide)
  have hL := hL0.f hF
  refine xgo [133, 224] 100 ⟨rfl, c3_readsKind (i + 1) (by omega) hv hL hp (fun e0 M1 F1 p1 n1 => ⟨fun z => absurd z (by decide), fun _ => ⟨rfl, c3_rn1 1 (by omega) (i + 2) (by omega) hv (hL.f F1) p1 (fun e1 M2 F2 p2 n2 o2 => ⟨fun z => absurd z (by decide), fun _ => ⟨rfl, c3_rn1 2 (by omega) (i + 3) (by omega) hv ((hL.f F1).f F2) p2 (fun e2 M3 F3 p3 n3 o3 => ⟨fun z => absurd z (by decide), fun _ => ?_⟩) (fun e2 M3 F3 p3 => ⟨fun _ => ?_, fun z => absurd rfl z⟩)⟩⟩) (fun e1 M2 F2 p2 => ⟨fun _ => ?_, fun z => absurd rfl z⟩)⟩⟩) (fun e0 M1 F1 p1 => ⟨fun _ => ?_, fun z => absurd rfl z⟩)⟩
  · have s1 := hs.trans (aRd_y (show aFt 107 _ from by rw [aFt_k]; exact e0))
    have s2 := s1.trans (aRd_y (show aFt 100 _ from by rw [aFt_d]; exact e1))
    have s3 := s2.trans (aRd_y (show aFt 100 _ from by rw [aFt_d]; exact e2))
    refine l3_end (M0 := M0) 112 i (i + 4) 0 3 (by omega) hv (((hL.f F1).f F2).f F3) p3 (((hF.tr F1).tr F2).tr F3) rfl s3 (fun M' hs' F' p' n' => h1 M' _ hs' F' p' ?_) h0
    rw [n']
    exact ⟨fun _ => ⟨by rw [o3 0 (by omega), o2 0 (by omega)]; exact n1, by rw [o3 1 (by omega)]; exact n2, n3⟩, fun z => absurd (hc.symm.trans z) (by decide), fun z => absurd (hc.symm.trans z) (by decide), fun z => by rcases z with z | z | z <;> exact absurd (hc.symm.trans z) (by decide), fun z => absurd (hc.symm.trans z) (by decide)⟩
  · have s1 := hs.trans (aRd_y (show aFt 107 _ from by rw [aFt_k]; exact e0))
    have s2 := s1.trans (aRd_y (show aFt 100 _ from by rw [aFt_d]; exact e1))
    exact xgo [224] 100 (l3_no (M0 := M0) 112 i (i + 3) p3 (((hF.tr F1).tr F2).tr F3) (s2.trans (aRd_n (show ¬ aFt 100 _ from by rw [aFt_d]; exact e2))) h0)
  · have s1 := hs.trans (aRd_y (show aFt 107 _ from by rw [aFt_k]; exact e0))
    exact xgo [224] 100 (l3_no (M0 := M0) 112 i (i + 2) p2 ((hF.tr F1).tr F2) (s1.trans (aRd_n (show ¬ aFt 100 _ from by rw [aFt_d]; exact e1))) h0)
  · exact xgo [224] 100 (l3_no (M0 := M0) 112 i (i + 1) p1 (hF.tr F1) (hs.trans (aRd_n (show ¬ aFt 107 _ from by rw [aFt_k]; exact e0))) h0)
theorem l3_rs_f {M0 M : xM} (i : Nat) (hi : i + 10 < 2 ^ 20) (hv : xLv L le) (hL0 : xLm M0 L le) (h1 : ∀ M' j, aSt L le i = (j, true) → xfn M0 M' → M' (xN 2) 10 = nI j → aNb L le i (M' (xN 9)) → R (some (xi 1)) M') (h0 : ∀ M' j, aSt L le i = (j, false) → xfn M0 M' → M' (xN 2) 10 = nI j → R (some (xi 0)) M') (hc : aAt L le i = 102) (hF : xfn M0 M) (hp : M (xN 2) 10 = nI (i + 1)) : xWP pg_X3_readsStatement 138 ([some (xo (xN 2)), some (xi 102), none], [], M) R := by
  have hs : aSt L le i = aRd L le 1 3 0 (i + 1) := aSt_s hc (by decide) (by decide)
  have hL := hL0.f hF
  refine xgo [160, 224] 100 ⟨rfl, c3_rn1 0 (by omega) (i + 1) (by omega) hv hL hp (fun e0 M1 F1 p1 n1 o1 => ⟨fun z => absurd z (by decide), fun _ => ⟨rfl, c3_rn1 1 (by omega) (i + 2) (by omega) hv (hL.f F1) p1 (fun e1 M2 F2 p2 n2 o2 => ⟨fun z => absurd z (by decide), fun _ => ?_⟩) (fun e1 M2 F2 p2 => ⟨fun _ => ?_, fun z => absurd rfl z⟩)⟩⟩) (fun e0 M1 F1 p1 => ⟨fun _ => ?_, fun z => absurd rfl z⟩)⟩
  · have s1 := hs.trans (aRd_y (show aFt 100 _ from by rw [aFt_d]; exact e0))
    have s2 := s1.trans (aRd_y (show aFt 100 _ from by rw [aFt_d]; exact e1))
    refine l3_end (M0 := M0) 102 i (i + 3) 1 2 (by omega) hv ((hL.f F1).f F2) p2 ((hF.tr F1).tr F2) rfl s2 (fun M' hs' F' p' n' => h1 M' _ hs' F' p' ?_) h0
    rw [n']
    exact ⟨fun z => absurd (hc.symm.trans z) (by decide), fun _ => ⟨by rw [o2 0 (by omega)]; exact n1, n2⟩, fun z => absurd (hc.symm.trans z) (by decide), fun z => by rcases z with z | z | z <;> exact absurd (hc.symm.trans z) (by decide), fun z => absurd (hc.symm.trans z) (by decide)⟩
  · have s1 := hs.trans (aRd_y (show aFt 100 _ from by rw [aFt_d]; exact e0))
    exact xgo [224] 100 (l3_no (M0 := M0) 102 i (i + 2) p2 ((hF.tr F1).tr F2) (s1.trans (aRd_n (show ¬ aFt 100 _ from by rw [aFt_d]; exact e1))) h0)
  · exact xgo [224] 100 (l3_no (M0 := M0) 102 i (i + 1) p1 (hF.tr F1) (hs.trans (aRd_n (show ¬ aFt 100 _ from by rw [aFt_d]; exact e0))) h0)
theorem l3_rs_g {M0 M : xM} (i : Nat) (hi : i + 10 < 2 ^ 20) (hv : xLv L le) (hL0 : xLm M0 L le) (h1 : ∀ M' j, aSt L le i = (j, true) → xfn M0 M' → M' (xN 2) 10 = nI j → aNb L le i (M' (xN 9)) → R (some (xi 1)) M') (h0 : ∀ M' j, aSt L le i = (j, false) → xfn M0 M' → M' (xN 2) 10 = nI j → R (some (xi 0)) M') (hc : aAt L le i = 103) (hF : xfn M0 M) (hp : M (xN 2) 10 = nI (i + 1)) : xWP pg_X3_readsStatement 165 ([some (xo (xN 2)), some (xi 103), none], [], M) R := by
  have hs : aSt L le i = aRd L le 2 4 0 (i + 1) := aSt_s hc (by decide) (by decide)
  have hL := hL0.f hF
  refine xgo [187, 224] 100 ⟨rfl, c3_rn1 0 (by omega) (i + 1) (by omega) hv hL hp (fun e0 M1 F1 p1 n1 o1 => ⟨fun z => absurd z (by decide), fun _ => ⟨rfl, c3_rn2 1 (by omega) (i + 2) (by omega) hv (hL.f F1) p1 (fun e1 e2 M2 F2 p2 n2 o2 => ⟨fun z => absurd z (by decide), fun _ => ?_⟩) (fun e1 M2 F2 p2 => ⟨fun _ => ?_, fun z => absurd rfl z⟩) (fun e1 e2 M2 F2 p2 => ⟨fun _ => ?_, fun z => absurd rfl z⟩)⟩⟩) (fun e0 M1 F1 p1 => ⟨fun _ => ?_, fun z => absurd rfl z⟩)⟩
  · have s1 := hs.trans (aRd_y (show aFt 100 _ from by rw [aFt_d]; exact e0))
    have s2 := s1.trans (aRd_y (show aFt 100 _ from by rw [aFt_d]; exact e1))
    have s3 := s2.trans (aRd_y (show aFt 100 _ from by rw [aFt_d]; exact e2))
    refine l3_end (M0 := M0) 103 i (i + 4) 2 3 (by omega) hv ((hL.f F1).f F2) p2 ((hF.tr F1).tr F2) rfl s3 (fun M' hs' F' p' n' => h1 M' _ hs' F' p' ?_) h0
    rw [n']
    exact ⟨fun z => absurd (hc.symm.trans z) (by decide), fun z => absurd (hc.symm.trans z) (by decide), fun _ => ⟨by rw [o2 0 (by omega)]; exact n1, n2⟩, fun z => by rcases z with z | z | z <;> exact absurd (hc.symm.trans z) (by decide), fun z => absurd (hc.symm.trans z) (by decide)⟩
  · have s1 := hs.trans (aRd_y (show aFt 100 _ from by rw [aFt_d]; exact e0))
    exact xgo [224] 100 (l3_no (M0 := M0) 103 i (i + 2) p2 ((hF.tr F1).tr F2) (s1.trans (aRd_n (show ¬ aFt 100 _ from by rw [aFt_d]; exact e1))) h0)
  · have s1 := hs.trans (aRd_y (show aFt 100 _ from by rw [aFt_d]; exact e0))
    have s2 := s1.trans (aRd_y (show aFt 100 _ from by rw [aFt_d]; exact e1))
    exact xgo [224] 100 (l3_no (M0 := M0) 103 i (i + 3) p2 ((hF.tr F1).tr F2) (s2.trans (aRd_n (show ¬ aFt 100 _ from by rw [aFt_d]; exact e2))) h0)
  · exact xgo [224] 100 (l3_no (M0 := M0) 103 i (i + 1) p1 (hF.tr F1) (hs.trans (aRd_n (show ¬ aFt 100 _ from by rw [aFt_d]; exact e0))) h0)
theorem l3_rs_w {M0 M : xM} (i : Nat) (hi : i + 10 < 2 ^ 20) (hv : xLv L le) (hL0 : xLm M0 L le) (h1 : ∀ M' j, aSt L le i = (j, true) → xfn M0 M' → M' (xN 2) 10 = nI j → aNb L le i (M' (xN 9)) → R (some (xi 1)) M') (h0 : ∀ M' j, aSt L le i = (j, false) → xfn M0 M' → M' (xN 2) 10 = nI j → R (some (xi 0)) M') (hc : aAt L le i = 119) (hF : xfn M0 M) (hp : M (xN 2) 10 = nI (i + 1)) : xWP pg_X3_readsStatement 192 ([some (xo (xN 2)), some (xi 119), none], [], M) R := by
  have hs : aSt L le i = aRd L le 1 3 0 (i + 1) := aSt_s hc (by decide) (by decide)
  have hL := hL0.f hF
  refine xgo [224] 100 ⟨rfl, c3_rn2 0 (by omega) (i + 1) (by omega) hv hL hp (fun e0 e1 M1 F1 p1 n1 o1 => ?_) (fun e0 M1 F1 p1 => ?_) (fun e0 e1 M1 F1 p1 => ?_)⟩
  · have s1 := hs.trans (aRd_y (show aFt 100 _ from by rw [aFt_d]; exact e0))
    have s2 := s1.trans (aRd_y (show aFt 100 _ from by rw [aFt_d]; exact e1))
    refine l3_end (M0 := M0) 119 i (i + 3) 1 2 (by omega) hv (hL.f F1) p1 (hF.tr F1) rfl s2 (fun M' hs' F' p' n' => h1 M' _ hs' F' p' ?_) h0
    rw [n']
    exact ⟨fun z => absurd (hc.symm.trans z) (by decide), fun z => absurd (hc.symm.trans z) (by decide), fun z => absurd (hc.symm.trans z) (by decide), fun _ => n1, fun z => absurd (hc.symm.trans z) (by decide)⟩
  · exact l3_no (M0 := M0) 119 i (i + 1) p1 (hF.tr F1) (hs.trans (aRd_n (show ¬ aFt 100 _ from by rw [aFt_d]; exact e0))) h0
  · have s1 := hs.trans (aRd_y (show aFt 100 _ from by rw [aFt_d]; exact e0))
    exact l3_no (M0 := M0) 119 i (i + 2) p1 (hF.tr F1) (s1.trans (aRd_n (show ¬ aFt 100 _ from by rw [aFt_d]; exact e1))) h0
theorem l3_rs_l {M0 M : xM} (i : Nat) (hi : i + 10 < 2 ^ 20) (hv : xLv L le) (hL0 : xLm M0 L le) (h1 : ∀ M' j, aSt L le i = (j, true) → xfn M0 M' → M' (xN 2) 10 = nI j → aNb L le i (M' (xN 9)) → R (some (xi 1)) M') (h0 : ∀ M' j, aSt L le i = (j, false) → xfn M0 M' → M' (xN 2) 10 = nI j → R (some (xi 0)) M') (hc : aAt L le i = 108) (hF : xfn M0 M) (hp : M (xN 2) 10 = nI (i + 1)) : xWP pg_X3_readsStatement 192 ([some (xo (xN 2)), some (xi 108), none], [], M) R := by
  have hs : aSt L le i = aRd L le 1 3 0 (i + 1) := aSt_s hc (by decide) (by decide)
  have hL := hL0.f hF
  refine xgo [224] 100 ⟨rfl, c3_rn2 0 (by omega) (i + 1) (by omega) hv hL hp (fun e0 e1 M1 F1 p1 n1 o1 => ?_) (fun e0 M1 F1 p1 => ?_) (fun e0 e1 M1 F1 p1 => ?_)⟩
  · have s1 := hs.trans (aRd_y (show aFt 100 _ from by rw [aFt_d]; exact e0))
    have s2 := s1.trans (aRd_y (show aFt 100 _ from by rw [aFt_d]; exact e1))
    refine l3_end (M0 := M0) 108 i (i + 3) 1 2 (by omega) hv (hL.f F1) p1 (hF.tr F1) rfl s2 (fun M' hs' F' p' n' => h1 M' _ hs' F' p' ?_) h0
    rw [n']
    exact ⟨fun z => absurd (hc.symm.trans z) (by decide), fun z => absurd (hc.symm.trans z) (by decide), fun z => absurd (hc.symm.trans z) (by decide), fun _ => n1, fun z => absurd (hc.symm.trans z) (by decide)⟩
  · exact l3_no (M0 := M0) 108 i (i + 1) p1 (hF.tr F1) (hs.trans (aRd_n (show ¬ aFt 100 _ from by rw [aFt_d]; exact e0))) h0
  · have s1 := hs.trans (aRd_y (show aFt 100 _ from by rw [aFt_d]; exact e0))
    exact l3_no (M0 := M0) 108 i (i + 2) p1 (hF.tr F1) (s1.trans (aRd_n (show ¬ aFt 100 _ from by rw [aFt_d]; exact e1))) h0
theorem l3_rs_h {M0 M : xM} (i : Nat) (hi : i + 10 < 2 ^ 20) (hv : xLv L le) (hL0 : xLm M0 L le) (h1 : ∀ M' j, aSt L le i = (j, true) → xfn M0 M' → M' (xN 2) 10 = nI j → aNb L le i (M' (xN 9)) → R (some (xi 1)) M') (h0 : ∀ M' j, aSt L le i = (j, false) → xfn M0 M' → M' (xN 2) 10 = nI j → R (some (xi 0)) M') (hc : aAt L le i = 104) (hF : xfn M0 M) (hp : M (xN 2) 10 = nI (i + 1)) : xWP pg_X3_readsStatement 192 ([some (xo (xN 2)), some (xi 104), none], [], M) R := by
  have hs : aSt L le i = aRd L le 1 3 0 (i + 1) := aSt_s hc (by decide) (by decide)
  have hL := hL0.f hF
  refine xgo [224] 100 ⟨rfl, c3_rn2 0 (by omega) (i + 1) (by omega) hv hL hp (fun e0 e1 M1 F1 p1 n1 o1 => ?_) (fun e0 M1 F1 p1 => ?_) (fun e0 e1 M1 F1 p1 => ?_)⟩
  · have s1 := hs.trans (aRd_y (show aFt 100 _ from by rw [aFt_d]; exact e0))
    have s2 := s1.trans (aRd_y (show aFt 100 _ from by rw [aFt_d]; exact e1))
    refine l3_end (M0 := M0) 104 i (i + 3) 1 2 (by omega) hv (hL.f F1) p1 (hF.tr F1) rfl s2 (fun M' hs' F' p' n' => h1 M' _ hs' F' p' ?_) h0
    rw [n']
    exact ⟨fun z => absurd (hc.symm.trans z) (by decide), fun z => absurd (hc.symm.trans z) (by decide), fun z => absurd (hc.symm.trans z) (by decide), fun _ => n1, fun z => absurd (hc.symm.trans z) (by decide)⟩
  · exact l3_no (M0 := M0) 104 i (i + 1) p1 (hF.tr F1) (hs.trans (aRd_n (show ¬ aFt 100 _ from by rw [aFt_d]; exact e0))) h0
  · have s1 := hs.trans (aRd_y (show aFt 100 _ from by rw [aFt_d]; exact e0))
    exact l3_no (M0 := M0) 104 i (i + 2) p1 (hF.tr F1) (s1.trans (aRd_n (show ¬ aFt 100 _ from by rw [aFt_d]; exact e1))) h0
theorem l3_rs_s {M0 M : xM} (i : Nat) (hi : i + 10 < 2 ^ 20) (hv : xLv L le) (hL0 : xLm M0 L le) (h1 : ∀ M' j, aSt L le i = (j, true) → xfn M0 M' → M' (xN 2) 10 = nI j → aNb L le i (M' (xN 9)) → R (some (xi 1)) M') (h0 : ∀ M' j, aSt L le i = (j, false) → xfn M0 M' → M' (xN 2) 10 = nI j → R (some (xi 0)) M') (hc : aAt L le i = 115) (hF : xfn M0 M) (hp : M (xN 2) 10 = nI (i + 1)) : xWP pg_X3_readsStatement 202 ([some (xo (xN 2)), some (xi 115), none], [], M) R := by
  have hs : aSt L le i = aRd L le 3 2 0 (i + 1) := aSt_s hc (by decide) (by decide)
  have hL := hL0.f hF
  refine xgo [224] 100 ⟨rfl, c3_rn1 0 (by omega) (i + 1) (by omega) hv hL hp (fun e0 M1 F1 p1 n1 o1 => ?_) (fun e0 M1 F1 p1 => ?_)⟩
  · have s1 := hs.trans (aRd_y (show aFt 100 _ from by rw [aFt_d]; exact e0))
    refine l3_end (M0 := M0) 115 i (i + 2) 3 1 (by omega) hv (hL.f F1) p1 (hF.tr F1) rfl s1 (fun M' hs' F' p' n' => h1 M' _ hs' F' p' ?_) h0
    rw [n']
    exact ⟨fun z => absurd (hc.symm.trans z) (by decide), fun z => absurd (hc.symm.trans z) (by decide), fun z => absurd (hc.symm.trans z) (by decide), fun z => by rcases z with z | z | z <;> exact absurd (hc.symm.trans z) (by decide), fun _ => n1⟩
  · exact l3_no (M0 := M0) 115 i (i + 1) p1 (hF.tr F1) (hs.trans (aRd_n (show ¬ aFt 100 _ from by rw [aFt_d]; exact e0))) h0
theorem c3_readsStatement {M0 : xM} (i : Nat) (hi : i + 10 < 2 ^ 20) (hv : xLv L le) (hL0 : xLm M0 L le) (h1 : ∀ M' j, aSt L le i = (j, true) → xfn M0 M' → M' (xN 2) 10 = nI j → aNb L le i (M' (xN 9)) → R (some (xi 1)) M') (h0 : ∀ M' j, aSt L le i = (j, false) → xfn M0 M' → M' (xN 2) 10 = nI j → R (some (xi 0)) M') (hp : M0 (xN 2) 10 = nI i) : xWP pg_X3_readsStatement 0 ([some (xo (xN 2)), none, none], [], M0) R := by
  refine xgo [16] 100 ⟨rfl, c3_here i (by omega) hv hL0 hp ?_⟩
  generalize hc : aAt L le i = c
  show xWP pg_X3_readsStatement 16 ([some (xo (xN 2)), some (xi c), none], [xi c], xup M0 (xN 2) 10 (M0 (xN 2) 10 + 1)) R
  rw [hp, nI_1]
  have F1 : xfn M0 (xup M0 (xN 2) 10 (nI (i + 1))) := xfn.rf.up _
  have p1 : xup M0 (xN 2) 10 (nI (i + 1)) (xN 2) 10 = nI (i + 1) := by rw [xup_s, upd_s]
  generalize xup M0 (xN 2) 10 (nI (i + 1)) = M1 at F1 p1
  have dflt : aShp c = 4 → xWP pg_X3_readsStatement 212 ([some (xo (xN 2)), some (xi c), none], [], M1) R := by
    intro e
    refine xgo [222] 100 ?_
    show xWP pg_X3_readsStatement 222 ([some (xo (xN 2)), some (xi c), none], [], xup M1 (xN 2) 10 (M1 (xN 2) 10 - 1)) R
    rw [p1, nI_pred]
    exact xgo [] 100 ⟨Or.inl rfl, h0 _ i (if_pos (by rw [hc]; exact e)) (F1.up _) (by rw [xup_s, upd_s])⟩
  exact xgo [104, 138, 165, 192, 202, 212] 100 ⟨fun e => by subst e; exact l3_rs_f i hi hv hL0 h1 h0 hc F1 p1, fun n102 => ⟨fun e => by subst e; exact l3_rs_g i hi hv hL0 h1 h0 hc F1 p1, fun n103 => ⟨fun e => by subst e; exact l3_rs_h i hi hv hL0 h1 h0 hc F1 p1, fun n104 => ⟨fun e => dflt (by rw [e]; decide), fun n105 => ⟨fun e => dflt (by rw [e]; decide), fun n106 => ⟨fun e => dflt (by rw [e]; decide), fun n107 => ⟨fun e => by subst e; exact l3_rs_l i hi hv hL0 h1 h0 hc F1 p1, fun n108 => ⟨fun e => dflt (by rw [e]; decide), fun n109 => ⟨fun e => dflt (by rw [e]; decide), fun n110 => ⟨fun e => dflt (by rw [e]; decide), fun n111 => ⟨fun e => by subst e; exact l3_rs_p i hi hv hL0 h1 h0 hc F1 p1, fun n112 => ⟨fun e => dflt (by rw [e]; decide), fun n113 => ⟨fun e => dflt (by rw [e]; decide), fun n114 => ⟨fun e => by subst e; exact l3_rs_s i hi hv hL0 h1 h0 hc F1 p1, fun n115 => ⟨fun e => dflt (by rw [e]; decide), fun n116 => ⟨fun e => dflt (by rw [e]; decide), fun n117 => ⟨fun e => dflt (by rw [e]; decide), fun n118 => ⟨fun e => by subst e; exact l3_rs_w i hi hv hL0 h1 h0 hc F1 p1, fun n119 => dflt (show aShp c = 4 from by unfold aShp; rw [if_neg n112, if_neg n103, if_neg n115, if_neg n102, if_neg n104, if_neg n108, if_neg n119])⟩⟩⟩⟩⟩⟩⟩⟩⟩⟩⟩⟩⟩⟩⟩⟩⟩⟩
end XMR
