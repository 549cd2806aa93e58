/-! ===== reading a statement, on both sides ===== -/
def xLc (M : xM) (L : Nat) (le : Nat → Int32) : Prop := M (xN 1) 1 = nI L ∧ ∀ j, j < L → M (xN 3) j = le j
def xLm (M : xM) (L : Nat) (le : Nat → Int32) : Prop := M (xN 2) 8 = nI L ∧ ∀ j, j < L → M (xN 6) j = le j
abbrev xLv (L : Nat) (le : Nat → Int32) : Prop := L ≤ 96 ∧ ∀ j, j < L → ∃ c, c ≤ 255 ∧ le j = nI c
abbrev aDg (L : Nat) (le : Nat → Int32) (j : Nat) : Prop := 48 ≤ aAt L le j ∧ aAt L le j ≤ 57
theorem aFt_k (c : Int32) : aFt 107 c = (0 ≤ aKd (-1) c) := if_pos rfl
theorem aFt_d (c : Int32) : aFt 100 c = (48 ≤ c ∧ c ≤ 57) := (if_neg (by decide)).trans (if_pos rfl)
theorem aFt_s (c : Int32) : aFt 59 c = (c = 59) := (if_neg (by decide)).trans (if_neg (by decide))
theorem aBy_3 : ∀ q, q < 4 → ∀ k, k < aLn q → (aBy q k = 107 ∨ aBy q k = 100 ∨ aBy q k = 59) := by decide +kernel
theorem aFt_m {g : Int32} (hg : g = 107 ∨ g = 100 ∨ g = 59) : ¬ aFt g (-1) := by
  rcases hg with rfl | rfl | rfl
  · rw [aFt_k]; decide
  · rw [aFt_d]; decide
  · rw [aFt_s]; decide
theorem aLn_2 : ∀ q, q < 4 → 2 ≤ aLn q ∧ aLn q ≤ 4 := by decide +kernel
section XRD
variable {L : Nat} {le : Nat → Int32}
theorem aRd_y {q d k j : Nat} (h : aFt (aBy q k) (aAt L le j)) : aRd L le q (d + 1) k j = aRd L le q d (k + 1) (j + 1) := if_pos h
theorem aRd_n {q d k j : Nat} (h : ¬ aFt (aBy q k) (aAt L le j)) : aRd L le q (d + 1) k j = (j, false) := if_neg h
theorem aRd_ok (q : Nat) : ∀ d k j, (aRd L le q d k j).2 = true → (aRd L le q d k j).1 = j + d ∧ ∀ e, e < d → aFt (aBy q (k + e)) (aAt L le (j + e))
  | 0, k, j, _ => ⟨rfl, fun e he => by omega⟩
  | d + 1, k, j, h => by
    by_cases c : aFt (aBy q k) (aAt L le j)
    · rw [aRd_y c] at h ⊢
      obtain ⟨h1, h2⟩ := aRd_ok q d (k + 1) (j + 1) h
      refine ⟨by omega, fun e he => ?_⟩
      by_cases e0 : e = 0
      · subst e0; exact c
      · have := h2 (e - 1) (by omega)
        rw [show k + 1 + (e - 1) = k + e by omega, show j + 1 + (e - 1) = j + e by omega] at this
        exact this
    · rw [aRd_n c] at h; cases h
theorem aAt_lt {i : Nat} (h : aAt L le i ≠ -1) : i < L := by
  by_cases c : i < L
  · exact c
  · exact absurd (if_neg c) h
theorem aSt_s {i q : Nat} {c : Int32} (h : aAt L le i = c) (hs : aShp c = q) (hq : q ≠ 4) : aSt L le i = aRd L le q (aLn q) 0 (i + 1) := by
  unfold aSt
  rw [h, hs, if_neg hq]
theorem aSt_ok {i : Nat} (h : (aSt L le i).2 = true) : aShp (aAt L le i) < 4 ∧ (aSt L le i).1 = i + 1 + aLn (aShp (aAt L le i)) ∧ (aSt L le i).1 ≤ L ∧ ∀ e, e < aLn (aShp (aAt L le i)) → aFt (aBy (aShp (aAt L le i)) e) (aAt L le (i + 1 + e)) := by
  have h4 := aShp_4 (aAt L le i)
  by_cases c : aShp (aAt L le i) = 4
  · have : aSt L le i = (i, false) := if_pos c
    rw [this] at h; cases h
  · have hs := aSt_s (L := L) (le := le) (i := i) rfl rfl c
    rw [hs] at h ⊢
    obtain ⟨h1, h2⟩ := aRd_ok _ _ _ _ h
    have hq : aShp (aAt L le i) < 4 := by omega
    have hl := aLn_2 _ hq
    refine ⟨hq, h1, ?_, fun e he => ?_⟩
    · have := h2 (aLn (aShp (aAt L le i)) - 1) (by omega)
      rw [Nat.zero_add] at this
      have hne : aAt L le (i + 1 + (aLn (aShp (aAt L le i)) - 1)) ≠ -1 := fun z => by
        rw [z] at this
        exact aFt_m (aBy_3 _ hq _ (by omega)) this
      have := aAt_lt hne
      omega
    · have := h2 e he
      rw [Nat.zero_add] at this
      exact this
def aFL (L : Nat) (le : Nat → Int32) : Nat → Nat → Option Nat
  | 0, _ => none
  | f + 1, i => if (aSt L le i).2 = true then (if (aSt L le i).1 < L then aFL L le f (aSt L le i).1 else none) else some (aSt L le i).1
def aOr : Option Nat → Int32
  | none => -9
  | some j => nI j
end XRD
section XTL
variable {M : xM} {R : xR} {L : Nat} {le : Nat → Int32}
theorem c1_letterAt (i : Nat) (hi : i < 2 ^ 30) (hv : xLv L le) (hL : xLc M L le) (hk : R (some (xi (aAt L le i))) M) : xWP pg_X1_letterAt 0 ([some (xo (xN 1)), some (xi (nI i))], [], M) R := by
  have h96 := hv.1
  unfold aAt at hk
  refine xgo [] 100 ⟨fun z => absurd z (nI_pos (by omega)), fun _ => ⟨fun z => ⟨trivial, ?_⟩, fun z => ?_⟩⟩
  · rw [hL.1] at z
    rw [if_neg (fun w => absurd z (nI_ge w (by omega)))] at hk
    exact hk
  · rw [hL.1] at z
    have hlt : i < L := Nat.lt_of_not_le (fun w => z (nI_le w (by omega)))
    rw [if_pos hlt] at hk
    refine ⟨vp_in_nI (show i < 96 by omega) (by omega), trivial, ?_⟩
    rw [nI_clamp (by omega), hL.2 i hlt]
    exact hk
theorem c1_digitAt (i : Nat) (hi : i < 2 ^ 30) (hv : xLv L le) (hL : xLc M L le) (hk : R (some (xi (aAt L le i - 48))) M) : xWP pg_X1_digitAt 0 ([some (xo (xN 1)), some (xi (nI i))], [], M) R :=
  xgo [] 100 ⟨rfl, c1_letterAt i hi hv hL ⟨trivial, hk⟩⟩
theorem c1_twoDigitsAt (i : Nat) (hi : i + 1 < 2 ^ 30) (hv : xLv L le) (hL : xLc M L le) (hk : R (some (xi (10 * (aAt L le i - 48) + (aAt L le (i + 1) - 48)))) M) : xWP pg_X1_twoDigitsAt 0 ([some (xo (xN 1)), some (xi (nI i))], [], M) R := by
  refine xgo [12] 100 ⟨rfl, c1_digitAt i (by omega) hv hL ?_⟩
  show xWP pg_X1_twoDigitsAt 12 ([some (xo (xN 1)), some (xi (nI i))], [xi (nI i + 1), xo (xN 1), xi (10 * (aAt L le i - 48))], M) R
  rw [nI_1]
  exact xgo [] 100 ⟨rfl, c1_digitAt (i + 1) (by omega) hv hL ⟨trivial, hk⟩⟩
theorem l1_in (q : Nat) (hq : q < 4) (hv : xLv L le) (hL : xLc M L le) : ∀ d k j, k + d = aLn q → j + d < 2 ^ 30 → ((aRd L le q d k j).2 = false → R (some (xi (nI (aRd L le q d k j).1))) M) → ((aRd L le q d k j).2 = true → xWP pg_X1_firstWrongLetter 77 ([some (xo (xN 1)), some (xi (nI (aRd L le q d k j).1)), some (xo (xN (20 + q))), some (xi (nI (aLn q)))], [], M) R) → xWP pg_X1_firstWrongLetter 42 ([some (xo (xN 1)), some (xi (nI j)), some (xo (xN (20 + q))), some (xi (nI k))], [], M) R := by
  have hl := aLn_2 q hq
  intro d
  induction d with
  | zero =>
    intro k j hkd hj h0 h1
    have : k = aLn q := by omega
    subst this
    have go : xWP pg_X1_firstWrongLetter 47 ([some (xo (xN 1)), some (xi (nI j)), some (xo (xN (20 + q))), some (xi (nI (aLn q)))], [xi (nI (aLn q)), xi (nI (aLn q))], M) R :=
      xgo [77] 100 ⟨fun _ => h1 rfl, fun z => absurd (nI_le (Nat.le_refl _) (by omega)) z⟩
    exact xgo [47] 100 ⟨by
      have h4 : q = 0 ∨ q = 1 ∨ q = 2 ∨ q = 3 := by omega
      rcases h4 with rfl | rfl | rfl | rfl <;> rfl, c_length q (by omega) go⟩
  | succ d ih =>
    intro k j hkd hj h0 h1
    have hok : ∀ st, (xoT 1 [xo (xN (20 + q))] && Nat.ble (xcs st) 8) = (Nat.ble (xcs st) 8) := by
      have h4 : q = 0 ∨ q = 1 ∨ q = 2 ∨ q = 3 := by omega
      rcases h4 with rfl | rfl | rfl | rfl <;> intro st <;> rfl
    have hg := aBy_3 q hq k (by omega)
    refine xgo [47] 100 ⟨by
      have h4 : q = 0 ∨ q = 1 ∨ q = 2 ∨ q = 3 := by omega
      rcases h4 with rfl | rfl | rfl | rfl <;> rfl, c_length q (by omega) ?_⟩
    show xWP pg_X1_firstWrongLetter 47 ([some (xo (xN 1)), some (xi (nI j)), some (xo (xN (20 + q))), some (xi (nI k))], [xi (nI (aLn q)), xi (nI k)], M) R
    refine xgo [42] 100 ⟨fun z => absurd z (nI_ge (by omega) (by omega)), fun _ => ⟨by
      have h4 : q = 0 ∨ q = 1 ∨ q = 2 ∨ q = 3 := by omega
      rcases h4 with rfl | rfl | rfl | rfl <;> rfl, c_charAt q k hq (by omega) ⟨rfl, c1_letterAt j (by omega) hv hL ⟨rfl, c1_fits (aBy q k) (aAt L le j) hg (aAt_ch hv.2 j) (fun e => ?_) (fun e => ?_)⟩⟩⟩⟩
    · refine ⟨fun z => absurd z (by decide), fun _ => ?_⟩
      show xWP pg_X1_firstWrongLetter 42 ([some (xo (xN 1)), some (xi (nI j + 1)), some (xo (xN (20 + q))), some (xi (nI k + 1))], [], M) R
      rw [nI_1, nI_1]
      rw [aRd_y e] at h0 h1
      exact ih (k + 1) (j + 1) (by omega) (by omega) h0 h1
    · rw [aRd_n e] at h0 h1
      exact ⟨fun _ => ⟨trivial, h0 rfl⟩, fun z => absurd rfl z⟩
theorem l1_out (hv : xLv L le) (hL : xLc M L le) : ∀ f i (x2 x3 : Option xV), (x2 = none ∨ ∃ k, x2 = some (xo k)) → i ≤ L → L ≤ i + f → R (some (xi (aOr (if i < L then aFL L le f i else none)))) M → xWP pg_X1_firstWrongLetter 11 ([some (xo (xN 1)), some (xi (nI i)), x2, x3], [], M) R := by
  have h96 := hv.1
  intro f
  induction f with
  | zero =>
    intro i x2 x3 hx2 hi hf hk
    rw [if_neg (by omega)] at hk
    exact xgo [] 100 ⟨fun _ => ⟨trivial, hk⟩, fun z => absurd (by rw [hL.1]; exact nI_le (by omega) (by omega)) z⟩
  | succ f ih =>
    intro i x2 x3 hx2 hi hf hk
    by_cases hlt : i < L
    · rw [if_pos hlt] at hk
      have h4 := aShp_4 (aAt L le i)
      refine xgo [28] 100 ⟨fun z => absurd z (by rw [hL.1]; exact nI_ge hlt (by omega)), fun _ => ⟨rfl, c1_letterAt i (by omega) hv hL ⟨rfl, c1_shapeBehind _ ?_⟩⟩⟩
      generalize hq : aShp (aAt L le i) = q at h4
      show xWP pg_X1_firstWrongLetter 28 ([some (xo (xN 1)), some (xi (nI i)), some (xo (xN (20 + q))), x3], [], M) R
      have hemp : (xoT 1 [xo (xN (20 + q))] && Nat.ble (xcs ([] : List xV)) 8) = true := by
        have h4 : q = 0 ∨ q = 1 ∨ q = 2 ∨ q = 3 ∨ q = 4 := by omega
        rcases h4 with rfl | rfl | rfl | rfl | rfl <;> rfl
      refine xgo [42] 100 ⟨hemp, c_isEmpty q (by omega) (fun e => ?_) (fun e => ?_)⟩
      · refine ⟨fun z => absurd z (by decide), fun _ => ⟨trivial, ?_⟩⟩
        have es : aSt L le i = (i, false) := if_pos (by rw [hq]; exact e)
        unfold aFL at hk
        rw [es] at hk
        exact hk
      · refine ⟨fun _ => ?_, fun z => absurd rfl z⟩
        have es := aSt_s (L := L) (le := le) (i := i) rfl hq e
        have hl := aLn_2 q (by omega)
        show xWP pg_X1_firstWrongLetter 42 ([some (xo (xN 1)), some (xi (nI i + 1)), some (xo (xN (20 + q))), some (xi (nI 0))], [], M) R
        rw [nI_1]
        unfold aFL at hk
        refine l1_in q (by omega) hv hL (aLn q) 0 (i + 1) (by omega) (by omega) (fun h => ?_) (fun h => ?_)
        · rw [es, if_neg (by rw [h]; decide)] at hk
          exact hk
        · rw [← es] at h ⊢
          have ho := aSt_ok h
          rw [if_pos h] at hk
          refine xgo [11] 100 ?_
          refine ih (aSt L le i).1 _ _ (Or.inr ⟨_, rfl⟩) ho.2.2.1 (by omega) hk
    · rw [if_neg hlt] at hk
      exact xgo [] 100 ⟨fun _ => ⟨trivial, hk⟩, fun z => absurd (by rw [hL.1]; exact nI_le (by omega) (by omega)) z⟩
theorem aSt_00 {le : Nat → Int32} : aSt 0 le 0 = (0, false) := if_pos (by rfl)
theorem c1_firstWrongLetter (hv : xLv L le) (hL : xLc M L le) (hk : R (some (xi (aOr (aFL L le (L + 1) 0)))) M) : xWP pg_X1_firstWrongLetter 0 ([some (xo (xN 1)), none, none, none], [], M) R := by
  have h96 := hv.1
  refine xgo [11] 100 ⟨fun z => ⟨trivial, ?_⟩, fun z => ?_⟩
  · rw [hL.1] at z
    have e : L = 0 := (nI_eq (by omega) (by omega)).mp z
    subst e
    unfold aFL at hk
    rw [aSt_00] at hk
    exact hk
  · rw [hL.1] at z
    have e : 0 < L := Nat.pos_of_ne_zero (fun w => z (by rw [w]; rfl))
    refine l1_out hv hL (L + 1) 0 none none (Or.inl rfl) (by omega) (by omega) ?_
    rw [if_pos e]
    exact hk
end XTL
