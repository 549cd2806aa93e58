/-! ===== the model does a statement ===== -/
section XID
variable {M : xM} {n : Nat} {h : xh} {R : xR} {L : Nat} {le : Nat → Int32}
theorem l3_id_p (i : Nat) (hv : xLv L le) (hst : (aSt L le i).2 = true) (hN : aNb L le i (M (xN 9))) (hB : aNow n h) (hR : xRm M 0 n h) (h1 : ∀ x', aDo L le i (n, h) = some x' → ∀ M', xRm M' 0 x'.1 x'.2 → xfw 0 M M' → R (some (xi 1)) M') (h0 : aDo L le i (n, h) = none → ∀ M', xfw 0 M M' → R (some (xi 0)) M') (hc : aAt L le i = 112) : xWP pg_X3_isDone 100 ([some (xo (xN 2)), some (xi 112), some (xi (M (xN 9) 0)), some (xi (M (xN 9) 1))], [], M) R := by
  have hn := hB.1.1
  obtain ⟨e1, e2, e3⟩ := st_p hc hst
  have d2 := dg_eq hv e2
  have d3 := dg_eq hv e3
  obtain ⟨n0, n1, n2⟩ := hN.1 hc
  refine xgo [] 100 ⟨rfl, c3_addsPerson hn hB.2.2.1.1 hB.2.2.1.2 hR (fun g M' hR' hF' => ⟨Or.inr rfl, h1 _ ((aDo_p hc).trans (if_pos g)) M' ?_ hF'⟩) (fun g => ⟨Or.inl rfl, h0 ((aDo_p hc).trans (if_neg g)) M xfw.rf⟩)⟩
  rw [n0, n1, n2, d2.1, d3.1] at hR'
  exact hR'
theorem l3_id_f (i : Nat) (hv : xLv L le) (hst : (aSt L le i).2 = true) (hN : aNb L le i (M (xN 9))) (hB : aNow n h) (hR : xRm M 0 n h) (h1 : ∀ x', aDo L le i (n, h) = some x' → ∀ M', xRm M' 0 x'.1 x'.2 → xfw 0 M M' → R (some (xi 1)) M') (h0 : aDo L le i (n, h) = none → ∀ M', xfw 0 M M' → R (some (xi 0)) M') (hc : aAt L le i = 102) : xWP pg_X3_isDone 105 ([some (xo (xN 2)), some (xi 102), some (xi (M (xN 9) 0)), some (xi (M (xN 9) 1))], [], M) R := by
  have hn := hB.1.1
  obtain ⟨e1, e2⟩ := st_f hc hst
  have d1 := dg_eq hv e1
  have d2 := dg_eq hv e2
  obtain ⟨n0, n1⟩ := hN.2.1 hc
  rw [n0, n1, d1.1, d2.1]
  have no : ¬ (dg L le (i + 1) < n ∧ dg L le (i + 2) < 6) → R (some (xi 0)) M := fun g => h0 ((aDo_f hc).trans (if_neg g)) M xfw.rf
  refine xgo [121] 100 ⟨rfl, c3_isPerson _ hn hR (fun a => ⟨fun z => absurd z (by decide), fun _ => ⟨fun z => ?_, fun z => ⟨Or.inl rfl, no (fun g => z (nI_lt (b := 6) g.2 (by omega)))⟩⟩⟩) (fun a => ⟨fun _ => ⟨Or.inl rfl, no (fun g => a ⟨nI_le (a := 0) (by omega) (by omega), nI_lt g.1 (by omega)⟩)⟩, fun z => absurd rfl z⟩)⟩
  have g1 : dg L le (i + 1) < n := (nI_ltI (by omega) (by omega)).mp a.2
  have g2 : dg L le (i + 2) < 6 := (nI_ltI (b := 6) (by omega) (by omega)).mp z
  refine xgo [] 100 ⟨rfl, c3_of (dg L le (i + 1)) 6 ⟨xof_in (by omega) (by omega), Or.inr rfl, ?_⟩⟩
  rw [xof_cl (by omega) (by omega)]
  exact h1 _ ((aDo_f hc).trans (if_pos ⟨g1, g2⟩)) _ (hR.uAr g1 _ 4 6 (by omega)) (xfw.rf.u _ _)
theorem l3_id_g (i : Nat) (hv : xLv L le) (hst : (aSt L le i).2 = true) (hN : aNb L le i (M (xN 9))) (hB : aNow n h) (hR : xRm M 0 n h) (h1 : ∀ x', aDo L le i (n, h) = some x' → ∀ M', xRm M' 0 x'.1 x'.2 → xfw 0 M M' → R (some (xi 1)) M') (h0 : aDo L le i (n, h) = none → ∀ M', xfw 0 M M' → R (some (xi 0)) M') (hc : aAt L le i = 103) : xWP pg_X3_isDone 135 ([some (xo (xN 2)), some (xi 103), some (xi (M (xN 9) 0)), some (xi (M (xN 9) 1))], [], M) R := by
  have hn := hB.1.1
  obtain ⟨e1, e2, e3⟩ := st_g hc hst
  have d1 := dg_eq hv e1
  have d2 := dd_eq hv e2 e3
  obtain ⟨n0, n1⟩ := hN.2.2.1 hc
  rw [n0, n1, d1.1, d2.1]
  refine xgo [145] 100 ⟨rfl, c3_isPerson _ hn hR (fun a => ⟨fun z => absurd z (by decide), fun _ => ?_⟩) (fun a => ⟨fun _ => ⟨Or.inl rfl, h0 ((aDo_g hc).trans (if_neg (fun g => a ⟨nI_le (a := 0) (by omega) (by omega), nI_lt g (by omega)⟩))) M xfw.rf⟩, fun z => absurd rfl z⟩)⟩
  have g1 : dg L le (i + 1) < n := (nI_ltI (by omega) (by omega)).mp a.2
  refine xgo [] 100 ⟨rfl, c3_of (dg L le (i + 1)) 3 ⟨xof_in (by omega) (by omega), Or.inr rfl, ?_⟩⟩
  rw [xof_cl (by omega) (by omega)]
  exact h1 _ ((aDo_g hc).trans (if_pos g1)) _ (hR.uHas hn g1 _) (xfw.rf.u _ _)
theorem l3_id_w (i : Nat) (hv : xLv L le) (hst : (aSt L le i).2 = true) (hN : aNb L le i (M (xN 9))) (hB : aNow n h) (hR : xRm M 0 n h) (h1 : ∀ x', aDo L le i (n, h) = some x' → ∀ M', xRm M' 0 x'.1 x'.2 → xfw 0 M M' → R (some (xi 1)) M') (h0 : aDo L le i (n, h) = none → ∀ M', xfw 0 M M' → R (some (xi 0)) M') (hc : aAt L le i = 119) : xWP pg_X3_isDone 158 ([some (xo (xN 2)), some (xi 119), some (xi (M (xN 9) 0)), some (xi (M (xN 9) 1))], [], M) R := by
  have hn := hB.1.1
  obtain ⟨e1, e2⟩ := st_w hc hst
  have d2 := dd_eq hv e1 e2
  have n0 := hN.2.2.2.1 (Or.inl hc)
  rw [n0, show i + 2 = i + 1 + 1 from rfl, d2.1]
  refine xgo [] 100 ⟨xin47 (k := 2) (by omega), Or.inr rfl, ?_⟩
  exact h1 _ (aDo_w hc) _ (hR.uWater _) (xfw.rf.u _ _)
theorem l3_id_l (i : Nat) (hv : xLv L le) (hst : (aSt L le i).2 = true) (hN : aNb L le i (M (xN 9))) (hB : aNow n h) (hR : xRm M 0 n h) (h1 : ∀ x', aDo L le i (n, h) = some x' → ∀ M', xRm M' 0 x'.1 x'.2 → xfw 0 M M' → R (some (xi 1)) M') (h0 : aDo L le i (n, h) = none → ∀ M', xfw 0 M M' → R (some (xi 0)) M') (hc : aAt L le i = 108) : xWP pg_X3_isDone 167 ([some (xo (xN 2)), some (xi 108), some (xi (M (xN 9) 0)), some (xi (M (xN 9) 1))], [], M) R := by
  have hn := hB.1.1
  obtain ⟨e1, e2⟩ := st_l hc hst
  have d2 := dd_eq hv e1 e2
  have n0 := hN.2.2.2.1 (Or.inr (Or.inl hc))
  rw [n0, show i + 2 = i + 1 + 1 from rfl, d2.1]
  refine xgo [] 100 ⟨xin47 (k := 3) (by omega), ⟨fun z => ⟨Or.inl rfl, ?_⟩, fun z => ⟨Or.inr rfl, ?_⟩⟩⟩
  · exact h0 ((aDo_l hc).trans (if_neg (fun g => absurd z (nI_nlt (a := 30) g (by omega))))) _ (xfw.rf.u _ _)
  · exact h1 _ ((aDo_l hc).trans (if_pos (Nat.le_of_not_lt (fun g => z (nI_lt (a := 30) g (by omega)))))) _ (hR.uFlow _) (xfw.rf.u _ _)
theorem l3_id_s (i : Nat) (hv : xLv L le) (hst : (aSt L le i).2 = true) (hN : aNb L le i (M (xN 9))) (hB : aNow n h) (hR : xRm M 0 n h) (h1 : ∀ x', aDo L le i (n, h) = some x' → ∀ M', xRm M' 0 x'.1 x'.2 → xfw 0 M M' → R (some (xi 1)) M') (h0 : aDo L le i (n, h) = none → ∀ M', xfw 0 M M' → R (some (xi 0)) M') (hc : aAt L le i = 115) : xWP pg_X3_isDone 186 ([some (xo (xN 2)), some (xi 115), some (xi (M (xN 9) 0)), some (xi (M (xN 9) 1))], [], M) R := by
  have hn := hB.1.1
  have e1 := st_s hc hst
  have d1 := dg_eq hv e1
  have n0 := hN.2.2.2.2 hc
  rw [n0, d1.1]
  refine xgo [196] 100 ⟨rfl, c3_isPerson _ hn hR (fun a => ⟨fun z => absurd z (by decide), fun _ => ?_⟩) (fun a => ⟨fun _ => ⟨Or.inl rfl, h0 ((aDo_s hc).trans (if_neg (fun g => a ⟨nI_le (a := 0) (by omega) (by omega), nI_lt g (by omega)⟩))) M xfw.rf⟩, fun z => absurd rfl z⟩)⟩
  have g1 : dg L le (i + 1) < n := (nI_ltI (by omega) (by omega)).mp a.2
  refine xgo [] 100 ⟨rfl, c3_of (dg L le (i + 1)) 4 ⟨xof_in (by omega) (by omega), Or.inr rfl, ?_⟩⟩
  rw [xof_cl (by omega) (by omega)]
  exact h1 _ ((aDo_s hc).trans (if_pos g1)) _ (hR.uSpoke hn g1) (xfw.rf.u _ _)
theorem l3_id_h (i : Nat) (hv : xLv L le) (hst : (aSt L le i).2 = true) (hN : aNb L le i (M (xN 9))) (hB : aNow n h) (hR : xRm M 0 n h) (h1 : ∀ x', aDo L le i (n, h) = some x' → ∀ M', xRm M' 0 x'.1 x'.2 → xfw 0 M M' → R (some (xi 1)) M') (h0 : aDo L le i (n, h) = none → ∀ M', xfw 0 M M' → R (some (xi 0)) M') (hc : aAt L le i = 104) : xWP pg_X3_isDone 209 ([some (xo (xN 2)), some (xi 104), some (xi (M (xN 9) 0)), some (xi (M (xN 9) 1))], [], M) R := by
  have hn := hB.1.1
  obtain ⟨e1, e2⟩ := st_h hc hst
  have d2 := dd_eq hv e1 e2
  have n0 := hN.2.2.2.1 (Or.inr (Or.inr hc))
  rw [n0, show i + 2 = i + 1 + 1 from rfl, d2.1]
  have no : ¬ (1 ≤ dd L le (i + 1) ∧ dd L le (i + 1) ≤ 60 ∧ h 5 8 + nI (dd L le (i + 1)) ≤ 999) → R (some (xi 0)) M := fun g => h0 ((aDo_h hc).trans (if_neg g)) M xfw.rf
  refine xgo [235] 100 ⟨rfl, c3_isIn _ 1 60 (fun a => ⟨fun z => absurd z (by decide), fun _ => ⟨xin47 (k := 1) (by omega), ?_⟩⟩) (fun a => ⟨fun _ => ⟨Or.inl rfl, no (fun g => a ⟨nI_le (a := 1) g.1 (by omega), nI_le (b := 60) g.2.1 (by omega)⟩)⟩, fun z => absurd rfl z⟩)⟩
  rw [hR.g1]
  have g1 : 1 ≤ dd L le (i + 1) := nI_le_of (a := 1) a.1
  have g2 : dd L le (i + 1) ≤ 60 := nI_le_of (q := 60) a.2
  refine ⟨fun z => ?_, fun z => ⟨Or.inl rfl, no (fun g => z g.2.2)⟩⟩
  exact xgo [] 100 ⟨rfl, c3_hoursOn (dd L le (i + 1)) (by omega) hB.1 hB.2.1 hR (fun M' hR' hF' => ⟨Or.inr rfl, h1 _ ((aDo_h hc).trans (if_pos ⟨g1, g2, z⟩)) M' hR' hF'⟩)⟩
theorem c3_isDone (i : Nat) (hv : xLv L le) (hst : (aSt L le i).2 = true) (hN : aNb L le i (M (xN 9))) (hB : aNow n h) (hR : xRm M 0 n h) (h1 : ∀ x', aDo L le i (n, h) = some x' → ∀ M', xRm M' 0 x'.1 x'.2 → xfw 0 M M' → R (some (xi 1)) M') (h0 : aDo L le i (n, h) = none → ∀ M', xfw 0 M M' → R (some (xi 0)) M') : xWP pg_X3_isDone 0 ([some (xo (xN 2)), some (xi (aAt L le i)), none, none], [], M) R := by
  refine xgo [15] 100 ⟨vp_in_nI (n := 0) (N := 3) (by omega) (by omega), vp_in_nI (n := 1) (N := 3) (by omega) (by omega), ?_⟩
  show xWP pg_X3_isDone 15 ([some (xo (xN 2)), some (xi (aAt L le i)), some (xi (M (xN 9) 0)), some (xi (M (xN 9) 1))], [xi (aAt L le i)], M) R
  rcases aShp_c (aSt_ok hst).1 with hc | hc | hc | hc | hc | hc | hc
  · rw [hc]
    refine xgo [100] 100 (xsw_i ?_)
    exact l3_id_p i hv hst hN hB hR h1 h0 hc
  · rw [hc]
    refine xgo [105] 100 (xsw_i ?_)
    exact l3_id_f i hv hst hN hB hR h1 h0 hc
  · rw [hc]
    refine xgo [135] 100 (xsw_i ?_)
    exact l3_id_g i hv hst hN hB hR h1 h0 hc
  · rw [hc]
    refine xgo [158] 100 (xsw_i ?_)
    exact l3_id_w i hv hst hN hB hR h1 h0 hc
  · rw [hc]
    refine xgo [167] 100 (xsw_i ?_)
    exact l3_id_l i hv hst hN hB hR h1 h0 hc
  · rw [hc]
    refine xgo [186] 100 (xsw_i ?_)
    exact l3_id_s i hv hst hN hB hR h1 h0 hc
  · rw [hc]
    refine xgo [209] 100 (xsw_i ?_)
    exact l3_id_h i hv hst hN hB hR h1 h0 hc
end XID
/-! ===== the loops ===== -/
def aSc (le : Nat → Int32) : Nat → Int32
  | 0 => 0
  | k + 1 => if le k = 59 then aSc le k + 1 else aSc le k
theorem aBy_last : ∀ q, q < 4 → aBy q (aLn q - 1) = 59 ∧ ∀ e, e < aLn q - 1 → (aBy q e = 107 ∨ aBy q e = 100) := by decide +kernel
theorem aFt_59 {g : Int32} (hg : g = 107 ∨ g = 100) : ¬ aFt g 59 := by
  rcases hg with rfl | rfl
  · rw [aFt_k]; decide
  · rw [aFt_d]; decide
section XLP
variable {L : Nat} {le : Nat → Int32}
theorem aAt_p {i : Nat} (h : i < L) : aAt L le i = le i := if_pos h
theorem aSc_st {i : Nat} (h : (aSt L le i).2 = true) : aSc le (aSt L le i).1 = aSc le i + 1 := by
  obtain ⟨hq, h1, h2, h3⟩ := aSt_ok h
  have hl := aLn_2 _ hq
  obtain ⟨b1, b2⟩ := aBy_last _ hq
  have hc0 : le i ≠ 59 := by
    intro e
    rw [← aAt_p (L := L) (le := le) (show i < L by omega)] at e
    rw [e] at hq
    exact absurd hq (by decide)
  have key : ∀ e, e ≤ aLn (aShp (aAt L le i)) - 1 → aSc le (i + 1 + e) = aSc le i := by
    intro e
    induction e with
    | zero => intro _; exact if_neg hc0
    | succ e ih =>
      intro he
      have hne : le (i + 1 + e) ≠ 59 := by
        intro z
        have := h3 e (by omega)
        rw [aAt_p (show i + 1 + e < L by omega), z] at this
        exact aFt_59 (b2 e (by omega)) this
      exact (if_neg hne).trans (ih (by omega))
  have hlast : le (i + 1 + (aLn (aShp (aAt L le i)) - 1)) = 59 := by
    have := h3 (aLn (aShp (aAt L le i)) - 1) (by omega)
    rw [b1, aFt_s, aAt_p (by omega)] at this
    exact this
  have e : (aSt L le i).1 = i + 1 + (aLn (aShp (aAt L le i)) - 1) + 1 := by omega
  rw [e]
  refine (if_pos hlast).trans ?_
  rw [key _ (Nat.le_refl _)]
theorem aRd_le (q : Nat) : ∀ d k j, (aRd L le q d k j).1 ≤ j + d
  | 0, k, j => Nat.le_refl _
  | d + 1, k, j => by
    by_cases c : aFt (aBy q k) (aAt L le j)
    · rw [aRd_y c]
      have := aRd_le q d (k + 1) (j + 1)
      omega
    · rw [aRd_n c]
      show j ≤ _
      omega
theorem aSt_le (i : Nat) : (aSt L le i).1 ≤ i + 5 := by
  have h4 := aShp_4 (aAt L le i)
  by_cases c : aShp (aAt L le i) = 4
  · have : aSt L le i = (i, false) := if_pos c
    rw [this]
    show i ≤ _
    omega
  · rw [aSt_s (L := L) (le := le) (i := i) rfl rfl c]
    have := aRd_le (L := L) (le := le) (aShp (aAt L le i)) (aLn (aShp (aAt L le i))) 0 (i + 1)
    have hl := aLn_2 _ (show aShp (aAt L le i) < 4 by omega)
    omega
def aPh (L : Nat) (le : Nat → Int32) : Nat → Nat → Nat × xh → Nat ⊕ (Nat × xh)
  | 0, _, x => .inr x
  | f + 1, i, x => if i < L then (match aDo L le i x with
    | none => .inl i
    | some x' => aPh L le f (aSt L le i).1 x') else .inr x
theorem aFL_st {f i : Nat} (h : aFL L le (f + 1) i = none) : (aSt L le i).2 = true ∧ ((aSt L le i).1 < L → aFL L le f (aSt L le i).1 = none) := by
  unfold aFL at h
  by_cases c : (aSt L le i).2 = true
  · rw [if_pos c] at h
    refine ⟨c, fun d => ?_⟩
    rw [if_pos d] at h
    exact h
  · rw [if_neg c] at h; cases h
theorem nI_200 : ∀ j, j < 200 → ¬ (-1000 : Int32) - nI j = -9 ∧ ¬ (-2000 : Int32) - nI j = -9 ∧ ¬ nI j = -9 := by decide +kernel
end XLP
section XLQ
variable {R : xR} {L : Nat} {le : Nat → Int32}
theorem l1_statements {M : xM} (hv : xLv L le) (hL : xLc M L le) (hk : R (some (xi (aSc le L))) M) : ∀ d k, k + d = L → xWP pg_X1_statements 4 ([some (xo (xN 1)), some (xi (aSc le k)), some (xi (nI k))], [], M) R := by
  have h96 := hv.1
  intro d
  induction d with
  | zero =>
    intro k hkd
    have : k = L := by omega
    subst this
    exact xgo [] 100 ⟨fun _ => ⟨trivial, hk⟩, fun c => absurd (by rw [hL.1]; exact nI_le (Nat.le_refl _) (by omega)) c⟩
  | succ d ih =>
    intro k hkd
    have nxt : ∀ a, aSc le (k + 1) = a → xWP pg_X1_statements 26 ([some (xo (xN 1)), some (xi a), some (xi (nI k))], [], M) R := by
      intro a e
      refine xgo [4] 100 ?_
      show xWP pg_X1_statements 4 ([some (xo (xN 1)), some (xi a), some (xi (nI k + 1))], [], M) R
      rw [nI_1, ← e]
      exact ih (k + 1) (by omega)
    refine xgo [26] 100 ⟨fun c => absurd c (by rw [hL.1]; exact nI_ge (by omega) (by omega)), fun _ => ⟨vp_in_nI (show k < 96 by omega) (by omega), ?_⟩⟩
    rw [nI_clamp (show k < 2 ^ 31 by omega), hL.2 k (by omega)]
    exact ⟨fun e => nxt _ (if_pos e), fun e => nxt _ (if_neg e)⟩
theorem xLc.f {M M' : xM} (h : xLc M L le) (hF : xfr 1 M M') : xLc M' L le := ⟨by rw [hF (xN 1) (xNh_N 1)]; exact h.1, fun j hj => by rw [hF (xN 3) (xNh_N 3)]; exact h.2 j hj⟩
theorem l1_ph {M0 : xM} (hv : xLv L le) (hL0 : xLc M0 L le) : ∀ f i (M : xM) (x : Nat × xh), i ≤ L → L ≤ i + f → (i < L → aFL L le f i = none) → aNow x.1 x.2 → xRc M 1 x.1 x.2 → xfr 1 M0 M → (∀ j, aPh L le f i x = .inl j → ∀ M', xfr 1 M0 M' → R (some (xi (nI j))) M') → (∀ x', aPh L le f i x = .inr x' → ∀ M', xRc M' 1 x'.1 x'.2 → xfr 1 M0 M' → R (some (xi (-9))) M') → xWP pg_X1_firstWrongStatement 2 ([some (xo (xN 1)), some (xo (xH 1)), some (xi (nI i))], [], M) R := by
  have h96 := hv.1
  intro f
  induction f with
  | zero =>
    intro i M x hi hf hg hN hR hF h0 h1
    have hL := hL0.f hF
    exact xgo [] 100 ⟨fun _ => ⟨trivial, h1 x rfl M hR hF⟩, fun z => absurd (by rw [hL.1]; exact nI_le (by omega) (by omega)) z⟩
  | succ f ih =>
    intro i M x hi hf hg hN hR hF h0 h1
    have hL := hL0.f hF
    by_cases hlt : i < L
    · obtain ⟨hst, hnx⟩ := aFL_st (hg hlt)
      obtain ⟨hq, j1, j2, -⟩ := aSt_ok hst
      have hl := aLn_2 _ hq
      have ep : aPh L le (f + 1) i x = (match aDo L le i x with
        | none => .inl i
        | some x' => aPh L le f (aSt L le i).1 x') := if_pos hlt
      refine xgo [21] 100 ⟨fun z => absurd z (by rw [hL.1]; exact nI_ge hlt (by omega)), fun _ => ⟨rfl, c1_letCome i (by omega) hv hL hst hN hR (fun x' hx M1 hR1 hF1 => ⟨fun z => absurd z (by decide), fun _ => ?_⟩) (fun hx => ⟨fun _ => ⟨trivial, h0 i (by rw [ep, hx]) M hF⟩, fun z => absurd rfl z⟩)⟩⟩
      rw [hx] at ep
      have hL1 := hL.f hF1
      show xWP pg_X1_firstWrongStatement 21 ([some (xo (xN 1)), some (xo (xH 1)), some (xi (nI i))], [], M1) R
      refine xgo [31] 100 ⟨rfl, c1_letterAt i (by omega) hv hL1 ⟨rfl, c1_shapeBehind _ ?_⟩⟩
      show xWP pg_X1_firstWrongStatement 31 ([some (xo (xN 1)), some (xo (xH 1)), some (xi (nI i))], [xo (xN (20 + aShp (aAt L le i))), xi 1, xi (nI i)], M1) R
      generalize hqq : aShp (aAt L le i) = q at *
      have hemp : (xoT 1 [xo (xN (20 + q))] && Nat.ble (xcs ([xi 1, xi (nI i)] : List xV)) 8) = true := by
        have h4 : q = 0 ∨ q = 1 ∨ q = 2 ∨ q = 3 := by omega
        rcases h4 with rfl | rfl | rfl | rfl <;> rfl
      refine xgo [2] 100 ⟨hemp, c_length q (by omega) ?_⟩
      show xWP pg_X1_firstWrongStatement 2 ([some (xo (xN 1)), some (xo (xH 1)), some (xi (nI i + (nI 1 + nI (aLn q))))], [], M1) R
      rw [nI_add, nI_add, show i + (1 + aLn q) = (aSt L le i).1 by omega]
      exact ih _ M1 x' j2 (by omega) hnx (aNow_do hv hst hN hx) hR1 (hF.tr hF1) (fun j e => h0 j (ep.trans e)) (fun y e => h1 y (ep.trans e))
    · have ep : aPh L le (f + 1) i x = .inr x := if_neg hlt
      exact xgo [] 100 ⟨fun _ => ⟨trivial, h1 x ep M hR hF⟩, fun z => absurd (by rw [hL.1]; exact nI_le (by omega) (by omega)) z⟩
/-! the model's first loop -/
theorem l3_h1 {M0 : xM} (hv : xLv L le) (hL0 : xLm M0 L le) : ∀ f i (M : xM), i ≤ L → L + 1 ≤ i + f → M (xN 2) 10 = nI i → xfn M0 M → (aFL L le f i = none → ∀ M', xfn M0 M' → xWP pg_X3_hill 46 ([some (xo (xN 2)), some (xi (aSc le L)), some (xi (-9)), none, none, none], [], M') R) → (∀ j a, aFL L le f i = some j → j < 200 → ∀ M', xfn M0 M' → xWP pg_X3_hill 46 ([some (xo (xN 2)), some (xi a), some (xi (-1000 - nI j)), none, none, none], [], M') R) → xWP pg_X3_hill 10 ([some (xo (xN 2)), some (xi (aSc le i)), some (xi (-9)), none, none, none], [], M) R := by
  have h96 := hv.1
  intro f
  induction f with
  | zero => intro i M hi hf; omega
  | succ f ih =>
    intro i M hi hf hp hF h1 h0
    have hL := hL0.f hF
    have hle := aSt_le (L := L) (le := le) i
    refine xgo [46, 10, 26] 100 ⟨rfl, c3_readsStatement i (by omega) hv hL (fun M1 j hs F1 p1 n1 => ?_) (fun M1 j hs F1 p1 => ?_) hp⟩
    · refine ⟨fun z => absurd z (by decide), fun _ => ?_⟩
      have hF1 := hF.tr F1
      have hst : (aSt L le i).2 = true := by rw [hs]
      have hj : (aSt L le i).1 = j := by rw [hs]
      obtain ⟨-, j1, j2, -⟩ := aSt_ok hst
      have e8 : M1 (xN 2) 8 = nI L := (hL.f F1).1
      have ec : aSc le j = aSc le i + 1 := by rw [← hj]; exact aSc_st hst
      show xWP pg_X3_hill 26 ([some (xo (xN 2)), some (xi (aSc le i)), some (xi (-9)), none, none, none], [], M1) R
      refine xgo [10, 46] 100 ⟨fun _ => ⟨fun z => ?_, fun z => ?_⟩, fun z => absurd rfl z⟩
      · rw [p1, e8] at z
        have hlt : j < L := (nI_ltI (by omega) (by omega)).mp z
        show xWP pg_X3_hill 10 ([some (xo (xN 2)), some (xi (aSc le i + 1)), some (xi (-9)), none, none, none], [], M1) R
        rw [← ec]
        have eF : aFL L le (f + 1) i = aFL L le f j := by
          show (if (aSt L le i).2 = true then (if (aSt L le i).1 < L then aFL L le f (aSt L le i).1 else none) else some (aSt L le i).1) = _
          rw [if_pos hst, hj, if_pos hlt]
        exact ih j M1 (by omega) (by omega) p1 hF1 (fun e => h1 (eF.trans e)) (fun k a e => h0 k a (eF.trans e))
      · rw [p1, e8] at z
        have hge : ¬ j < L := fun w => z (nI_lt w (by omega))
        have ejL : j = L := by omega
        have eF : aFL L le (f + 1) i = none := by
          show (if (aSt L le i).2 = true then (if (aSt L le i).1 < L then aFL L le f (aSt L le i).1 else none) else some (aSt L le i).1) = _
          rw [if_pos hst, hj, if_neg hge]
        show xWP pg_X3_hill 46 ([some (xo (xN 2)), some (xi (aSc le i + 1)), some (xi (-9)), none, none, none], [], M1) R
        rw [← ec, ejL]
        exact h1 eF M1 hF1
    · refine ⟨fun _ => ?_, fun z => absurd rfl z⟩
      have hF1 := hF.tr F1
      have hst : ¬ (aSt L le i).2 = true := by rw [hs]; exact Bool.false_ne_true
      have hj : (aSt L le i).1 = j := by rw [hs]
      have eF : aFL L le (f + 1) i = some j := by
        show (if (aSt L le i).2 = true then (if (aSt L le i).1 < L then aFL L le f (aSt L le i).1 else none) else some (aSt L le i).1) = _
        rw [if_neg hst, hj]
      show xWP pg_X3_hill 26 ([some (xo (xN 2)), some (xi (aSc le i)), some (xi (-1000 - M1 (xN 2) 10)), none, none, none], [], M1) R
      rw [p1]
      exact xgo [46] 100 ⟨fun z => absurd z (nI_200 j (by omega)).1, fun _ => h0 j _ eF (by omega) M1 hF1⟩
end XLQ
