/-! ===== a statement comes to the hill ===== -/
def dg (L : Nat) (le : Nat → Int32) (j : Nat) : Nat := (aAt L le j).toNatClampNeg - 48
def dd (L : Nat) (le : Nat → Int32) (j : Nat) : Nat := 10 * dg L le j + dg L le (j + 1)
def aDo (L : Nat) (le : Nat → Int32) (i : Nat) (x : Nat × xh) : Option (Nat × xh) :=
  if aAt L le i = 112 then (if x.1 < 6 then some (x.1 + 1, aAdd x.1 x.2 (aKd (-1) (aAt L le (i + 1))) (nI (dg L le (i + 2))) (nI (dg L le (i + 3)))) else none)
  else if aAt L le i = 102 then (if dg L le (i + 1) < x.1 ∧ dg L le (i + 2) < 6 then some (x.1, hu x.2 4 (dg L le (i + 1)) (nI (dg L le (i + 2)))) else none)
  else if aAt L le i = 103 then (if dg L le (i + 1) < x.1 then some (x.1, hu x.2 3 (dg L le (i + 1)) (nI (dd L le (i + 2)))) else none)
  else if aAt L le i = 119 then some (x.1, hu x.2 5 6 (nI (dd L le (i + 1))))
  else if aAt L le i = 108 then (if dd L le (i + 1) ≤ 30 then some (x.1, hu x.2 5 7 (nI (dd L le (i + 1)))) else none)
  else if aAt L le i = 115 then (if dg L le (i + 1) < x.1 then some (x.1, aSpo x.2 (dg L le (i + 1))) else none)
  else (if 1 ≤ dd L le (i + 1) ∧ dd L le (i + 1) ≤ 60 ∧ x.2 5 8 + nI (dd L le (i + 1)) ≤ 999 then some (x.1, aHrs x.1 x.2 (dd L le (i + 1))) else none)
theorem dg_1 : ∀ c, c < 58 → 48 ≤ c → nI c - 48 = nI (c - 48) := by decide +kernel
theorem dd_1 : ∀ a, a < 10 → ∀ b, b < 10 → 10 * nI a + nI b = nI (10 * a + b) := by decide +kernel
section XDO
variable {L : Nat} {le : Nat → Int32}
theorem dg_eq (hv : xLv L le) {j : Nat} (h : aDg L le j) : aAt L le j - 48 = nI (dg L le j) ∧ dg L le j ≤ 9 := by
  rcases aAt_ch hv.2 j with e | ⟨c, hc, e⟩
  · exact absurd h.1 (by rw [e]; decide)
  · unfold dg
    obtain ⟨h1, h2⟩ := h
    rw [e] at h1 h2 ⊢
    have a1 : 48 ≤ c := nI_le_of (a := 48) h1
    have a2 : c ≤ 57 := nI_le_of (q := 57) h2
    rw [nI_clamp (by omega), dg_1 c (by omega) a1]
    exact ⟨rfl, by omega⟩
theorem dd_eq (hv : xLv L le) {j : Nat} (h : aDg L le j) (h' : aDg L le (j + 1)) : 10 * (aAt L le j - 48) + (aAt L le (j + 1) - 48) = nI (dd L le j) ∧ dd L le j ≤ 99 := by
  obtain ⟨e1, l1⟩ := dg_eq hv h
  obtain ⟨e2, l2⟩ := dg_eq hv h'
  rw [e1, e2, dd_1 _ (by omega) _ (by omega)]
  exact ⟨rfl, by unfold dd; omega⟩
theorem aShp_c {c : Int32} (h : aShp c < 4) : c = 112 ∨ c = 102 ∨ c = 103 ∨ c = 119 ∨ c = 108 ∨ c = 115 ∨ c = 104 := by
  unfold aShp at h
  by_cases h1 : c = 112
  · exact Or.inl h1
  by_cases h2 : c = 102
  · exact Or.inr (Or.inl h2)
  by_cases h3 : c = 103
  · exact Or.inr (Or.inr (Or.inl h3))
  by_cases h4 : c = 119
  · exact Or.inr (Or.inr (Or.inr (Or.inl h4)))
  by_cases h5 : c = 108
  · exact Or.inr (Or.inr (Or.inr (Or.inr (Or.inl h5))))
  by_cases h6 : c = 115
  · exact Or.inr (Or.inr (Or.inr (Or.inr (Or.inr (Or.inl h6)))))
  by_cases h7 : c = 104
  · exact Or.inr (Or.inr (Or.inr (Or.inr (Or.inr (Or.inr h7)))))
  rw [if_neg h1, if_neg h3, if_neg h6, if_neg h2, if_neg h7, if_neg h5, if_neg h4] at h
  omega
theorem aDo_p {i : Nat} {x : Nat × xh} (hc : aAt L le i = 112) : aDo L le i x = (if x.1 < 6 then some (x.1 + 1, aAdd x.1 x.2 (aKd (-1) (aAt L le (i + 1))) (nI (dg L le (i + 2))) (nI (dg L le (i + 3)))) else none) := by
  unfold aDo
  rw [hc, if_pos rfl]
theorem aDo_f {i : Nat} {x : Nat × xh} (hc : aAt L le i = 102) : aDo L le i x = (if dg L le (i + 1) < x.1 ∧ dg L le (i + 2) < 6 then some (x.1, hu x.2 4 (dg L le (i + 1)) (nI (dg L le (i + 2)))) else none) := by
  unfold aDo
  rw [hc, if_neg (show ¬ (102 : Int32) = 112 by decide), if_pos rfl]
theorem aDo_g {i : Nat} {x : Nat × xh} (hc : aAt L le i = 103) : aDo L le i x = (if dg L le (i + 1) < x.1 then some (x.1, hu x.2 3 (dg L le (i + 1)) (nI (dd L le (i + 2)))) else none) := by
  unfold aDo
  rw [hc, if_neg (show ¬ (103 : Int32) = 112 by decide), if_neg (show ¬ (103 : Int32) = 102 by decide), if_pos rfl]
theorem aDo_w {i : Nat} {x : Nat × xh} (hc : aAt L le i = 119) : aDo L le i x = some (x.1, hu x.2 5 6 (nI (dd L le (i + 1)))) := by
  unfold aDo
  rw [hc, if_neg (show ¬ (119 : Int32) = 112 by decide), if_neg (show ¬ (119 : Int32) = 102 by decide), if_neg (show ¬ (119 : Int32) = 103 by decide), if_pos rfl]
theorem aDo_l {i : Nat} {x : Nat × xh} (hc : aAt L le i = 108) : aDo L le i x = (if dd L le (i + 1) ≤ 30 then some (x.1, hu x.2 5 7 (nI (dd L le (i + 1)))) else none) := by
  unfold aDo
  rw [hc, if_neg (show ¬ (108 : Int32) = 112 by decide), if_neg (show ¬ (108 : Int32) = 102 by decide), if_neg (show ¬ (108 : Int32) = 103 by decide), if_neg (show ¬ (108 : Int32) = 119 by decide), if_pos rfl]
theorem aDo_s {i : Nat} {x : Nat × xh} (hc : aAt L le i = 115) : aDo L le i x = (if dg L le (i + 1) < x.1 then some (x.1, aSpo x.2 (dg L le (i + 1))) else none) := by
  unfold aDo
  rw [hc, if_neg (show ¬ (115 : Int32) = 112 by decide), if_neg (show ¬ (115 : Int32) = 102 by decide), if_neg (show ¬ (115 : Int32) = 103 by decide), if_neg (show ¬ (115 : Int32) = 119 by decide), if_neg (show ¬ (115 : Int32) = 108 by decide), if_pos rfl]
theorem aDo_h {i : Nat} {x : Nat × xh} (hc : aAt L le i = 104) : aDo L le i x = (if 1 ≤ dd L le (i + 1) ∧ dd L le (i + 1) ≤ 60 ∧ x.2 5 8 + nI (dd L le (i + 1)) ≤ 999 then some (x.1, aHrs x.1 x.2 (dd L le (i + 1))) else none) := by
  unfold aDo
  rw [hc, if_neg (show ¬ (104 : Int32) = 112 by decide), if_neg (show ¬ (104 : Int32) = 102 by decide), if_neg (show ¬ (104 : Int32) = 103 by decide), if_neg (show ¬ (104 : Int32) = 119 by decide), if_neg (show ¬ (104 : Int32) = 108 by decide), if_neg (show ¬ (104 : Int32) = 115 by decide)]
theorem st_p {i : Nat} (hc : aAt L le i = 112) (h : (aSt L le i).2 = true) : 0 ≤ aKd (-1) (aAt L le (i + 1)) ∧ aDg L le (i + 2) ∧ aDg L le (i + 3) := by
  obtain ⟨-, -, -, h4⟩ := aSt_ok h
  rw [hc, show aShp 112 = 0 from by decide] at h4
  exact ⟨(by have := h4 0 (by decide); rw [show aBy 0 0 = 107 from rfl, aFt_k] at this; exact this), (by have := h4 1 (by decide); rw [show aBy 0 1 = 100 from rfl, aFt_d] at this; exact this), (by have := h4 2 (by decide); rw [show aBy 0 2 = 100 from rfl, aFt_d] at this; exact this)⟩
theorem st_f {i : Nat} (hc : aAt L le i = 102) (h : (aSt L le i).2 = true) : aDg L le (i + 1) ∧ aDg L le (i + 2) := by
  obtain ⟨-, -, -, h4⟩ := aSt_ok h
  rw [hc, show aShp 102 = 1 from by decide] at h4
  exact ⟨(by have := h4 0 (by decide); rw [show aBy 1 0 = 100 from rfl, aFt_d] at this; exact this), (by have := h4 1 (by decide); rw [show aBy 1 1 = 100 from rfl, aFt_d] at this; exact this)⟩
theorem st_g {i : Nat} (hc : aAt L le i = 103) (h : (aSt L le i).2 = true) : aDg L le (i + 1) ∧ aDg L le (i + 2) ∧ aDg L le (i + 3) := by
  obtain ⟨-, -, -, h4⟩ := aSt_ok h
  rw [hc, show aShp 103 = 2 from by decide] at h4
  exact ⟨(by have := h4 0 (by decide); rw [show aBy 2 0 = 100 from rfl, aFt_d] at this; exact this), (by have := h4 1 (by decide); rw [show aBy 2 1 = 100 from rfl, aFt_d] at this; exact this), (by have := h4 2 (by decide); rw [show aBy 2 2 = 100 from rfl, aFt_d] at this; exact this)⟩
theorem st_w {i : Nat} (hc : aAt L le i = 119) (h : (aSt L le i).2 = true) : aDg L le (i + 1) ∧ aDg L le (i + 2) := by
  obtain ⟨-, -, -, h4⟩ := aSt_ok h
  rw [hc, show aShp 119 = 1 from by decide] at h4
  exact ⟨(by have := h4 0 (by decide); rw [show aBy 1 0 = 100 from rfl, aFt_d] at this; exact this), (by have := h4 1 (by decide); rw [show aBy 1 1 = 100 from rfl, aFt_d] at this; exact this)⟩
theorem st_l {i : Nat} (hc : aAt L le i = 108) (h : (aSt L le i).2 = true) : aDg L le (i + 1) ∧ aDg L le (i + 2) := by
  obtain ⟨-, -, -, h4⟩ := aSt_ok h
  rw [hc, show aShp 108 = 1 from by decide] at h4
  exact ⟨(by have := h4 0 (by decide); rw [show aBy 1 0 = 100 from rfl, aFt_d] at this; exact this), (by have := h4 1 (by decide); rw [show aBy 1 1 = 100 from rfl, aFt_d] at this; exact this)⟩
theorem st_s {i : Nat} (hc : aAt L le i = 115) (h : (aSt L le i).2 = true) : aDg L le (i + 1) := by
  obtain ⟨-, -, -, h4⟩ := aSt_ok h
  rw [hc, show aShp 115 = 3 from by decide] at h4
  exact (by have := h4 0 (by decide); rw [show aBy 3 0 = 100 from rfl, aFt_d] at this; exact this)
theorem st_h {i : Nat} (hc : aAt L le i = 104) (h : (aSt L le i).2 = true) : aDg L le (i + 1) ∧ aDg L le (i + 2) := by
  obtain ⟨-, -, -, h4⟩ := aSt_ok h
  rw [hc, show aShp 104 = 1 from by decide] at h4
  exact ⟨(by have := h4 0 (by decide); rw [show aBy 1 0 = 100 from rfl, aFt_d] at this; exact this), (by have := h4 1 (by decide); rw [show aBy 1 1 = 100 from rfl, aFt_d] at this; exact this)⟩
theorem aNow_do {i : Nat} {x x' : Nat × xh} (hv : xLv L le) (h : (aSt L le i).2 = true) (H : aNow x.1 x.2) (hd : aDo L le i x = some x') : aNow x'.1 x'.2 := by
  rcases aShp_c (aSt_ok h).1 with hc | hc | hc | hc | hc | hc | hc
  · obtain ⟨-, e2, e3⟩ := st_p hc h
    rw [aDo_p hc] at hd
    by_cases g : x.1 < 6
    · rw [if_pos g] at hd; cases hd
      exact aNow_add H g _ _ (dg_eq hv e3).2
    · rw [if_neg g] at hd; cases hd
  · obtain ⟨e1, e2⟩ := st_f hc h
    rw [aDo_f hc] at hd
    by_cases g : dg L le (i + 1) < x.1 ∧ dg L le (i + 2) < 6
    · rw [if_pos g] at hd; cases hd
      exact aNow_ar H (by omega) (aBd_friend H.1 (by omega))
    · rw [if_neg g] at hd; cases hd
  · obtain ⟨e1, e2, e3⟩ := st_g hc h
    rw [aDo_g hc] at hd
    by_cases g : dg L le (i + 1) < x.1
    · rw [if_pos g] at hd; cases hd
      exact aNow_has H (dd_eq hv e2 e3).2
    · rw [if_neg g] at hd; cases hd
  · obtain ⟨e1, e2⟩ := st_w hc h
    rw [aDo_w hc] at hd; cases hd
    exact aNow_water H (dd_eq hv e1 e2).2
  · rw [aDo_l hc] at hd
    by_cases g : dd L le (i + 1) ≤ 30
    · rw [if_pos g] at hd; cases hd
      exact aNow_flow H g
    · rw [if_neg g] at hd; cases hd
  · rw [aDo_s hc] at hd
    by_cases g : dg L le (i + 1) < x.1
    · rw [if_pos g] at hd; cases hd
      exact aNow_spo H g
    · rw [if_neg g] at hd; cases hd
  · rw [aDo_h hc] at hd
    by_cases g : 1 ≤ dd L le (i + 1) ∧ dd L le (i + 1) ≤ 60 ∧ x.2 5 8 + nI (dd L le (i + 1)) ≤ 999
    · rw [if_pos g] at hd; cases hd
      obtain ⟨t, ht, et⟩ := H.2.1
      refine aNow_hrs H ⟨t, ?_, et⟩
      have g3 := g.2.2
      rw [et] at g3
      exact (xlim ht g.2.1).mp g3
    · rw [if_neg g] at hd; cases hd
end XDO
theorem nI_p2 (i : Nat) : nI i + 2 = nI (i + 2) := nI_add i 2
theorem nI_p3 (i : Nat) : nI i + 3 = nI (i + 3) := nI_add i 3
section XLC
variable {M : xM} {n : Nat} {h : xh} {R : xR} {L : Nat} {le : Nat → Int32}
theorem l1_lc_p (i : Nat) (hi : i < 2 ^ 20) (hv : xLv L le) (hL : xLc M L le) (hst : (aSt L le i).2 = true) (hB : aNow n h) (hR : xRc M 1 n h) (h1 : ∀ x', aDo L le i (n, h) = some x' → ∀ M', xRc M' 1 x'.1 x'.2 → xfr 1 M M' → R (some (xi 1)) M') (h0 : aDo L le i (n, h) = none → R (some (xi 0)) M) (hc : aAt L le i = 112) : xWP pg_X1_letCome 120 ([some (xo (xN 1)), some (xo (xH 1)), some (xi (nI i)), some (xi (aKd (-1) (aAt L le (i + 1)))), some (xi (aAt L le (i + 1) - 48)), some (xi (10 * (aAt L le (i + 1) - 48) + (aAt L le (i + 2) - 48)))], [], M) R := by
  have hn := hB.1.1
  obtain ⟨e1, e2, e3⟩ := st_p hc hst
  have d2 := dg_eq hv e2
  have d3 := dg_eq hv e3
  refine xgo [126] 100 ?_
  show xWP pg_X1_letCome 126 ([some (xo (xN 1)), some (xo (xH 1)), some (xi (nI i)), some (xi (aKd (-1) (aAt L le (i + 1)))), some (xi (aAt L le (i + 1) - 48)), some (xi (10 * (aAt L le (i + 1) - 48) + (aAt L le (i + 2) - 48)))], [xi (nI i + 2), xo (xN 1), xi (aKd (-1) (aAt L le (i + 1))), xo (xH 1)], M) R
  rw [nI_p2]
  refine xgo [133] 100 ⟨rfl, c1_digitAt (i + 2) (by omega) hv hL ?_⟩
  show xWP pg_X1_letCome 133 ([some (xo (xN 1)), some (xo (xH 1)), some (xi (nI i)), some (xi (aKd (-1) (aAt L le (i + 1)))), some (xi (aAt L le (i + 1) - 48)), some (xi (10 * (aAt L le (i + 1) - 48) + (aAt L le (i + 2) - 48)))], [xi (nI i + 3), xo (xN 1), xi (aAt L le (i + 2) - 48), xi (aKd (-1) (aAt L le (i + 1))), xo (xH 1)], M) R
  rw [nI_p3]
  refine xgo [] 100 ⟨rfl, c1_digitAt (i + 3) (by omega) hv hL ⟨rfl, c0_addPerson _ _ _ hn hR (fun g M' hR' hF' => ⟨Or.inr rfl, h1 _ ((aDo_p hc).trans (if_pos g)) M' ?_ hF'⟩) (fun g => ⟨Or.inl rfl, h0 ((aDo_p hc).trans (if_neg g))⟩)⟩⟩
  rw [d2.1, d3.1] at hR'
  exact hR'
theorem l1_lc_f (i : Nat) (hi : i < 2 ^ 20) (hv : xLv L le) (hL : xLc M L le) (hst : (aSt L le i).2 = true) (hB : aNow n h) (hR : xRc M 1 n h) (h1 : ∀ x', aDo L le i (n, h) = some x' → ∀ M', xRc M' 1 x'.1 x'.2 → xfr 1 M M' → R (some (xi 1)) M') (h0 : aDo L le i (n, h) = none → R (some (xi 0)) M) (hc : aAt L le i = 102) : xWP pg_X1_letCome 140 ([some (xo (xN 1)), some (xo (xH 1)), some (xi (nI i)), some (xi (aKd (-1) (aAt L le (i + 1)))), some (xi (aAt L le (i + 1) - 48)), some (xi (10 * (aAt L le (i + 1) - 48) + (aAt L le (i + 2) - 48)))], [], M) R := by
  have hn := hB.1.1
  obtain ⟨e1, e2⟩ := st_f hc hst
  have d1 := dg_eq hv e1
  have d2 := dg_eq hv e2
  refine xgo [147] 100 ?_
  show xWP pg_X1_letCome 147 ([some (xo (xN 1)), some (xo (xH 1)), some (xi (nI i)), some (xi (aKd (-1) (aAt L le (i + 1)))), some (xi (aAt L le (i + 1) - 48)), some (xi (10 * (aAt L le (i + 1) - 48) + (aAt L le (i + 2) - 48)))], [xi (nI i + 2), xo (xN 1), xi (aAt L le (i + 1) - 48), xo (xH 1)], M) R
  rw [nI_p2]
  refine xgo [150] 100 ⟨rfl, c1_digitAt (i + 2) (by omega) hv hL ?_⟩
  show xWP pg_X1_letCome 150 ([some (xo (xN 1)), some (xo (xH 1)), some (xi (nI i)), some (xi (aKd (-1) (aAt L le (i + 1)))), some (xi (aAt L le (i + 1) - 48)), some (xi (10 * (aAt L le (i + 1) - 48) + (aAt L le (i + 2) - 48)))], [xi (aAt L le (i + 2) - 48), xi (aAt L le (i + 1) - 48), xo (xH 1)], M) R
  generalize ([some (xo (xN 1)), some (xo (xH 1)), some (xi (nI i)), some (xi (aKd (-1) (aAt L le (i + 1)))), some (xi (aAt L le (i + 1) - 48)), some (xi (10 * (aAt L le (i + 1) - 48) + (aAt L le (i + 2) - 48)))] : List (Option xV)) = lo
  rw [d1.1, d2.1]
  refine xgo [] 100 ⟨rfl, ?_⟩
  have no : ¬ (dg L le (i + 1) < n ∧ dg L le (i + 2) < 6) → R (some (xi 0)) M := fun g => h0 ((aDo_f hc).trans (if_neg g))
  refine xgo [18, 20] 100 ⟨rfl, c0_isThere _ hR (fun a => ⟨fun z => absurd z (by decide), fun _ => ⟨fun z => absurd z (nI_pos (by omega)), fun _ => ⟨fun z => ?_, fun z => ?_⟩⟩⟩) (fun a => ⟨fun _ => ?_, fun z => absurd rfl z⟩)⟩
  · have g1 : dg L le (i + 1) < n := (nI_ltI (by omega) (by omega)).mp a.2
    have g2 : dg L le (i + 2) < 6 := (nI_ltI (b := 6) (by omega) (by omega)).mp z
    refine xgo [] 100 ⟨xin6 g1 hn, Or.inr rfl, Or.inr rfl, ?_⟩
    rw [xcl g1 hn]
    exact h1 _ ((aDo_f hc).trans (if_pos ⟨g1, g2⟩)) _ (hR.ua 4 _ _) (xfr.rf.ua 4 _ _)
  · exact xgo [] 100 ⟨Or.inl rfl, Or.inl rfl, no (fun g => z (nI_lt (b := 6) g.2 (by omega)))⟩
  · exact xgo [] 100 ⟨Or.inl rfl, Or.inl rfl, no (fun g => a ⟨nI_le (a := 0) (by omega) (by omega), nI_lt g.1 (by omega)⟩)⟩
theorem l1_lc_g (i : Nat) (hi : i < 2 ^ 20) (hv : xLv L le) (hL : xLc M L le) (hst : (aSt L le i).2 = true) (hB : aNow n h) (hR : xRc M 1 n h) (h1 : ∀ x', aDo L le i (n, h) = some x' → ∀ M', xRc M' 1 x'.1 x'.2 → xfr 1 M M' → R (some (xi 1)) M') (h0 : aDo L le i (n, h) = none → R (some (xi 0)) M) (hc : aAt L le i = 103) : xWP pg_X1_letCome 154 ([some (xo (xN 1)), some (xo (xH 1)), some (xi (nI i)), some (xi (aKd (-1) (aAt L le (i + 1)))), some (xi (aAt L le (i + 1) - 48)), some (xi (10 * (aAt L le (i + 1) - 48) + (aAt L le (i + 2) - 48)))], [], M) R := by
  have hn := hB.1.1
  obtain ⟨e1, e2, e3⟩ := st_g hc hst
  have d1 := dg_eq hv e1
  have d2 := dd_eq hv e2 e3
  refine xgo [161] 100 ?_
  show xWP pg_X1_letCome 161 ([some (xo (xN 1)), some (xo (xH 1)), some (xi (nI i)), some (xi (aKd (-1) (aAt L le (i + 1)))), some (xi (aAt L le (i + 1) - 48)), some (xi (10 * (aAt L le (i + 1) - 48) + (aAt L le (i + 2) - 48)))], [xi (nI i + 2), xo (xN 1), xi (aAt L le (i + 1) - 48), xo (xH 1)], M) R
  rw [nI_p2]
  refine xgo [164] 100 ⟨rfl, c1_twoDigitsAt (i + 2) (by omega) hv hL ?_⟩
  show xWP pg_X1_letCome 164 ([some (xo (xN 1)), some (xo (xH 1)), some (xi (nI i)), some (xi (aKd (-1) (aAt L le (i + 1)))), some (xi (aAt L le (i + 1) - 48)), some (xi (10 * (aAt L le (i + 1) - 48) + (aAt L le (i + 2) - 48)))], [xi (10 * (aAt L le (i + 2) - 48) + (aAt L le (i + 2 + 1) - 48)), xi (aAt L le (i + 1) - 48), xo (xH 1)], M) R
  generalize ([some (xo (xN 1)), some (xo (xH 1)), some (xi (nI i)), some (xi (aKd (-1) (aAt L le (i + 1)))), some (xi (aAt L le (i + 1) - 48)), some (xi (10 * (aAt L le (i + 1) - 48) + (aAt L le (i + 2) - 48)))] : List (Option xV)) = lo
  rw [d1.1, d2.1]
  refine xgo [] 100 ⟨rfl, ?_⟩
  refine xgo [18, 20] 100 ⟨rfl, c0_isThere _ hR (fun a => ⟨fun z => absurd z (by decide), fun _ => ⟨fun z => absurd z (nI_pos (by omega)), fun _ => ⟨fun z => ?_, fun z => absurd (nI_le (b := 99) (by omega) (by omega)) z⟩⟩⟩) (fun a => ⟨fun _ => ?_, fun z => absurd rfl z⟩)⟩
  · have g1 : dg L le (i + 1) < n := (nI_ltI (by omega) (by omega)).mp a.2
    refine xgo [] 100 ⟨xin6 g1 hn, Or.inr rfl, Or.inr rfl, ?_⟩
    rw [xcl g1 hn]
    exact h1 _ ((aDo_g hc).trans (if_pos g1)) _ (hR.ua 3 _ _) (xfr.rf.ua 3 _ _)
  · exact xgo [] 100 ⟨Or.inl rfl, Or.inl rfl, h0 ((aDo_g hc).trans (if_neg (fun g => a ⟨nI_le (a := 0) (by omega) (by omega), nI_lt g (by omega)⟩)))⟩
theorem l1_lc_w (i : Nat) (hi : i < 2 ^ 20) (hv : xLv L le) (hL : xLc M L le) (hst : (aSt L le i).2 = true) (hB : aNow n h) (hR : xRc M 1 n h) (h1 : ∀ x', aDo L le i (n, h) = some x' → ∀ M', xRc M' 1 x'.1 x'.2 → xfr 1 M M' → R (some (xi 1)) M') (h0 : aDo L le i (n, h) = none → R (some (xi 0)) M) (hc : aAt L le i = 119) : xWP pg_X1_letCome 168 ([some (xo (xN 1)), some (xo (xH 1)), some (xi (nI i)), some (xi (aKd (-1) (aAt L le (i + 1)))), some (xi (aAt L le (i + 1) - 48)), some (xi (10 * (aAt L le (i + 1) - 48) + (aAt L le (i + 2) - 48)))], [], M) R := by
  have hn := hB.1.1
  obtain ⟨e1, e2⟩ := st_w hc hst
  have d2 := dd_eq hv e1 e2
  refine xgo [171] 100 ?_
  show xWP pg_X1_letCome 171 ([some (xo (xN 1)), some (xo (xH 1)), some (xi (nI i)), some (xi (aKd (-1) (aAt L le (i + 1)))), some (xi (aAt L le (i + 1) - 48)), some (xi (10 * (aAt L le (i + 1) - 48) + (aAt L le (i + 2) - 48)))], [xi (10 * (aAt L le (i + 1) - 48) + (aAt L le (i + 1 + 1) - 48)), xo (xH 1)], M) R
  generalize ([some (xo (xN 1)), some (xo (xH 1)), some (xi (nI i)), some (xi (aKd (-1) (aAt L le (i + 1)))), some (xi (aAt L le (i + 1) - 48)), some (xi (10 * (aAt L le (i + 1) - 48) + (aAt L le (i + 2) - 48)))] : List (Option xV)) = lo
  rw [d2.1]
  refine xgo [] 100 ⟨rfl, ?_⟩
  exact xgo [] 100 ⟨fun z => absurd z (nI_pos (by omega)), fun _ => ⟨fun z => ⟨Or.inr rfl, Or.inr rfl, h1 _ (aDo_w hc) _ (hR.us 6 (by omega) _) (xfr.rf.us 6 _)⟩, fun z => absurd (nI_le (b := 99) (by omega) (by omega)) z⟩⟩
theorem l1_lc_l (i : Nat) (hi : i < 2 ^ 20) (hv : xLv L le) (hL : xLc M L le) (hst : (aSt L le i).2 = true) (hB : aNow n h) (hR : xRc M 1 n h) (h1 : ∀ x', aDo L le i (n, h) = some x' → ∀ M', xRc M' 1 x'.1 x'.2 → xfr 1 M M' → R (some (xi 1)) M') (h0 : aDo L le i (n, h) = none → R (some (xi 0)) M) (hc : aAt L le i = 108) : xWP pg_X1_letCome 175 ([some (xo (xN 1)), some (xo (xH 1)), some (xi (nI i)), some (xi (aKd (-1) (aAt L le (i + 1)))), some (xi (aAt L le (i + 1) - 48)), some (xi (10 * (aAt L le (i + 1) - 48) + (aAt L le (i + 2) - 48)))], [], M) R := by
  have hn := hB.1.1
  obtain ⟨e1, e2⟩ := st_l hc hst
  have d2 := dd_eq hv e1 e2
  refine xgo [178] 100 ?_
  show xWP pg_X1_letCome 178 ([some (xo (xN 1)), some (xo (xH 1)), some (xi (nI i)), some (xi (aKd (-1) (aAt L le (i + 1)))), some (xi (aAt L le (i + 1) - 48)), some (xi (10 * (aAt L le (i + 1) - 48) + (aAt L le (i + 2) - 48)))], [xi (10 * (aAt L le (i + 1) - 48) + (aAt L le (i + 1 + 1) - 48)), xo (xH 1)], M) R
  generalize ([some (xo (xN 1)), some (xo (xH 1)), some (xi (nI i)), some (xi (aKd (-1) (aAt L le (i + 1)))), some (xi (aAt L le (i + 1) - 48)), some (xi (10 * (aAt L le (i + 1) - 48) + (aAt L le (i + 2) - 48)))] : List (Option xV)) = lo
  rw [d2.1]
  refine xgo [] 100 ⟨rfl, ?_⟩
  exact xgo [] 100 ⟨fun z => absurd z (nI_pos (by omega)), fun _ => ⟨fun z => ⟨Or.inr rfl, Or.inr rfl, h1 _ ((aDo_l hc).trans (if_pos (nI_le_of (q := 30) z))) _ (hR.us 7 (by omega) _) (xfr.rf.us 7 _)⟩, fun z => ⟨Or.inl rfl, Or.inl rfl, h0 ((aDo_l hc).trans (if_neg (fun g => z (nI_le (b := 30) g (by omega)))))⟩⟩⟩
theorem l1_lc_s (i : Nat) (hi : i < 2 ^ 20) (hv : xLv L le) (hL : xLc M L le) (hst : (aSt L le i).2 = true) (hB : aNow n h) (hR : xRc M 1 n h) (h1 : ∀ x', aDo L le i (n, h) = some x' → ∀ M', xRc M' 1 x'.1 x'.2 → xfr 1 M M' → R (some (xi 1)) M') (h0 : aDo L le i (n, h) = none → R (some (xi 0)) M) (hc : aAt L le i = 115) : xWP pg_X1_letCome 182 ([some (xo (xN 1)), some (xo (xH 1)), some (xi (nI i)), some (xi (aKd (-1) (aAt L le (i + 1)))), some (xi (aAt L le (i + 1) - 48)), some (xi (10 * (aAt L le (i + 1) - 48) + (aAt L le (i + 2) - 48)))], [], M) R := by
  have hn := hB.1.1
  have e1 := st_s hc hst
  have d1 := dg_eq hv e1
  refine xgo [185] 100 ?_
  show xWP pg_X1_letCome 185 ([some (xo (xN 1)), some (xo (xH 1)), some (xi (nI i)), some (xi (aKd (-1) (aAt L le (i + 1)))), some (xi (aAt L le (i + 1) - 48)), some (xi (10 * (aAt L le (i + 1) - 48) + (aAt L le (i + 2) - 48)))], [xi (aAt L le (i + 1) - 48), xo (xH 1)], M) R
  generalize ([some (xo (xN 1)), some (xo (xH 1)), some (xi (nI i)), some (xi (aKd (-1) (aAt L le (i + 1)))), some (xi (aAt L le (i + 1) - 48)), some (xi (10 * (aAt L le (i + 1) - 48) + (aAt L le (i + 2) - 48)))] : List (Option xV)) = lo
  rw [d1.1]
  by_cases g : dg L le (i + 1) < n
  · exact xgo [] 100 ⟨rfl, c0_letSpeak _ hn g hR (fun M' hR' hF' => ⟨Or.inr rfl, h1 _ ((aDo_s hc).trans (if_pos g)) M' hR' hF'⟩)⟩
  · refine xgo [] 100 ⟨rfl, ?_⟩
    exact xgo [] 100 ⟨rfl, c0_isThere _ hR (fun a => absurd ((nI_ltI (by omega) (by omega)).mp a.2) g) (fun a => ⟨fun _ => ⟨Or.inl rfl, Or.inl rfl, h0 ((aDo_s hc).trans (if_neg g))⟩, fun z => absurd rfl z⟩)⟩
theorem l1_lc_h (i : Nat) (hi : i < 2 ^ 20) (hv : xLv L le) (hL : xLc M L le) (hst : (aSt L le i).2 = true) (hB : aNow n h) (hR : xRc M 1 n h) (h1 : ∀ x', aDo L le i (n, h) = some x' → ∀ M', xRc M' 1 x'.1 x'.2 → xfr 1 M M' → R (some (xi 1)) M') (h0 : aDo L le i (n, h) = none → R (some (xi 0)) M) (hc : aAt L le i = 104) : xWP pg_X1_letCome 189 ([some (xo (xN 1)), some (xo (xH 1)), some (xi (nI i)), some (xi (aKd (-1) (aAt L le (i + 1)))), some (xi (aAt L le (i + 1) - 48)), some (xi (10 * (aAt L le (i + 1) - 48) + (aAt L le (i + 2) - 48)))], [], M) R := by
  have hn := hB.1.1
  obtain ⟨e1, e2⟩ := st_h hc hst
  have d2 := dd_eq hv e1 e2
  have hx : ([some (xo (xN 1)), some (xo (xH 1)), some (xi (nI i)), some (xi (aKd (-1) (aAt L le (i + 1)))), some (xi (aAt L le (i + 1) - 48)), some (xi (10 * (aAt L le (i + 1) - 48) + (aAt L le (i + 2) - 48)))] : List (Option xV)) = [some (xo (xN 1)), some (xo (xH 1)), some (xi (nI i)), some (xi (aKd (-1) (aAt L le (i + 1)))), some (xi (aAt L le (i + 1) - 48)), some (xi (nI (dd L le (i + 1))))] := by rw [← d2.1]
  rw [hx]
  refine xgo [] 100 ⟨rfl, c0_mayPass _ hR (fun a b c => ⟨fun z => absurd z (by decide), fun _ => ⟨rfl, c0_passHours (dd L le (i + 1)) (by omega) hB.1.ok hR (fun M' hR' hF' => ⟨Or.inr rfl, h1 _ ((aDo_h hc).trans (if_pos ⟨nI_le_of (a := 1) a, nI_le_of (q := 60) b, c⟩)) M' hR' hF'⟩)⟩⟩) (fun a => ⟨fun _ => ⟨Or.inl rfl, h0 ((aDo_h hc).trans (if_neg (fun g => a ⟨nI_le (a := 1) g.1 (by omega), nI_le (b := 60) g.2.1 (by omega), g.2.2⟩)))⟩, fun z => absurd rfl z⟩)⟩
theorem c1_letCome (i : Nat) (hi : i < 2 ^ 20) (hv : xLv L le) (hL : xLc M L le) (hst : (aSt L le i).2 = true) (hB : aNow n h) (hR : xRc M 1 n h) (h1 : ∀ x', aDo L le i (n, h) = some x' → ∀ M', xRc M' 1 x'.1 x'.2 → xfr 1 M M' → R (some (xi 1)) M') (h0 : aDo L le i (n, h) = none → R (some (xi 0)) M) : xWP pg_X1_letCome 0 ([some (xo (xN 1)), some (xo (xH 1)), some (xi (nI i)), none, none, none], [], M) R := by
  refine xgo [4] 100 ?_
  show xWP pg_X1_letCome 4 ([some (xo (xN 1)), some (xo (xH 1)), some (xi (nI i)), none, none, none], [xi (nI i + 1), xo (xN 1)], M) R
  rw [nI_1]
  refine xgo [15] 100 ⟨rfl, c1_letterAt (i + 1) (by omega) hv hL ⟨rfl, c1_kindOf _ (aAt_ch hv.2 _) ?_⟩⟩
  show xWP pg_X1_letCome 15 ([some (xo (xN 1)), some (xo (xH 1)), some (xi (nI i)), some (xi (aKd (-1) (aAt L le (i + 1)))), none, none], [xi (nI i + 1), xo (xN 1)], M) R
  rw [nI_1]
  refine xgo [24] 100 ⟨rfl, c1_digitAt (i + 1) (by omega) hv hL ?_⟩
  show xWP pg_X1_letCome 24 ([some (xo (xN 1)), some (xo (xH 1)), some (xi (nI i)), some (xi (aKd (-1) (aAt L le (i + 1)))), some (xi (aAt L le (i + 1) - 48)), none], [xi (nI i + 1), xo (xN 1)], M) R
  rw [nI_1]
  refine xgo [34] 100 ⟨rfl, c1_twoDigitsAt (i + 1) (by omega) hv hL ⟨rfl, c1_letterAt i (by omega) hv hL ?_⟩⟩
  show xWP pg_X1_letCome 34 ([some (xo (xN 1)), some (xo (xH 1)), some (xi (nI i)), some (xi (aKd (-1) (aAt L le (i + 1)))), some (xi (aAt L le (i + 1) - 48)), some (xi (10 * (aAt L le (i + 1) - 48) + (aAt L le (i + 2) - 48)))], [xi (aAt L le i)], M) R
  generalize hlo : ([some (xo (xN 1)), some (xo (xH 1)), some (xi (nI i)), some (xi (aKd (-1) (aAt L le (i + 1)))), some (xi (aAt L le (i + 1) - 48)), some (xi (10 * (aAt L le (i + 1) - 48) + (aAt L le (i + 2) - 48)))] : List (Option xV)) = lo
  rcases aShp_c (aSt_ok hst).1 with hc | hc | hc | hc | hc | hc | hc
  · rw [hc]
    refine xgo [120] 100 (xsw_i ?_)
    show xWP pg_X1_letCome 120 (lo, [], M) R
    rw [← hlo]
    exact l1_lc_p i hi hv hL hst hB hR h1 h0 hc
  · rw [hc]
    refine xgo [140] 100 (xsw_i ?_)
    show xWP pg_X1_letCome 140 (lo, [], M) R
    rw [← hlo]
    exact l1_lc_f i hi hv hL hst hB hR h1 h0 hc
  · rw [hc]
    refine xgo [154] 100 (xsw_i ?_)
    show xWP pg_X1_letCome 154 (lo, [], M) R
    rw [← hlo]
    exact l1_lc_g i hi hv hL hst hB hR h1 h0 hc
  · rw [hc]
    refine xgo [168] 100 (xsw_i ?_)
    show xWP pg_X1_letCome 168 (lo, [], M) R
    rw [← hlo]
    exact l1_lc_w i hi hv hL hst hB hR h1 h0 hc
  · rw [hc]
    refine xgo [175] 100 (xsw_i ?_)
    show xWP pg_X1_letCome 175 (lo, [], M) R
    rw [← hlo]
    exact l1_lc_l i hi hv hL hst hB hR h1 h0 hc
  · rw [hc]
    refine xgo [182] 100 (xsw_i ?_)
    show xWP pg_X1_letCome 182 (lo, [], M) R
    rw [← hlo]
    exact l1_lc_s i hi hv hL hst hB hR h1 h0 hc
  · rw [hc]
    refine xgo [189] 100 (xsw_i ?_)
    show xWP pg_X1_letCome 189 (lo, [], M) R
    rw [← hlo]
    exact l1_lc_h i hi hv hL hst hB hR h1 h0 hc
end XLC
