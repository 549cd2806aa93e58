/-! ===== who is dry first; the best flow, the best can ===== -/
theorem aFst_spec (f : Nat → Int32) : ∀ d, d ≤ 61 → (aFst f d = -9 ∧ ∀ k, 61 - d ≤ k → k ≤ 60 → f k ≠ 0) ∨ (∃ K, 61 - d ≤ K ∧ K ≤ 60 ∧ aFst f d = nI K ∧ f K = 0 ∧ ∀ k, 61 - d ≤ k → k < K → f k ≠ 0)
  | 0, _ => Or.inl ⟨rfl, fun k h1 h2 => by omega⟩
  | d + 1, hd => by
    unfold aFst
    by_cases c : f (61 - (d + 1)) = 0
    · rw [if_pos c]
      exact Or.inr ⟨61 - (d + 1), by omega, by omega, rfl, c, fun k h1 h2 => by omega⟩
    · rw [if_neg c]
      rcases aFst_spec f d (by omega) with ⟨h1, h2⟩ | ⟨K, h1, h2, h3, h4, h5⟩
      · refine Or.inl ⟨h1, fun k a b => ?_⟩
        by_cases e : k = 61 - (d + 1)
        · rw [e]; exact c
        · exact h2 k (by omega) b
      · refine Or.inr ⟨K, by omega, h2, h3, h4, fun k a b => ?_⟩
        by_cases e : k = 61 - (d + 1)
        · rw [e]; exact c
        · exact h5 k (by omega) b
/-- who goes dry first, of several the least -/
def isFD (n : Nat) (f : Nat → Nat → Int32) (r : Int32) : Prop := (r = -9 ∧ ∀ k, k ≤ 60 → ∀ p, p < n → f k p ≠ 0) ∨ (∃ K P, K ≤ 60 ∧ P < n ∧ r = nI P ∧ f K P = 0 ∧ (∀ k, k < K → ∀ p, p < n → f k p ≠ 0) ∧ ∀ p, p < P → f K p ≠ 0)
theorem isFD_u {n : Nat} {f : Nat → Nat → Int32} {r r' : Int32} (h : isFD n f r) (h' : isFD n f r') : r = r' := by
  rcases h with ⟨e, h⟩ | ⟨K, P, h1, h2, h3, h4, h5, h6⟩
  · rcases h' with ⟨e', h'⟩ | ⟨K', P', g1, g2, g3, g4, g5, g6⟩
    · rw [e, e']
    · exact absurd g4 (h K' g1 P' g2)
  · rcases h' with ⟨e', h'⟩ | ⟨K', P', g1, g2, g3, g4, g5, g6⟩
    · exact absurd h4 (h' K h1 P h2)
    · have eK : K = K' := by
        rcases Nat.lt_trichotomy K K' with q | q | q
        · exact absurd h4 (g5 K q P h2)
        · exact q
        · exact absurd g4 (h5 K' q P' g2)
      subst eK
      have eP : P = P' := by
        rcases Nat.lt_trichotomy P P' with q | q | q
        · exact absurd h4 (g6 P q)
        · exact q
        · exact absurd g4 (h6 P' q)
      rw [h3, g3, eP]
theorem l2_firstDryIn {n : Nat} {h : xh} {R : xR} {M0 : xM} (hn : n ≤ 6) (k : Nat) (hk60 : k ≤ 60) (M : xM) (hR : xRc M 1 n (aHrs n h k)) (hF : xfr 1 M0 M) (h1 : ∀ p, p < n → aHrs n h k 3 p = 0 → (∀ q, q < p → aHrs n h k 3 q ≠ 0) → R (some (xi (nI p))) M) (h2 : (∀ p, p < n → aHrs n h k 3 p ≠ 0) → xWP pg_X2_firstDry 40 ([some (xo (xN 0)), some (xo (xH 1)), some (xi (nI k)), some (xi (nI n))], [], M) R) : ∀ d p, p + d = n → (∀ q, q < p → aHrs n h k 3 q ≠ 0) → xWP pg_X2_firstDry 15 ([some (xo (xN 0)), some (xo (xH 1)), some (xi (nI k)), some (xi (nI p))], [], M) R := by
  intro d
  induction d with
  | zero =>
    intro p hpd hq
    have : p = n := by omega
    subst this
    exact xgo [40] 100 ⟨fun _ => h2 hq, fun c => absurd (by rw [hR.s5]; exact nI_le (Nat.le_refl _) (by omega)) c⟩
  | succ d ih =>
    intro p hpd hq
    have hp : p < n := by omega
    refine xgo [15] 100 ⟨fun c => absurd c (by rw [hR.s5]; exact nI_ge hp (by omega)), fun _ => ⟨xin6 hp hn, ?_⟩⟩
    rw [xcl hp hn, hR.a3 hp]
    refine ⟨fun c => ⟨trivial, h1 p hp c hq⟩, fun c => ?_⟩
    show xWP pg_X2_firstDry 15 ([some (xo (xN 0)), some (xo (xH 1)), some (xi (nI k)), some (xi (nI p + 1))], [], M) R
    rw [nI_1]
    refine ih (p + 1) (by omega) (fun q hq' => ?_)
    by_cases e : q = p
    · rw [e]; exact c
    · exact hq q (by omega)
theorem l2_firstDry {n : Nat} {h : xh} {R : xR} {M0 : xM} (hO : aOk n h) (hk : ∀ r M', isFD n (fun k p => aHrs n h k 3 p) r → xfr 1 M0 M' → R (some (xi r)) M') : ∀ d k (M : xM) (x3 : Option xV), k + d = 61 → xRc M 1 n (aHrs n h k) → xfr 1 M0 M → (∀ k', k' < k → ∀ p, p < n → aHrs n h k' 3 p ≠ 0) → xWP pg_X2_firstDry 7 ([some (xo (xN 0)), some (xo (xH 1)), some (xi (nI k)), x3], [], M) R := by
  have hn := hO.1
  intro d
  induction d with
  | zero =>
    intro k M x3 hkd hR hF hq
    have : k = 61 := by omega
    subst this
    exact xgo [] 100 ⟨fun _ => ⟨trivial, hk _ M (Or.inl ⟨rfl, fun k h1 p h2 => hq k (by omega) p h2⟩) hF⟩, fun c => absurd (nI_lt (a := 60) (b := 61) (by omega) (by omega)) c⟩
  | succ d ih =>
    intro k M x3 hkd hR hF hq
    refine xgo [15] 100 ⟨fun c => absurd c (nI_nlt (a := 60) (by omega) (by omega)), fun _ => ?_⟩
    show xWP pg_X2_firstDry 15 ([some (xo (xN 0)), some (xo (xH 1)), some (xi (nI k)), some (xi (nI 0))], [], M) R
    refine l2_firstDryIn hn k (by omega) M hR hF (fun p hp e hl => hk _ M (Or.inr ⟨k, p, by omega, hp, rfl, e, hq, hl⟩) hF) (fun hall => ?_) n 0 (by omega) (fun q hq' => by omega)
    refine xgo [7] 100 ⟨rfl, c0_passHour 0 (hO.of (aHrs_4 n h k)) hR (fun M1 hR1 hF1 => ?_)⟩
    show xWP pg_X2_firstDry 7 ([some (xo (xN 0)), some (xo (xH 1)), some (xi (nI k + 1)), some (xi (nI n))], [], M1) R
    rw [nI_1]
    refine ih (k + 1) M1 _ (by omega) hR1 (hF.tr hF1) (fun k' hk' p hp => ?_)
    by_cases e : k' = k
    · rw [e]; exact hall p hp
    · exact hq k' (by omega) p hp
def isFDp (p : Nat) (f : Nat → Nat → Int32) (fo be : Int32) : Prop := (fo = -9 ∧ be = 1000000000 ∧ ∀ k, k ≤ 60 → ∀ q, q < p → f k q ≠ 0) ∨ (∃ K P, K ≤ 60 ∧ P < p ∧ fo = nI P ∧ be = nI K ∧ f K P = 0 ∧ (∀ k, k < K → ∀ q, q < p → f k q ≠ 0) ∧ ∀ q, q < P → f K q ≠ 0)
theorem l3_firstDry {s : xS} {R : xR} {M0 : xM} (hV : xIv s) (hk : ∀ r M', isFD (sn s) (fun k p => aHrs (sn s) (sh s) k 3 p) r → xfw 1 M0 M' → R (some (xi r)) M') : ∀ d p (M : xM) (fo be : Int32) (x4 : Option xV), p + d = sn s → xIm M s → xfw 1 M0 M → isFDp p (fun k p => aHrs (sn s) (sh s) k 3 p) fo be → xWP pg_X3_firstDry 8 ([some (xo (xN 2)), some (xi fo), some (xi be), some (xi (nI p)), x4], [], M) R := by
  have hn := hV.1.1.1
  intro d
  induction d with
  | zero =>
    intro p M fo be x4 hpd hM hF hI
    have : p = sn s := by omega
    subst this
    refine xgo [] 100 ⟨xin47 (k := 0) (by omega), ?_⟩
    rw [hM.1.g0]
    refine ⟨fun _ => ⟨trivial, hk _ M ?_ hF⟩, fun c => absurd (nI_le (Nat.le_refl _) (by omega)) c⟩
    rcases hI with ⟨h1, -, h3⟩ | ⟨K, P, h1, h2, h3, -, h5, h6, h7⟩
    · exact Or.inl ⟨h1, h3⟩
    · exact Or.inr ⟨K, P, h1, h2, h3, h5, h6, h7⟩
  | succ d ih =>
    intro p M fo be x4 hpd hM hF hI
    have hp : p < sn s := by omega
    refine xgo [48, 29] 100 ⟨xin47 (k := 0) (by omega), ?_⟩
    rw [hM.1.g0]
    refine ⟨fun c => absurd c (nI_ge hp (by omega)), fun _ => ⟨rfl, c3_of p 3 ⟨rfl, ?_⟩⟩⟩
    refine c3_whenNothing (5 + 7 * p + 3) (by omega) (fun k => aHrs (sn s) (sh s) k 3 p) hM hV (fun k M hR => hR.2 p hp 3 (by omega)) (fun r M1 hr hF1 => ?_)
    have hM1 := hM.th hF1
    have hF' := hF.tr hF1
    have nxt : ∀ fo be, isFDp (p + 1) (fun k p => aHrs (sn s) (sh s) k 3 p) fo be → xWP pg_X3_firstDry 48 ([some (xo (xN 2)), some (xi fo), some (xi be), some (xi (nI p)), some (xi r)], [], M1) R := by
      intro fo be hI
      refine xgo [8] 100 ?_
      show xWP pg_X3_firstDry 8 ([some (xo (xN 2)), some (xi fo), some (xi be), some (xi (nI p + 1)), some (xi r)], [], M1) R
      rw [nI_1]
      exact ih (p + 1) M1 fo be _ (by omega) hM1 hF' hI
    show xWP pg_X3_firstDry 29 ([some (xo (xN 2)), some (xi fo), some (xi be), some (xi (nI p)), some (xi r)], [], M1) R
    have hsp := aFst_spec (fun k => aHrs (sn s) (sh s) k 3 p) 61 (Nat.le_refl _)
    rw [← hr] at hsp
    rcases hsp with ⟨e, hz⟩ | ⟨K', -, hK, e, hz, hl⟩
    · refine xgo [48] 100 ⟨fun _ => nxt fo be ?_, fun c => absurd (by rw [e]; decide) c⟩
      rcases hI with ⟨h1, h2, h3⟩ | ⟨K, P, h1, h2, h3, h4, h5, h6, h7⟩
      · refine Or.inl ⟨h1, h2, fun k hk' q hq => ?_⟩
        by_cases eq : q = p
        · rw [eq]; exact hz k (by omega) hk'
        · exact h3 k hk' q (by omega)
      · refine Or.inr ⟨K, P, h1, by omega, h3, h4, h5, fun k hk' q hq => ?_, h7⟩
        by_cases eq : q = p
        · rw [eq]; exact hz k (by omega) (by omega)
        · exact h6 k hk' q (by omega)
    · rw [e]
      rw [e] at nxt
      refine xgo [48] 100 ⟨fun c => absurd c (nI_pos (by omega)), fun _ => ⟨fun c => ?_, fun c => ?_⟩⟩
      · refine nxt (nI p) (nI K') ?_
        refine Or.inr ⟨K', p, hK, by omega, rfl, rfl, hz, ?_, ?_⟩
        · intro k hk' q hq
          by_cases eq : q = p
          · rw [eq]; exact hl k (by omega) hk'
          · rcases hI with ⟨h1, h2, h3⟩ | ⟨K, P, h1, h2, h3, h4, h5, h6, h7⟩
            · exact h3 k (by omega) q (by omega)
            · rw [h4] at c
              have := (nI_ltI (by omega) (by omega)).mp c
              exact h6 k (by omega) q (by omega)
        · intro q hq
          rcases hI with ⟨h1, h2, h3⟩ | ⟨K, P, h1, h2, h3, h4, h5, h6, h7⟩
          · exact h3 K' hK q (by omega)
          · rw [h4] at c
            have := (nI_ltI (by omega) (by omega)).mp c
            exact h6 K' this q (by omega)
      · refine nxt fo be ?_
        rcases hI with ⟨h1, h2, h3⟩ | ⟨K, P, h1, h2, h3, h4, h5, h6, h7⟩
        · rw [h2] at c
          exact absurd (nI_lt (b := 1000000000) (by omega) (by omega)) c
        · have hKK : K ≤ K' := by
            rw [h4] at c
            rcases Nat.lt_or_ge K' K with q | q
            · exact absurd (nI_lt q (by omega)) c
            · exact q
          refine Or.inr ⟨K, P, h1, by omega, h3, h4, h5, fun k hk' q hq => ?_, h7⟩
          by_cases eq : q = p
          · rw [eq]; exact hl k (by omega) (by omega)
          · exact h6 k hk' q (by omega)
theorem j_dry (p : Int32) : xJt pg_X2_dry pg_X3_dry [some (xo (xN 0)), some (xi p), none, none] [some (xo (xN 2)), some (xi p)] := by
  intro M s K hC hM hV hk
  have hn := hV.1.1.1
  refine xgo [34] 100 ⟨fun c => ⟨rfl, ?_⟩, fun c => ⟨rfl, c0_isThere p hC.1 (fun a => ?_) (fun a => ?_)⟩⟩
  · refine xgo [7] 100 ⟨rfl, c2_thoughtOfNow hC hn (fun M1 hR1 hF1 => ?_)⟩
    refine l2_firstDry (M0 := M) hV.1.1.ok (fun r M2 hr hF2 => ⟨trivial, ?_⟩) 61 0 M1 none (by omega) hR1 hF1 (fun k' hk' => by omega)
    have hM1 := hM.fc hF2.c
    refine xgo [] 100 ⟨fun _ => ⟨rfl, ?_⟩, fun z => absurd c z⟩
    refine xgo [8] 100 (l3_firstDry (M0 := M2) hV (fun r' M3 hr' hF3 => ⟨trivial, ?_⟩) (sn s) 0 M2 (-9) 1000000000 none (by omega) hM1 xfw.rf (Or.inl ⟨rfl, rfl, fun k h1 q hq => by omega⟩))
    rw [isFD_u hr hr']
    exact hk _ M3 s ((hC.th hF2).fm hF3.m) (hM1.th hF3) hV
  · obtain ⟨q, hq, rfl⟩ := xper hn a
    refine ⟨fun z => absurd z (by decide), fun _ => ⟨rfl, c2_thoughtOfNow hC hn (fun M1 hR1 hF1 => ?_)⟩⟩
    refine l2_dry (M0 := M) q hq hV.1.1.ok 61 0 M1 (by omega) hR1 hF1 (fun r M2 hr hF2 => ?_)
    have hM1 := hM.fc hF2.c
    refine xgo [] 100 ⟨fun z => absurd z c, fun _ => ⟨rfl, c3_isPerson (nI q) hn hM1.1 (fun _ => ?_) (fun z => absurd a z)⟩⟩
    refine ⟨fun z => absurd z (by decide), fun _ => ⟨rfl, c3_of q 3 ⟨rfl, c3_whenNothing (5 + 7 * q + 3) (by omega) (fun k => aHrs (sn s) (sh s) k 3 q) hM1 hV (fun k M hR => hR.2 q hq 3 (by omega)) (fun r' M3 hr' hF3 => ⟨trivial, ?_⟩)⟩⟩⟩
    rw [hr, ← hr']
    exact hk _ M3 s ((hC.th hF2).fm hF3.m) (hM1.th hF3) hV
  · refine ⟨fun _ => ⟨rfl, c2_refused 1 (by omega) (by omega) hC (fun M1 I1 F1 => ⟨trivial, ?_⟩)⟩, fun z => absurd rfl z⟩
    refine xgo [] 100 ⟨fun z => absurd z c, fun _ => ⟨rfl, c3_isPerson p hn (hM.fc F1).1 (fun z => absurd z a) (fun _ => ?_)⟩⟩
    exact ⟨fun _ => ⟨rfl, c3_no 1 (by omega) (by omega) (hM.fc F1) (fun M2 I2 F2 => ⟨trivial, hk _ M2 _ (I1.fm F2) I2 hV⟩)⟩, fun z => absurd rfl z⟩
/-! nobody dry -/
theorem and_all : ∀ n, n < 7 → ∀ d, d < 2 ^ n → nI d &&& (1 <<< (nI n &&& 31) - 1) = nI d ∧ nI d &&& (-1) = nI d := by decide +kernel
abbrev aW0 (n : Nat) (h : xh) (m : Nat) : Prop := ∀ k, k ≤ m → aDry (aHrs n h k) n = 0
theorem aWet_E {n : Nat} {h : xh} {m : Nat} (hn : n ≤ 6) : aWet n h (1 <<< (nI n &&& 31) - 1) m ↔ aW0 n h m := by
  have e : ∀ k, aDry (aHrs n h k) n &&& (1 <<< (nI n &&& 31) - 1) = aDry (aHrs n h k) n := by
    intro k
    obtain ⟨d, hd, ed⟩ := aDry_k hn (aHrs n h k) n (Nat.le_refl n)
    rw [ed]
    exact (and_all n (by omega) d hd).1
  exact ⟨fun H k hk => by rw [← e k]; exact H k hk, fun H k hk => by rw [e k]; exact H k hk⟩
theorem aWet_m {n : Nat} {h : xh} {m : Nat} (hn : n ≤ 6) : aWet n h (-1) m ↔ aW0 n h m := by
  have e : ∀ k, aDry (aHrs n h k) n &&& (-1) = aDry (aHrs n h k) n := by
    intro k
    obtain ⟨d, hd, ed⟩ := aDry_k hn (aHrs n h k) n (Nat.le_refl n)
    rw [ed]
    exact (and_all n (by omega) d hd).2
  exact ⟨fun H k hk => by rw [← e k]; exact H k hk, fun H k hk => by rw [e k]; exact H k hk⟩
section XND
variable {n : Nat} {h : xh} {R : xR}
theorem l3_isNoneDry {M0 : xM} (w : Int32) (m : Nat) (hm : m ≤ 100) (hB : aBd n h) (hT : ∃ t, t ≤ 999 ∧ h 5 8 = nI t) (h1 : aWet n h w m → ∀ M', xfw 1 M0 M' → R (some (xi 1)) M') (h2 : ¬ aWet n h w m → ∀ M', xfw 1 M0 M' → R (some (xi 0)) M') : ∀ (d k : Nat) (M : xM), k + d = m + 1 → (∀ q, q < k → aDry (aHrs n h q) n &&& w = 0) → xRm M 1 n (aHrs n h k) → xfw 1 M0 M → xWP pg_X3_isNoneDry 2 ([some (xo (xN 2)), some (xi w), some (xi (nI m)), some (xi (nI k))], [], M) R := by
  have hn := hB.1
  intro d
  induction d with
  | zero =>
    intro k M hkd hq hR hF
    have : k = m + 1 := by omega
    subst this
    exact xgo [] 100 ⟨fun _ => ⟨Or.inr rfl, h1 (fun q hq' => hq q (by omega)) M hF⟩, fun c => absurd (nI_lt (by omega) (by omega)) c⟩
  | succ d ih =>
    intro k M hkd hq hR hF
    refine xgo [2] 100 ⟨fun c => absurd c (nI_nlt (by omega) (by omega)), fun _ => ⟨rfl, c3_dryOnes hn hR ⟨fun c => ⟨rfl, ?_⟩, fun c => ⟨Or.inl rfl, h2 (fun z => c (z k (by omega))) M hF⟩⟩⟩⟩
    refine c3_hour 0 (Or.inl rfl) (aBd_hrs hB k) (aTm_of hT k (by omega)) hR (fun M1 hR1 hF1 => ?_)
    show xWP pg_X3_isNoneDry 2 ([some (xo (xN 2)), some (xi w), some (xi (nI m)), some (xi (nI k + 1))], [], M1) R
    rw [nI_1]
    refine ih (k + 1) M1 (by omega) (fun q hq' => ?_) hR1 (hF.tr hF1)
    by_cases e : q = k
    · subst e; exact c
    · exact hq q (by omega)
theorem c3_isNoneDry {M : xM} (w : Int32) (m : Nat) (hm : m ≤ 100) (hB : aBd n h) (hT : ∃ t, t ≤ 999 ∧ h 5 8 = nI t) (hR : xRm M 1 n h) (h1 : aWet n h w m → ∀ M', xfw 1 M M' → R (some (xi 1)) M') (h2 : ¬ aWet n h w m → ∀ M', xfw 1 M M' → R (some (xi 0)) M') : xWP pg_X3_isNoneDry 0 ([some (xo (xN 2)), some (xi w), some (xi (nI m)), none], [], M) R :=
  xgo [2] 100 (l3_isNoneDry w m hm hB hT h1 h2 (m + 1) 0 M (by omega) (fun q hq => by omega) hR xfw.rf)
end XND
/-- the least v, b at most, of which P holds -/
def isLs (P : Nat → Prop) (b : Nat) (r : Int32) : Prop := (r = -9 ∧ ∀ v, v ≤ b → ¬ P v) ∨ (∃ v, v ≤ b ∧ P v ∧ (∀ u, u < v → ¬ P u) ∧ r = nI v)
theorem isLs_u {P : Nat → Prop} {b : Nat} {r r' : Int32} (h : isLs P b r) (h' : isLs P b r') : r = r' := by
  rcases h with ⟨e, h⟩ | ⟨v, h1, h2, h3, h4⟩
  · rcases h' with ⟨e', h'⟩ | ⟨v', g1, g2, g3, g4⟩
    · rw [e, e']
    · exact absurd g2 (h v' g1)
  · rcases h' with ⟨e', h'⟩ | ⟨v', g1, g2, g3, g4⟩
    · exact absurd h2 (h' v h1)
    · have e : v = v' := by
        rcases Nat.lt_trichotomy v v' with q | q | q
        · exact absurd h2 (g3 v q)
        · exact q
        · exact absurd g2 (h3 v' q)
      rw [h4, g4, e]
theorem hu_8 {h : xh} {j p : Nat} {v : Int32} (hj : j < 5) : (hu h j p v) 5 8 = h 5 8 := by rw [hu_n (by omega)]
theorem l2_flowBest {s : xS} {R : xR} {M0 : xM} (q : Nat) (hq : q ≤ 48) (hV : xIv s) (hk : ∀ r M', isLs (fun v => aW0 (sn s) (hu (sh s) 5 7 (nI v)) q) 30 r → xfr 1 M0 M' → R (some (xi r)) M') : ∀ d k (M : xM) (x4 : Option xV), k + d = 31 → xIc M s → xfr 1 M0 M → (∀ u, u < k → ¬ aW0 (sn s) (hu (sh s) 5 7 (nI u)) q) → xWP pg_X2_flowBest 20 ([some (xo (xN 0)), some (xi (nI q)), some (xi 0), some (xi (nI k)), x4], [], M) R := by
  have hn := hV.1.1.1
  intro d
  induction d with
  | zero =>
    intro k M x4 hkd hC hF hl
    have : k = 31 := by omega
    subst this
    exact xgo [] 100 ⟨fun _ => ⟨trivial, hk _ M (Or.inl ⟨rfl, fun v hv => hl v (by omega)⟩) hF⟩, fun c => absurd (nI_lt (a := 30) (b := 31) (by omega) (by omega)) c⟩
  | succ d ih =>
    intro k M x4 hkd hC hF hl
    refine xgo [20] 100 ⟨fun c => absurd c (nI_nlt (a := 30) (by omega) (by omega)), fun _ => ⟨rfl, c2_thoughtOfNow hC hn (fun M1 hR1 hF1 => ⟨rfl, ?_⟩)⟩⟩
    have hR2 := hR1.us 7 (by omega) (nI k)
    have hF2 := hF1.us 7 (nI k)
    have hC2 := hC.th hF2
    refine c0_everybody hC2.1 ⟨rfl, c0_staysWet _ q (by omega) (aBd_flow hV.1.1 (show k ≤ 30 by omega)).ok hR2 (fun w M3 hF3 => ?_) (fun w M3 hF3 => ?_)⟩
    · refine ⟨fun z => absurd z (by decide), fun _ => ⟨trivial, hk _ M3 (Or.inr ⟨k, by omega, (aWet_E hn).mp w, hl, rfl⟩) (hF.tr (hF2.tr hF3))⟩⟩
    · refine ⟨fun _ => ?_, fun z => absurd rfl z⟩
      show xWP pg_X2_flowBest 20 ([some (xo (xN 0)), some (xi (nI q)), some (xi 0), some (xi (nI k + 1)), some (xo (xH 1))], [], M3) R
      rw [nI_1]
      refine ih (k + 1) M3 _ (by omega) (hC2.th hF3) (hF.tr (hF2.tr hF3)) (fun u hu' => ?_)
      by_cases e : u = k
      · rw [e]; exact fun z => w ((aWet_E hn).mpr z)
      · exact hl u (by omega)
theorem k2_flowBest {M : xM} {s : xS} {R : xR} (q : Nat) (hq : q ≤ 48) (hC : xIc M s) (hV : xIv s) (hk : ∀ r M', isLs (fun v => aW0 (sn s) (hu (sh s) 5 7 (nI v)) q) 30 r → xfr 1 M M' → R (some (xi r)) M') : xWP pg_X2_flowBest 18 ([some (xo (xN 0)), some (xi (nI q)), some (xi 0), none, none], [], M) R :=
  xgo [20] 100 (l2_flowBest q hq hV hk 31 0 M none (by omega) hC xfr.rf (fun u hu' => by omega))
theorem l3_flowBest {s : xS} {R : xR} {M0 : xM} (q : Nat) (hq : q ≤ 48) (hV : xIv s) (hk : ∀ r M', isLs (fun v => aW0 (sn s) (hu (sh s) 5 7 (nI v)) q) 30 r → xfw 1 M0 M' → R (some (xi r)) M') : ∀ d k (M : xM), k + d = 31 → xIm M s → xfw 1 M0 M → (∀ u, u < k → ¬ aW0 (sn s) (hu (sh s) 5 7 (nI u)) q) → xWP pg_X3_flowBest 20 ([some (xo (xN 2)), some (xi (nI q)), some (xi 0), some (xi (nI k))], [], M) R := by
  have hn := hV.1.1.1
  intro d
  induction d with
  | zero =>
    intro k M hkd hM hF hl
    have : k = 31 := by omega
    subst this
    exact xgo [] 100 ⟨fun _ => ⟨trivial, hk _ M (Or.inl ⟨rfl, fun v hv => hl v (by omega)⟩) hF⟩, fun c => absurd (nI_lt (a := 30) (b := 31) (by omega) (by omega)) c⟩
  | succ d ih =>
    intro k M hkd hM hF hl
    refine xgo [20] 100 ⟨fun c => absurd c (nI_nlt (a := 30) (by omega) (by omega)), fun _ => ⟨rfl, c3_copies (r := 0) (r' := 1) (by decide) hn hM.1 (fun M1 hR1 hF1 => ⟨xin47 (k := 3) (by omega), rfl, ?_⟩)⟩⟩
    have hR2 : xRm (xup M1 (xW 1) (Int32.toNatClampNeg 3) (nI k)) 1 (sn s) (hu (sh s) 5 7 (nI k)) := hR1.uFlow (nI k)
    have hF2 : xfw 1 M (xup M1 (xW 1) (Int32.toNatClampNeg 3) (nI k)) := hF1.u _ _
    have hT : ∃ t, t ≤ 999 ∧ hu (sh s) 5 7 (nI k) 5 8 = nI t := by rw [hu_s, upd_n _ (by omega)]; exact hV.1.2.1
    refine c3_isNoneDry (-1) q (by omega) (aBd_flow hV.1.1 (show k ≤ 30 by omega)) hT hR2 (fun w M3 hF3 => ?_) (fun w M3 hF3 => ?_)
    · refine ⟨fun z => absurd z (by decide), fun _ => ⟨trivial, hk _ M3 (Or.inr ⟨k, by omega, (aWet_m hn).mp w, hl, rfl⟩) (hF.tr (hF2.tr hF3))⟩⟩
    · refine ⟨fun _ => ?_, fun z => absurd rfl z⟩
      show xWP pg_X3_flowBest 20 ([some (xo (xN 2)), some (xi (nI q)), some (xi 0), some (xi (nI k + 1))], [], M3) R
      rw [nI_1]
      refine ih (k + 1) M3 (by omega) (hM.th (hF2.tr hF3)) (hF.tr (hF2.tr hF3)) (fun u hu' => ?_)
      by_cases e : u = k
      · rw [e]; exact fun z => w ((aWet_m hn).mpr z)
      · exact hl u (by omega)
theorem k3_flowBest {M : xM} {s : xS} {R : xR} (q : Nat) (hq : q ≤ 48) (hM : xIm M s) (hV : xIv s) (hk : ∀ r M', isLs (fun v => aW0 (sn s) (hu (sh s) 5 7 (nI v)) q) 30 r → xfw 1 M M' → R (some (xi r)) M') : xWP pg_X3_flowBest 18 ([some (xo (xN 2)), some (xi (nI q)), some (xi 0), none], [], M) R :=
  xgo [20] 100 (l3_flowBest q hq hV hk 31 0 M (by omega) hM xfw.rf (fun u hu' => by omega))
theorem j_flowBest (v : Int32) : xJt pg_X2_flowBest pg_X3_flowBest [some (xo (xN 0)), some (xi v), none, none, none] [some (xo (xN 2)), some (xi v), none, none] := by
  intro M s K hC hM hV hk
  refine xgo [18] 100 ⟨rfl, c2_rangeRefusal v 0 48 (fun a b => ?_) (fun a b => ?_) (fun a => ?_)⟩
  · refine ⟨fun _ => ?_, fun z => absurd rfl z⟩
    obtain ⟨q, hq, rfl⟩ := xrng (b := 48) (by omega) a b
    show xWP pg_X2_flowBest 18 ([some (xo (xN 0)), some (xi (nI q)), some (xi 0), none, none], [], M) _
    refine k2_flowBest q hq  hC hV (fun r M1 hr F1 => ?_)
    have hM1 := hM.fc F1.c
    refine xgo [18] 100 ⟨rfl, c3_wrongBy (nI q) 0 48 (fun _ _ => ?_) (fun _ z => absurd b z) (fun z => absurd a z)⟩
    refine ⟨fun _ => ?_, fun z => absurd rfl z⟩
    show xWP pg_X3_flowBest 18 ([some (xo (xN 2)), some (xi (nI q)), some (xi 0), none], [], M1) _
    refine k3_flowBest q hq  hM1 hV (fun r' M2 hr' F2 => ?_)
    have e : r = r' := isLs_u hr hr'
    rw [e]
    exact hk _ M2 s ((hC.th F1).fm F2.m) (hM1.th F2) hV
  · refine ⟨fun z => absurd z (by decide), fun _ => ⟨rfl, c2_refused 6 (by omega) (by omega) hC (fun M1 I1 F1 => ⟨trivial, ?_⟩)⟩⟩
    refine xgo [] 100 ⟨rfl, c3_wrongBy v 0 48 (fun _ z => absurd z b) (fun _ _ => ?_) (fun z => absurd a z)⟩
    exact ⟨fun z => absurd z (by decide), fun _ => ⟨rfl, c3_no 6 (by omega) (by omega) (hM.fc F1) (fun M2 I2 F2 => ⟨trivial, hk _ M2 _ (I1.fm F2) I2 hV⟩)⟩⟩
  · refine ⟨fun z => absurd z (by decide), fun _ => ⟨rfl, c2_refused 4 (by omega) (by omega) hC (fun M1 I1 F1 => ⟨trivial, ?_⟩)⟩⟩
    refine xgo [] 100 ⟨rfl, c3_wrongBy v 0 48 (fun z => absurd z a) (fun z => absurd z a) (fun _ => ?_)⟩
    exact ⟨fun z => absurd z (by decide), fun _ => ⟨rfl, c3_no 4 (by omega) (by omega) (hM.fc F1) (fun M2 I2 F2 => ⟨trivial, hk _ M2 _ (I1.fm F2) I2 hV⟩)⟩⟩
theorem l2_canBest {s : xS} {R : xR} {M0 : xM} (p : Nat) (hp : p < sn s) (q : Nat) (hq : q ≤ 48) (hV : xIv s) (hk : ∀ r M', isLs (fun v => aWet (sn s) (hu (sh s) 2 p (nI v)) (1 <<< (nI p &&& 31)) q) 9 r → xfr 1 M0 M' → R (some (xi r)) M') : ∀ d k (M : xM) (x5 : Option xV), k + d = 10 → xIc M s → xfr 1 M0 M → (∀ u, u < k → ¬ aWet (sn s) (hu (sh s) 2 p (nI u)) (1 <<< (nI p &&& 31)) q) → xWP pg_X2_canBest 22 ([some (xo (xN 0)), some (xi (nI p)), some (xi (nI q)), some (xi 0), some (xi (nI k)), x5], [], M) R := by
  have hn := hV.1.1.1
  intro d
  induction d with
  | zero =>
    intro k M x5 hkd hC hF hl
    have : k = 10 := by omega
    subst this
    exact xgo [] 100 ⟨fun _ => ⟨trivial, hk _ M (Or.inl ⟨rfl, fun v hv => hl v (by omega)⟩) hF⟩, fun c => absurd (nI_lt (a := 9) (b := 10) (by omega) (by omega)) c⟩
  | succ d ih =>
    intro k M x5 hkd hC hF hl
    refine xgo [22] 100 ⟨fun c => absurd c (nI_nlt (a := 9) (by omega) (by omega)), fun _ => ⟨rfl, c2_thoughtOfNow hC hn (fun M1 hR1 hF1 => ⟨xin6 hp hn, rfl, ?_⟩)⟩⟩
    rw [xcl hp hn]
    have hR2 := hR1.ua 2 p (nI k)
    have hF2 := hF1.ua 2 p (nI k)
    have hC2 := hC.th hF2
    refine c0_staysWet _ q (by omega) (aBd_can hV.1.1 (show k ≤ 9 by omega)).ok hR2 (fun w M3 hF3 => ?_) (fun w M3 hF3 => ?_)
    · refine ⟨fun z => absurd z (by decide), fun _ => ⟨trivial, hk _ M3 (Or.inr ⟨k, by omega, w, hl, rfl⟩) (hF.tr (hF2.tr hF3))⟩⟩
    · refine ⟨fun _ => ?_, fun z => absurd rfl z⟩
      show xWP pg_X2_canBest 22 ([some (xo (xN 0)), some (xi (nI p)), some (xi (nI q)), some (xi 0), some (xi (nI k + 1)), some (xo (xH 1))], [], M3) R
      rw [nI_1]
      refine ih (k + 1) M3 _ (by omega) (hC2.th hF3) (hF.tr (hF2.tr hF3)) (fun u hu' => ?_)
      by_cases e : u = k
      · rw [e]; exact w
      · exact hl u (by omega)
theorem k2_canBest {M : xM} {s : xS} {R : xR} (p : Nat) (hp : p < sn s) (q : Nat) (hq : q ≤ 48) (hC : xIc M s) (hV : xIv s) (hk : ∀ r M', isLs (fun v => aWet (sn s) (hu (sh s) 2 p (nI v)) (1 <<< (nI p &&& 31)) q) 9 r → xfr 1 M M' → R (some (xi r)) M') : xWP pg_X2_canBest 19 ([some (xo (xN 0)), some (xi (nI p)), some (xi (nI q)), some (xi 0), none, none], [], M) R :=
  xgo [22] 100 (l2_canBest p hp q hq hV hk 10 0 M none (by omega) hC xfr.rf (fun u hu' => by omega))
theorem l3_canBest {s : xS} {R : xR} {M0 : xM} (p : Nat) (hp : p < sn s) (q : Nat) (hq : q ≤ 48) (hV : xIv s) (hk : ∀ r M', isLs (fun v => aWet (sn s) (hu (sh s) 2 p (nI v)) (1 <<< (nI p &&& 31)) q) 9 r → xfw 1 M0 M' → R (some (xi r)) M') : ∀ d k (M : xM), k + d = 10 → xIm M s → xfw 1 M0 M → (∀ u, u < k → ¬ aWet (sn s) (hu (sh s) 2 p (nI u)) (1 <<< (nI p &&& 31)) q) → xWP pg_X3_canBest 33 ([some (xo (xN 2)), some (xi (nI p)), some (xi (nI q)), some (xi 0), some (xi (nI k))], [], M) R := by
  have hn := hV.1.1.1
  intro d
  induction d with
  | zero =>
    intro k M hkd hM hF hl
    have : k = 10 := by omega
    subst this
    exact xgo [] 100 ⟨fun _ => ⟨trivial, hk _ M (Or.inl ⟨rfl, fun v hv => hl v (by omega)⟩) hF⟩, fun c => absurd (nI_lt (a := 9) (b := 10) (by omega) (by omega)) c⟩
  | succ d ih =>
    intro k M hkd hM hF hl
    refine xgo [33] 100 ⟨fun c => absurd c (nI_nlt (a := 9) (by omega) (by omega)), fun _ => ⟨rfl, c3_copies (r := 0) (r' := 1) (by decide) hn hM.1 (fun M1 hR1 hF1 => ⟨rfl, c3_of p 2 ⟨xof_in (by omega) (by omega), rfl, ?_⟩⟩)⟩⟩
    rw [xof_cl (by omega) (by omega)]
    have hR2 := hR1.uAr hp (nI k) 2 2 (by omega)
    have hF2 := hF1.u (5 + 7 * p + 2) (nI k)
    refine c3_isNoneDry _ q (by omega) (aBd_can hV.1.1 (show k ≤ 9 by omega)) hV.1.2.1 hR2 (fun w M3 hF3 => ?_) (fun w M3 hF3 => ?_)
    · refine ⟨fun z => absurd z (by decide), fun _ => ⟨trivial, hk _ M3 (Or.inr ⟨k, by omega, w, hl, rfl⟩) (hF.tr (hF2.tr hF3))⟩⟩
    · refine ⟨fun _ => ?_, fun z => absurd rfl z⟩
      show xWP pg_X3_canBest 33 ([some (xo (xN 2)), some (xi (nI p)), some (xi (nI q)), some (xi 0), some (xi (nI k + 1))], [], M3) R
      rw [nI_1]
      refine ih (k + 1) M3 (by omega) (hM.th (hF2.tr hF3)) (hF.tr (hF2.tr hF3)) (fun u hu' => ?_)
      by_cases e : u = k
      · rw [e]; exact w
      · exact hl u (by omega)
theorem k3_canBest {M : xM} {s : xS} {R : xR} (p : Nat) (hp : p < sn s) (q : Nat) (hq : q ≤ 48) (hM : xIm M s) (hV : xIv s) (hk : ∀ r M', isLs (fun v => aWet (sn s) (hu (sh s) 2 p (nI v)) (1 <<< (nI p &&& 31)) q) 9 r → xfw 1 M M' → R (some (xi r)) M') : xWP pg_X3_canBest 30 ([some (xo (xN 2)), some (xi (nI p)), some (xi (nI q)), some (xi 0), none], [], M) R :=
  xgo [33] 100 (l3_canBest p hp q hq hV hk 10 0 M (by omega) hM xfw.rf (fun u hu' => by omega))
theorem j_canBest (p v : Int32) : xJt pg_X2_canBest pg_X3_canBest [some (xo (xN 0)), some (xi p), some (xi v), none, none, none] [some (xo (xN 2)), some (xi p), some (xi v), none, none] := by
  intro M s K hC hM hV hk
  have hn := hV.1.1.1
  refine xgo [19] 100 ⟨rfl, c2_oneRefusal p v 48 hC.1 (fun a => ?_) (fun a b c => ?_) (fun a b c => ?_) (fun a b => ?_)⟩
  · refine ⟨fun z => absurd z (by decide), fun _ => ⟨rfl, c2_refused 1 (by omega) (by omega) hC (fun M1 I1 F1 => ⟨trivial, ?_⟩)⟩⟩
    have hM1 := hM.fc F1
    refine xgo [] 100 ⟨rfl, c3_isPerson p hn hM1.1 (fun z => absurd z a) (fun _ => ⟨fun _ => ?_, fun z => absurd rfl z⟩)⟩
    exact ⟨fun z => absurd z (by decide), fun _ => ⟨rfl, c3_no 1 (by omega) (by omega) hM1 (fun M2 I2 F2 => ⟨trivial, hk _ M2 _ (I1.fm F2) I2 hV⟩)⟩⟩
  · refine ⟨fun _ => ?_, fun z => absurd rfl z⟩
    obtain ⟨p, hp, rfl⟩ := xper hn a
    obtain ⟨q, hq, rfl⟩ := xrng (b := 48) (by omega) b c
    show xWP pg_X2_canBest 19 ([some (xo (xN 0)), some (xi (nI p)), some (xi (nI q)), some (xi 0), none, none], [], M) _
    refine k2_canBest p hp q hq hC hV (fun r M1 hr F1 => ?_)
    have hM1 := hM.fc F1.c
    refine xgo [30] 100 ⟨rfl, c3_isPerson (nI p) hn hM1.1 (fun _ => ?_) (fun z => absurd a z)⟩
    refine ⟨fun z => absurd z (by decide), fun _ => ⟨rfl, c3_wrongBy (nI q) 0 48 (fun _ _ => ?_) (fun _ z => absurd c z) (fun z => absurd b z)⟩⟩
    refine ⟨fun _ => ?_, fun z => absurd rfl z⟩
    show xWP pg_X3_canBest 30 ([some (xo (xN 2)), some (xi (nI p)), some (xi (nI q)), some (xi 0), none], [], M1) _
    refine k3_canBest p hp q hq hM1 hV (fun r' M2 hr' F2 => ?_)
    have e : r = r' := isLs_u hr hr'
    rw [e]
    exact hk _ M2 s ((hC.th F1).fm F2.m) (hM1.th F2) hV
  · refine ⟨fun z => absurd z (by decide), fun _ => ⟨rfl, c2_refused 6 (by omega) (by omega) hC (fun M1 I1 F1 => ⟨trivial, ?_⟩)⟩⟩
    have hM1 := hM.fc F1
    refine xgo [] 100 ⟨rfl, c3_isPerson p hn hM1.1 (fun _ => ⟨fun z => absurd z (by decide), fun _ => ⟨rfl, c3_wrongBy v 0 48 (fun _ z => absurd z c) (fun _ _ => ?_) (fun z => absurd b z)⟩⟩) (fun z => absurd a z)⟩
    exact ⟨fun z => absurd z (by decide), fun _ => ⟨rfl, c3_no 6 (by omega) (by omega) hM1 (fun M2 I2 F2 => ⟨trivial, hk _ M2 _ (I1.fm F2) I2 hV⟩)⟩⟩
  · refine ⟨fun z => absurd z (by decide), fun _ => ⟨rfl, c2_refused 4 (by omega) (by omega) hC (fun M1 I1 F1 => ⟨trivial, ?_⟩)⟩⟩
    have hM1 := hM.fc F1
    refine xgo [] 100 ⟨rfl, c3_isPerson p hn hM1.1 (fun _ => ⟨fun z => absurd z (by decide), fun _ => ⟨rfl, c3_wrongBy v 0 48 (fun z => absurd z b) (fun z => absurd z b) (fun _ => ?_)⟩⟩) (fun z => absurd a z)⟩
    exact ⟨fun z => absurd z (by decide), fun _ => ⟨rfl, c3_no 4 (by omega) (by omega) hM1 (fun M2 I2 F2 => ⟨trivial, hk _ M2 _ (I1.fm F2) I2 hV⟩)⟩⟩
