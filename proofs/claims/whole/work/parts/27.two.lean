/-! ===== sending, two ===== -/
def aOt (g : xh) (p : Nat) : Nat → Int32
  | 0 => 0
  | k + 1 => if k ≠ p ∧ 0 < g 3 k then aOt g p k + 1 else aOt g p k
def aOd (d : Int32) (p : Nat) : Nat → Int32
  | 0 => 0
  | k + 1 => if k ≠ p ∧ ¬ xbt d k then aOd d p k + 1 else aOd d p k
theorem aOd_eq : ∀ n, n < 7 → ∀ p, p < n → ∀ d, d < 2 ^ n → aOd (nI d) p n = xbs (((1 : Int32) <<< (nI n &&& 31) - 1) &&& (((1 : Int32) <<< (nI p &&& 31)) ^^^ (-1)) &&& (nI d ^^^ (-1))) 6 := by decide +kernel
theorem aDry_bt (h : xh) : ∀ m, m ≤ 6 → ∀ k, k < 6 → (xbt (aDry h m) k ↔ k < m ∧ h 3 k = 0)
  | 0, _, k, hk => ⟨fun z => absurd z (xbt_0 k (by omega)), fun z => absurd z.1 (by omega)⟩
  | m + 1, hm, k, hk => by
    have ih := aDry_bt h m (by omega) k hk
    unfold aDry
    split
    · next c =>
      rw [xbt_or (by omega) (by omega), ih]
      constructor
      · rintro (rfl | z)
        · exact ⟨by omega, c⟩
        · exact ⟨by omega, z.2⟩
      · intro z
        by_cases e : k = m
        · exact Or.inl e
        · exact Or.inr ⟨by omega, z.2⟩
    · next c =>
      rw [ih]
      constructor
      · intro z; exact ⟨by omega, z.2⟩
      · intro z
        by_cases e : k = m
        · subst e; exact absurd z.2 c
        · exact ⟨by omega, z.2⟩
theorem aOt_d {n : Nat} {g : xh} (hB : aBd n g) (p : Nat) : ∀ k, k ≤ n → aOt g p k = aOd (aDry g n) p k
  | 0, _ => rfl
  | k + 1, hk => by
    have hn := hB.1
    obtain ⟨a, ha, ea⟩ := (hB.2.2.2 k (by omega)).2.1
    have e : (0 < g 3 k) ↔ ¬ xbt (aDry g n) k := by
      rw [aDry_bt g n hn k (by omega), ea]
      constructor
      · intro z w
        rw [w.2] at z
        exact absurd z (by decide)
      · intro z
        refine nI_lt (a := 0) (Nat.pos_of_ne_zero (fun w => z ⟨by omega, by rw [w]; rfl⟩)) (by omega)
    unfold aOt aOd
    rw [aOt_d hB p k (by omega)]
    by_cases c : k ≠ p ∧ 0 < g 3 k
    · rw [if_pos c, if_pos ⟨c.1, e.mp c.2⟩]
    · rw [if_neg c, if_neg (fun z => c ⟨z.1, e.mpr z.2⟩)]
theorem aOt_n (g : xh) (p : Nat) : ∀ k, ∃ c, c ≤ k ∧ aOt g p k = nI c
  | 0 => ⟨0, by omega, rfl⟩
  | k + 1 => by
    obtain ⟨c, hc, e⟩ := aOt_n g p k
    unfold aOt
    split
    · exact ⟨c + 1, by omega, by rw [e, nI_1]⟩
    · exact ⟨c, by omega, e⟩
theorem aMx_b {v : Nat → Int32} (hv : ∀ k, ∃ c, c ≤ 6 ∧ v k = nI c) : ∀ k, k < 7 → 0 < k → aMx v 100 (-9) k = aMx v 100 (-1) k ∧ ∃ j, j < k ∧ (aMx v 100 (-1) k).2 = nI j
  | 0, _, h => absurd h (by omega)
  | k + 1, hk, _ => by
    have e100 : k ≠ 100 := by omega
    by_cases e : k = 0
    · subst e
      obtain ⟨c, hc, ec⟩ := hv 0
      have m9 : ∀ c, c ≤ 6 → (-9 : Int32) < nI c ∧ (-1 : Int32) < nI c := by
        intro c hc
        have : ∀ c, c < 7 → (-9 : Int32) < nI c ∧ (-1 : Int32) < nI c := by decide +kernel
        exact this c (by omega)
      have h9 : (aMx v 100 (-9) 0).1 < v 0 := by rw [ec]; exact (m9 c hc).1
      have h1 : (aMx v 100 (-1) 0).1 < v 0 := by rw [ec]; exact (m9 c hc).2
      rw [aMx_y e100 h9, aMx_y e100 h1]
      exact ⟨rfl, 0, by omega, rfl⟩
    · obtain ⟨h1, j, hj, h2⟩ := aMx_b hv k (by omega) (by omega)
      by_cases c : (aMx v 100 (-1) k).1 < v k
      · rw [aMx_y e100 c, aMx_y e100 (by rw [h1]; exact c)]
        exact ⟨rfl, k, by omega, rfl⟩
      · rw [aMx_n e100 c, aMx_n e100 (by rw [h1]; exact c)]
        exact ⟨h1, j, by omega, h2⟩
def aSe (s : xS) (q p : Nat) : Int32 := aOt (aHrs (sn s) (aGiv (sh s) p) q) p (sn s)
theorem aSe_n (s : xS) (q : Nat) (hn : sn s ≤ 6) (p : Nat) : ∃ c, c ≤ 6 ∧ aSe s q p = nI c := by
  obtain ⟨c, hc, e⟩ := aOt_n (aHrs (sn s) (aGiv (sh s) p) q) p (sn s)
  exact ⟨c, by omega, e⟩
theorem aBd_giv {n : Nat} {h : xh} (H : aBd n h) {p : Nat} (hp : p < n) : aBd n (aGiv h p) := by
  obtain ⟨w, hw, ew⟩ := H.2.1
  obtain ⟨a, ha, ea⟩ := (H.2.2.2 p hp).2.1
  have e : xmn 99 (h 5 6 + h 3 p) = nI (min 99 (w + a)) := by
    rw [ew, ea, nI_add]
    exact xmn_nI (a := 99) (by omega) (by omega)
  unfold aGiv
  rw [e]
  exact aBd_has (aBd_water H _ (by omega)) p 0 (by omega)
section XSE
variable {s : xS} {R : xR}
theorem l2_othersWet {M : xM} {g : xh} (p : Nat) (hp : p < sn s) (q : Int32) (hn : sn s ≤ 6) (hR : xRc M 1 (sn s) g) (hk : R (some (xi (aOt g p (sn s)))) M) : ∀ d k, k + d = sn s → xWP pg_X2_othersWetBySending 21 ([some (xo (xN 0)), some (xi (nI p)), some (xi q), some (xo (xH 1)), some (xi (aOt g p k)), some (xi (nI k))], [], M) R := by
  intro d
  induction d with
  | zero =>
    intro k hkd
    have : k = sn s := by omega
    subst this
    exact xgo [] 100 ⟨fun _ => ⟨trivial, hk⟩, fun c => absurd (by rw [hR.s5]; exact nI_le (Nat.le_refl _) (by omega)) c⟩
  | succ d ih =>
    intro k hkd
    have hkn : k < sn s := by omega
    have nxt : ∀ a, aOt g p (k + 1) = a → xWP pg_X2_othersWetBySending 49 ([some (xo (xN 0)), some (xi (nI p)), some (xi q), some (xo (xH 1)), some (xi a), some (xi (nI k))], [], M) R := by
      intro a e
      refine xgo [21] 100 ?_
      show xWP pg_X2_othersWetBySending 21 ([some (xo (xN 0)), some (xi (nI p)), some (xi q), some (xo (xH 1)), some (xi a), some (xi (nI k + 1))], [], M) R
      rw [nI_1, ← e]
      exact ih (k + 1) (by omega)
    refine xgo [49] 100 ⟨fun c => absurd c (by rw [hR.s5]; exact nI_ge hkn (by omega)), fun _ => ⟨fun c => nxt _ (if_neg (fun z => z.1 ((nI_eq (by omega) (by omega)).mp c))), fun c => ⟨xin6 hkn hn, ?_⟩⟩⟩
    rw [xcl hkn hn, hR.a3 hkn]
    exact ⟨fun c' => nxt _ (if_neg (fun z => absurd z.2 (Int32.not_lt.mpr c'))), fun c' => nxt _ (if_pos ⟨fun z => c (by rw [z]), Int32.not_le.mp c'⟩)⟩
theorem c2_othersWet {M : xM} (p : Nat) (hp : p < sn s) (q : Nat) (hq : q ≤ 24) (hC : xIc M s) (hV : xIv s) (hk : ∀ M', xfr 1 M M' → R (some (xi (aSe s q p))) M') : xWP pg_X2_othersWetBySending 0 ([some (xo (xN 0)), some (xi (nI p)), some (xi (nI q)), none, none, none], [], M) R := by
  have hn := hV.1.1.1
  refine xgo [21] 100 ⟨rfl, c2_thoughtOfNow hC hn (fun M1 hR1 hF1 => ⟨rfl, c0_giveToWell p hn hp hR1 (fun M2 hR2 hF2 => ⟨rfl, c0_passHours q (by omega) (aBd_giv hV.1.1 hp).ok hR2 (fun M3 hR3 hF3 => ?_)⟩)⟩)⟩
  exact l2_othersWet p hp (nI q) hn hR3 (hk M3 (hF1.tr (hF2.tr hF3))) (sn s) 0 (by omega)
theorem l2_send {M0 : xM} (q : Nat) (hq : q ≤ 24) (w : Int32) (hV : xIv s) (hk : ∀ M', xfr 1 M0 M' → R (some (xi (if w = 0 then (aMx (aSe s q) 100 (-9) (sn s)).2 else (aMx (aSe s q) 100 (-9) (sn s)).1))) M') : ∀ d k (M : xM) (x7 : Option xV), k + d = sn s → xIc M s → xfr 1 M0 M → xWP pg_X2_send 39 ([some (xo (xN 0)), some (xi (nI q)), some (xi w), some (xi 0), some (xi (aMx (aSe s q) 100 (-9) k).2), some (xi (aMx (aSe s q) 100 (-9) k).1), some (xi (nI k)), x7], [], M) R := by
  have hn := hV.1.1.1
  intro d
  induction d with
  | zero =>
    intro k M x7 hkd hC hF
    have : k = sn s := by omega
    subst this
    have := hk M hF
    refine xgo [] 100 ⟨fun _ => ⟨fun c => ⟨trivial, ?_⟩, fun c => ⟨trivial, ?_⟩⟩, fun c => absurd (by rw [hC.1.s5]; exact nI_le (Nat.le_refl _) (by omega)) c⟩
    · rw [if_pos c] at this; exact this
    · rw [if_neg c] at this; exact this
  | succ d ih =>
    intro k M x7 hkd hC hF
    have hp : k < sn s := by omega
    refine xgo [75] 100 ⟨fun c => absurd c (by rw [hC.1.s5]; exact nI_ge hp (by omega)), fun _ => ⟨rfl, c2_othersWet k hp q hq hC hV (fun M3 hF3 => ?_)⟩⟩
    have nxt : ∀ a b, (aMx (aSe s q) 100 (-9) (k + 1)) = (b, a) → xWP pg_X2_send 75 ([some (xo (xN 0)), some (xi (nI q)), some (xi w), some (xi 0), some (xi a), some (xi b), some (xi (nI k)), some (xi (aSe s q k))], [], M3) R := by
      intro a b e
      refine xgo [39] 100 ?_
      show xWP pg_X2_send 39 ([some (xo (xN 0)), some (xi (nI q)), some (xi w), some (xi 0), some (xi a), some (xi b), some (xi (nI k + 1)), some (xi (aSe s q k))], [], M3) R
      rw [nI_1]
      have := ih (k + 1) M3 (some (xi (aSe s q k))) (by omega) (hC.th hF3) (hF.tr hF3)
      rw [e] at this
      exact this
    exact ⟨fun c => nxt _ _ (aMx_n (by omega) (fun z => absurd c (Int32.not_le.mpr z))), fun c => nxt _ _ (aMx_y (by omega) (Int32.not_le.mp c))⟩
theorem l3_send {M0 : xM} (q : Nat) (hq : q ≤ 24) (w : Int32) (hV : xIv s) (hk : ∀ M', xfw 1 M0 M' → R (some (xi (if w = 0 then (aMx (aSe s q) 100 (-9) (sn s)).2 else (aMx (aSe s q) 100 (-9) (sn s)).1))) M') : ∀ d k (M : xM) (x7 : Option xV), k + d = sn s → xIm M s → xfw 1 M0 M → xWP pg_X3_send 44 ([some (xo (xN 2)), some (xi (nI q)), some (xi w), some (xi 0), some (xi (aMx (aSe s q) 100 (-1) k).2), some (xi (aMx (aSe s q) 100 (-1) k).1), some (xi (nI k)), x7], [], M) R := by
  have hn := hV.1.1.1
  intro d
  induction d with
  | zero =>
    intro k M x7 hkd hM hF
    have : k = sn s := by omega
    subst this
    have hk' := hk M hF
    refine xgo [] 100 ⟨xin47 (k := 0) (by omega), ?_⟩
    rw [hM.1.g0]
    refine ⟨fun _ => ?_, fun c => absurd (nI_le (Nat.le_refl _) (by omega)) c⟩
    by_cases e : sn s = 0
    · rw [e] at hk'
      have e1 : (aMx (aSe s q) 100 (-9) 0).1 = -9 := rfl
      have e2 : (aMx (aSe s q) 100 (-9) 0).2 = -9 := rfl
      rw [e1, e2, ite_self] at hk'
      have e3 : (aMx (aSe s q) 100 (-1) (sn s)).2 = -9 := by rw [e]; rfl
      refine ⟨fun _ => ⟨trivial, ?_⟩, fun c => absurd (by rw [e3]; decide) c⟩
      rw [e3]; exact hk'
    · obtain ⟨h1, j, hj, h2⟩ := aMx_b (aSe_n s q hn) (sn s) (by omega) (by omega)
      rw [h1] at hk'
      refine ⟨fun c => absurd c (by rw [h2]; exact nI_64 j (by omega)), fun _ => ⟨fun c => ⟨trivial, ?_⟩, fun c => ⟨trivial, ?_⟩⟩⟩
      · rw [if_pos c] at hk'; exact hk'
      · rw [if_neg c] at hk'; exact hk'
  | succ d ih =>
    intro k M x7 hkd hM hF
    have hp : k < sn s := by omega
    refine xgo [165] 100 ⟨xin47 (k := 0) (by omega), ?_⟩
    rw [hM.1.g0]
    refine ⟨fun c => absurd c (nI_ge hp (by omega)), fun _ => ⟨rfl, c3_copies (r := 0) (r' := 1) (by decide) hn hM.1 (fun M1 hR1 hF1 => ⟨xin47 (k := 2) (by omega), rfl, c3_of k 3 ⟨xof_in (by omega) (by omega), ?_⟩⟩)⟩⟩
    rw [hR1.v hp hn 3 (by omega), hR1.g2]
    refine ⟨rfl, c3_least _ _ ⟨xin47 (k := 2) (by omega), rfl, c3_of k 3 ⟨xof_in (by omega) (by omega), rfl, ?_⟩⟩⟩
    rw [xof_cl (by omega) (by omega)]
    have hR2 : xRm (xup (xup M1 (xW 1) (Int32.toNatClampNeg 2) (xmn 99 (sh s 5 6 + sh s 3 k))) (xW 1) (5 + 7 * k + 3) 0) 1 (sn s) (aGiv (sh s) k) := (hR1.uWater _).uHas hn hp 0
    have hF2 : xfw 1 M (xup (xup M1 (xW 1) (Int32.toNatClampNeg 2) (xmn 99 (sh s 5 6 + sh s 3 k))) (xW 1) (5 + 7 * k + 3) 0) := (hF1.u _ _).u _ _
    refine c3_hoursOn q (by omega) (aBd_giv hV.1.1 hp) hV.1.2.1 hR2 (fun M3 hR3 hF3 => ?_)
    have hF4 := hF2.tr hF3
    have hM3 := hM.th hF4
    refine ⟨xin47 (k := 0) (by omega), ?_⟩
    rw [hM3.1.g0]
    refine ⟨rfl, c3_dryOnes hn hR3 ⟨rfl, c3_bits _ ?_⟩⟩
    have hBg := aBd_hrs (aBd_giv hV.1.1 hp) q
    obtain ⟨b, hb, eb⟩ := aDry_k hn (aHrs (sn s) (aGiv (sh s) k) q) (sn s) (Nat.le_refl _)
    have ev : xbs (((1 : Int32) <<< (nI (sn s) &&& 31) - 1) &&& (((1 : Int32) <<< (nI k &&& 31)) ^^^ (-1)) &&& (aDry (aHrs (sn s) (aGiv (sh s) k) q) (sn s) ^^^ (-1))) 6 = aSe s q k := by
      unfold aSe
      rw [aOt_d hBg k (sn s) (Nat.le_refl _), eb, aOd_eq (sn s) (by omega) k hp b hb]
    rw [ev]
    have nxt : ∀ a b, (aMx (aSe s q) 100 (-1) (k + 1)) = (b, a) → xWP pg_X3_send 165 ([some (xo (xN 2)), some (xi (nI q)), some (xi w), some (xi 0), some (xi a), some (xi b), some (xi (nI k)), some (xi (aSe s q k))], [], M3) R := by
      intro a b e
      refine xgo [44] 100 ?_
      show xWP pg_X3_send 44 ([some (xo (xN 2)), some (xi (nI q)), some (xi w), some (xi 0), some (xi a), some (xi b), some (xi (nI k + 1)), some (xi (aSe s q k))], [], M3) R
      rw [nI_1]
      have := ih (k + 1) M3 (some (xi (aSe s q k))) (by omega) hM3 (hF.tr hF4)
      rw [e] at this
      exact this
    exact ⟨fun c => nxt _ _ (aMx_y (by omega) c), fun c => nxt _ _ (aMx_n (by omega) c)⟩
end XSE
theorem j_send (v w : Int32) : xJt pg_X2_send pg_X3_send [some (xo (xN 0)), some (xi v), some (xi w), none, none, none, none, none] [some (xo (xN 2)), some (xi v), some (xi w), none, none, none, none, none] := by
  intro M s K hC hM hV hk
  have hn := hV.1.1.1
  refine xgo [39] 100 ⟨rfl, c2_rangeRefusal v 0 24 (fun a b => ?_) (fun a b => ?_) (fun a => ?_)⟩
  · refine ⟨fun _ => ⟨rfl, c2_whatRefusal w 1 (fun c d => ?_) (fun c => ?_)⟩, fun z => absurd rfl z⟩
    · refine ⟨fun _ => ?_, fun z => absurd rfl z⟩
      obtain ⟨q, hq, rfl⟩ := xrng (b := 24) (by omega) a b
      refine l2_send q hq w hV (fun M1 hF1 => ?_) (sn s) 0 M none (by omega) hC xfr.rf
      have hM1 := hM.fc hF1.c
      refine xgo [44] 100 ⟨rfl, c3_wrongBy (nI q) 0 24 (fun _ _ => ?_) (fun _ z => absurd b z) (fun z => absurd a z)⟩
      refine ⟨fun _ => ⟨rfl, c3_isIn w 0 1 (fun _ => ?_) (fun z => absurd ⟨c, d⟩ z)⟩, fun z => absurd rfl z⟩
      refine ⟨fun z => absurd z (by decide), fun _ => ⟨fun _ => ?_, fun z => absurd rfl z⟩⟩
      exact l3_send q hq w hV (fun M2 hF2 => hk _ M2 s ((hC.th hF1).fm hF2.m) (hM1.th hF2) hV) (sn s) 0 M1 none (by omega) hM1 xfw.rf
    · refine ⟨fun z => absurd z (by decide), fun _ => ⟨rfl, c2_refused 2 (by omega) (by omega) hC (fun M1 I1 F1 => ⟨trivial, ?_⟩)⟩⟩
      have hM1 := hM.fc F1
      refine xgo [] 100 ⟨rfl, c3_wrongBy v 0 24 (fun _ _ => ?_) (fun _ z => absurd b z) (fun z => absurd a z)⟩
      refine ⟨fun _ => ⟨rfl, c3_isIn w 0 1 (fun z => absurd z c) (fun _ => ?_)⟩, fun z => absurd rfl z⟩
      exact ⟨fun _ => ⟨fun z => absurd z (by decide), fun _ => ⟨rfl, c3_no 2 (by omega) (by omega) hM1 (fun M2 I2 F2 => ⟨trivial, hk _ M2 _ (I1.fm F2) I2 hV⟩)⟩⟩, fun z => absurd rfl z⟩
  · refine ⟨fun z => absurd z (by decide), fun _ => ⟨fun z => absurd z (by decide), fun _ => ⟨rfl, c2_refused 6 (by omega) (by omega) hC (fun M1 I1 F1 => ⟨trivial, ?_⟩)⟩⟩⟩
    refine xgo [] 100 ⟨rfl, c3_wrongBy v 0 24 (fun _ z => absurd z b) (fun _ _ => ?_) (fun z => absurd a z)⟩
    exact ⟨fun z => absurd z (by decide), fun _ => ⟨fun z => absurd z (by decide), fun _ => ⟨rfl, c3_no 6 (by omega) (by omega) (hM.fc F1) (fun M2 I2 F2 => ⟨trivial, hk _ M2 _ (I1.fm F2) I2 hV⟩)⟩⟩⟩
  · refine ⟨fun z => absurd z (by decide), fun _ => ⟨fun z => absurd z (by decide), fun _ => ⟨rfl, c2_refused 4 (by omega) (by omega) hC (fun M1 I1 F1 => ⟨trivial, ?_⟩)⟩⟩⟩
    refine xgo [] 100 ⟨rfl, c3_wrongBy v 0 24 (fun z => absurd z a) (fun z => absurd z a) (fun _ => ?_)⟩
    exact ⟨fun z => absurd z (by decide), fun _ => ⟨fun z => absurd z (by decide), fun _ => ⟨rfl, c3_no 4 (by omega) (by omega) (hM.fc F1) (fun M2 I2 F2 => ⟨trivial, hk _ M2 _ (I1.fm F2) I2 hV⟩)⟩⟩⟩
/-! two who speak or hold their tongue -/
def aSx (h : xh) (a : Nat) (x : Int32) : xh := if x = 1 then aSpo h a else h
theorem aSx_c (h : xh) (a b : Nat) (x y : Int32) : aSx (aSx h a x) b y = aSx (aSx h b y) a x := by
  unfold aSx
  by_cases c : x = 1
  · by_cases d : y = 1
    · rw [if_pos c, if_pos d, if_pos c, if_pos d]
      unfold aSpo
      rw [hu_hu, hu_hu, hu_s, hu_s, upd_s, upd_s, ior_c]
    · simp only [if_pos c, if_neg d]
  · by_cases d : y = 1
    · simp only [if_neg c, if_pos d]
    · simp only [if_neg c, if_neg d]
theorem aBd_sx {n : Nat} {h : xh} (H : aBd n h) (a : Nat) (x : Int32) : aBd n (aSx h a x) := by
  unfold aSx
  split
  · exact aBd_sc H 9 (by omega) _
  · exact H
theorem aSx_8 (h : xh) (a : Nat) (x : Int32) : aSx h a x 5 8 = h 5 8 := by
  unfold aSx
  split
  · unfold aSpo; rw [hu_s, upd_n _ (by omega)]
  · rfl
def aGn (s : xS) (a b q : Nat) (w : Nat) (x y : Int32) : Int32 := aHrs (sn s) (aSx (aSx (sh s) a x) b y) q 3 w + 2 * (if w = a then x else y)
section XTW
variable {s : xS} {R : xR}
theorem k2_gain {M M0 : xM} {g : xh} (a b q : Nat) (x y : Int32) (ha : a < sn s) (hn : sn s ≤ 6) (hq : q ≤ 24) (hB : aBd (sn s) g) (hR : xRc M 1 (sn s) g) (hF : xfr 1 M0 M) (hk : ∀ M', xfr 1 M0 M' → R (some (xi (aHrs (sn s) g q 3 a + 2 * x))) M') : xWP pg_X2_gain 31 ([some (xo (xN 0)), some (xi (nI a)), some (xi x), some (xi (nI b)), some (xi y), some (xi (nI q)), some (xo (xH 1))], [], M) R := by
  refine xgo [] 100 ⟨rfl, c0_passHours q (by omega) hB.ok hR (fun M1 hR1 hF1 => ⟨xin6 ha hn, trivial, ?_⟩)⟩
  rw [xcl ha hn, hR1.a3 ha]
  exact hk M1 (hF.tr hF1)
theorem c2_gain {M : xM} (a b q : Nat) (x y : Int32) (ha : a < sn s) (hb : b < sn s) (hq : q ≤ 24) (hC : xIc M s) (hV : xIv s) (hk : ∀ M', xfr 1 M M' → R (some (xi (aHrs (sn s) (aSx (aSx (sh s) a x) b y) q 3 a + 2 * x))) M') : xWP pg_X2_gain 0 ([some (xo (xN 0)), some (xi (nI a)), some (xi x), some (xi (nI b)), some (xi y), some (xi (nI q)), none], [], M) R := by
  have hn := hV.1.1.1
  have hB := aBd_sx (aBd_sx hV.1.1 a x) b y
  have st2 : ∀ M1, xRc M1 1 (sn s) (aSx (sh s) a x) → xfr 1 M M1 → xWP pg_X2_gain 18 ([some (xo (xN 0)), some (xi (nI a)), some (xi x), some (xi (nI b)), some (xi y), some (xi (nI q)), some (xo (xH 1))], [], M1) R := by
    intro M1 hR1 hF1
    refine xgo [31] 100 ⟨fun c => ⟨rfl, c0_letSpeak b hn hb hR1 (fun M2 hR2 hF2 => ?_)⟩, fun c => ?_⟩
    · have e : aSx (aSx (sh s) a x) b y = aSpo (aSx (sh s) a x) b := if_pos c
      rw [← e] at hR2
      exact k2_gain a b q x y ha hn hq hB hR2 (hF1.tr hF2) hk
    · have e : aSx (aSx (sh s) a x) b y = aSx (sh s) a x := if_neg c
      rw [← e] at hR1
      exact k2_gain a b q x y ha hn hq hB hR1 hF1 hk
  refine xgo [18] 100 ⟨rfl, c2_thoughtOfNow hC hn (fun M1 hR1 hF1 => ⟨fun c => ⟨rfl, c0_letSpeak a hn ha hR1 (fun M2 hR2 hF2 => ?_)⟩, fun c => ?_⟩)⟩
  · have e : aSx (sh s) a x = aSpo (sh s) a := if_pos c
    rw [← e] at hR2
    exact st2 M2 hR2 (hF1.tr hF2)
  · have e : aSx (sh s) a x = sh s := if_neg c
    rw [← e] at hR1
    exact st2 M1 hR1 hF1
theorem k3_hasBy {M M0 : xM} {g : xh} (w a b q : Nat) (x y : Int32) (hw : w < sn s) (ha : a < sn s) (hn : sn s ≤ 6) (hq : q ≤ 24) (hB : aBd (sn s) g) (hT : ∃ t, t ≤ 999 ∧ g 5 8 = nI t) (hR : xRm M 1 (sn s) g) (hF : xfw 1 M0 M) (hk : ∀ M', xfw 1 M0 M' → R (some (xi (aHrs (sn s) g q 3 w + 2 * (if w = a then x else y)))) M') : xWP pg_X3_hasBy 45 ([some (xo (xN 2)), some (xi (nI w)), some (xi (nI a)), some (xi x), some (xi (nI b)), some (xi y), some (xi (nI q))], [], M) R := by
  refine xgo [] 100 ⟨rfl, c3_hoursOn q (by omega) hB hT hR (fun M1 hR1 hF1 => ⟨rfl, c3_of w 3 ⟨xof_in (by omega) (by omega), ?_⟩⟩)⟩
  rw [hR1.v hw hn 3 (by omega)]
  have h := hk M1 (hF.tr hF1)
  refine ⟨fun c => ⟨trivial, ?_⟩, fun c => ⟨trivial, ?_⟩⟩
  · rw [if_pos ((nI_eq (by omega) (by omega)).mp c)] at h; exact h
  · rw [if_neg (fun z => c (by rw [z]))] at h; exact h
theorem c3_hasBy {M : xM} (w a b q : Nat) (x y : Int32) (hw : w < sn s) (ha : a < sn s) (hb : b < sn s) (hq : q ≤ 24) (hM : xIm M s) (hV : xIv s) (hk : ∀ M', xfw 1 M M' → R (some (xi (aGn s a b q w x y))) M') : xWP pg_X3_hasBy 0 ([some (xo (xN 2)), some (xi (nI w)), some (xi (nI a)), some (xi x), some (xi (nI b)), some (xi y), some (xi (nI q))], [], M) R := by
  have hn := hV.1.1.1
  have hB := aBd_sx (aBd_sx hV.1.1 a x) b y
  have hT : ∃ t, t ≤ 999 ∧ aSx (aSx (sh s) a x) b y 5 8 = nI t := by rw [aSx_8, aSx_8]; exact hV.1.2.1
  have st2 : ∀ M1, xRm M1 1 (sn s) (aSx (sh s) a x) → xfw 1 M M1 → xWP pg_X3_hasBy 27 ([some (xo (xN 2)), some (xi (nI w)), some (xi (nI a)), some (xi x), some (xi (nI b)), some (xi y), some (xi (nI q))], [], M1) R := by
    intro M1 hR1 hF1
    refine xgo [45] 100 ⟨fun c => ⟨rfl, c3_of b 4 ⟨xof_in (by omega) (by omega), ?_⟩⟩, fun c => ?_⟩
    · have e : aSx (aSx (sh s) a x) b y = aSpo (aSx (sh s) a x) b := if_pos c
      rw [xof_cl (by omega) (by omega)]
      have hR2 := hR1.uSpoke hn hb
      change xRm _ 1 (sn s) (aSpo (aSx (sh s) a x) b) at hR2
      rw [← e] at hR2
      exact k3_hasBy w a b q x y hw ha hn hq hB hT hR2 (hF1.u _ _) hk
    · have e : aSx (aSx (sh s) a x) b y = aSx (sh s) a x := if_neg c
      rw [← e] at hR1
      exact k3_hasBy w a b q x y hw ha hn hq hB hT hR1 hF1 hk
  refine xgo [27] 100 ⟨rfl, c3_copies (r := 0) (r' := 1) (by decide) hn hM.1 (fun M1 hR1 hF1 => ⟨fun c => ⟨rfl, c3_of a 4 ⟨xof_in (by omega) (by omega), ?_⟩⟩, fun c => ?_⟩)⟩
  · have e : aSx (sh s) a x = aSpo (sh s) a := if_pos c
    rw [xof_cl (by omega) (by omega)]
    have hR2 := hR1.uSpoke hn ha
    change xRm _ 1 (sn s) (aSpo (sh s) a) at hR2
    rw [← e] at hR2
    exact st2 _ hR2 (hF1.u _ _)
  · have e : aSx (sh s) a x = sh s := if_neg c
    rw [← e] at hR1
    exact st2 M1 hR1 hF1
def aTk (k : Nat) : Int32 := nI k / 2
def aTl (k : Nat) : Int32 := nI k - nI k / 2 * 2
abbrev aTp (s : xS) (a b q k : Nat) : Prop := aGn s a b q a (1 - aTk k) (aTl k) ≤ aGn s a b q a (aTk k) (aTl k) ∧ aGn s a b q b (aTk k) (1 - aTl k) ≤ aGn s a b q b (aTk k) (aTl k)
def aTw (s : xS) (a b q : Nat) : Nat → Int32
  | 0 => -9
  | d + 1 => if aTp s a b q (4 - (d + 1)) then 10 * aTk (4 - (d + 1)) + aTl (4 - (d + 1)) else aTw s a b q d
theorem aGn_a (s : xS) (a b q : Nat) (x y : Int32) : aHrs (sn s) (aSx (aSx (sh s) a x) b y) q 3 a + 2 * x = aGn s a b q a x y := by
  unfold aGn
  rw [if_pos rfl]
theorem aGn_b (s : xS) (a b q : Nat) (x y : Int32) (h : a ≠ b) : aHrs (sn s) (aSx (aSx (sh s) b y) a x) q 3 b + 2 * y = aGn s a b q b x y := by
  unfold aGn
  rw [if_neg (fun z => h z.symm), aSx_c]
theorem l2_two {M0 : xM} (a b q : Nat) (ha : a < sn s) (hb : b < sn s) (hab : a ≠ b) (hq : q ≤ 24) (hV : xIv s) : ∀ d k (M : xM) (x6 x7 x8 : Option xV), k + d = 4 → xIc M s → xfr 1 M0 M → (∀ M', xfr 1 M0 M' → R (some (xi (aTw s a b q d))) M') → xWP pg_X2_two 57 ([some (xo (xN 0)), some (xi (nI a)), some (xi (nI b)), some (xi (nI q)), some (xi 0), some (xi (nI k)), x6, x7, x8], [], M) R := by
  have hn := hV.1.1.1
  intro d
  induction d with
  | zero =>
    intro k M x6 x7 x8 hkd hC hF hk
    have : k = 4 := by omega
    subst this
    exact xgo [] 100 ⟨fun _ => ⟨trivial, hk M hF⟩, fun c => absurd (nI_le (a := 4) (b := 4) (by omega) (by omega)) c⟩
  | succ d ih =>
    intro k M x6 x7 x8 hkd hC hF hk
    have ek : 4 - (d + 1) = k := by omega
    unfold aTw at hk
    rw [ek] at hk
    have no : ∀ M3 x8, ¬ aTp s a b q k → xIc M3 s → xfr 1 M0 M3 → xWP pg_X2_two 150 ([some (xo (xN 0)), some (xi (nI a)), some (xi (nI b)), some (xi (nI q)), some (xi 0), some (xi (nI k)), some (xi (aTk k)), some (xi (aTl k)), x8], [], M3) R := by
      intro M3 x8 hT hC3 hF3
      refine xgo [57] 100 ?_
      show xWP pg_X2_two 57 ([some (xo (xN 0)), some (xi (nI a)), some (xi (nI b)), some (xi (nI q)), some (xi 0), some (xi (nI k + 1)), some (xi (aTk k)), some (xi (aTl k)), x8], [], M3) R
      rw [nI_1]
      rw [if_neg hT] at hk
      exact ih (k + 1) M3 _ _ _ (by omega) hC3 hF3 hk
    refine xgo [75] 100 ⟨fun c => absurd c (nI_ge (b := 4) (by omega) (by omega)), fun _ => ⟨by decide, by decide, ?_⟩⟩
    show xWP pg_X2_two 75 ([some (xo (xN 0)), some (xi (nI a)), some (xi (nI b)), some (xi (nI q)), some (xi 0), some (xi (nI k)), some (xi (aTk k)), some (xi (aTl k)), x8], [], M) R
    refine xgo [150] 100 ⟨rfl, c2_gain a b q (aTk k) (aTl k) ha hb hq hC hV (fun M1 hF1 => ⟨rfl, c2_gain a b q (1 - aTk k) (aTl k) ha hb hq (hC.th hF1) hV (fun M2 hF2 => ?_)⟩)⟩
    rw [aGn_a, aGn_a]
    have hF3 := hF1.tr hF2
    have hC3 := hC.th hF3
    refine ⟨fun c => ?_, fun c => ?_⟩
    · exact ⟨fun _ => no M2 _ (fun z => absurd z.1 (Int32.not_le.mpr c)) hC3 (hF.tr hF3), fun z => absurd rfl z⟩
    · refine ⟨fun z => absurd z (by decide), fun _ => ⟨rfl, c2_gain b a q (aTl k) (aTk k) hb ha hq hC3 hV (fun M4 hF4 => ⟨rfl, c2_gain b a q (1 - aTl k) (aTk k) hb ha hq (hC3.th hF4) hV (fun M5 hF5 => ?_)⟩)⟩⟩
      rw [aGn_b s a b q _ _ hab, aGn_b s a b q _ _ hab]
      have hF6 := (hF.tr hF3).tr (hF4.tr hF5)
      have hC6 := hC3.th (hF4.tr hF5)
      refine ⟨fun c' => no M5 _ (fun z => absurd z.2 (Int32.not_le.mpr c')) hC6 hF6, fun c' => ⟨trivial, ?_⟩⟩
      have h := hk M5 hF6
      rw [if_pos ⟨Int32.not_lt.mp c, Int32.not_lt.mp c'⟩] at h
      exact h
theorem l3_two {M0 : xM} (a b q : Nat) (ha : a < sn s) (hb : b < sn s) (hq : q ≤ 24) (hV : xIv s) : ∀ d k (M : xM) (x6 x7 : Option xV), k + d = 4 → xIm M s → xfw 1 M0 M → (∀ M', xfw 1 M0 M' → R (some (xi (aTw s a b q d))) M') → xWP pg_X3_two 49 ([some (xo (xN 2)), some (xi (nI a)), some (xi (nI b)), some (xi (nI q)), some (xi 0), some (xi (nI k)), x6, x7], [], M) R := by
  have hn := hV.1.1.1
  intro d
  induction d with
  | zero =>
    intro k M x6 x7 hkd hM hF hk
    have : k = 4 := by omega
    subst this
    exact xgo [] 100 ⟨fun _ => ⟨trivial, hk M hF⟩, fun c => absurd (nI_le (a := 4) (b := 4) (by omega) (by omega)) c⟩
  | succ d ih =>
    intro k M x6 x7 hkd hM hF hk
    have ek : 4 - (d + 1) = k := by omega
    unfold aTw at hk
    rw [ek] at hk
    have no : ∀ M3, ¬ aTp s a b q k → xIm M3 s → xfw 1 M0 M3 → xWP pg_X3_two 134 ([some (xo (xN 2)), some (xi (nI a)), some (xi (nI b)), some (xi (nI q)), some (xi 0), some (xi (nI k)), some (xi (aTk k)), some (xi (aTl k))], [], M3) R := by
      intro M3 hT hM3 hF3
      refine xgo [49] 100 ?_
      show xWP pg_X3_two 49 ([some (xo (xN 2)), some (xi (nI a)), some (xi (nI b)), some (xi (nI q)), some (xi 0), some (xi (nI k + 1)), some (xi (aTk k)), some (xi (aTl k))], [], M3) R
      rw [nI_1]
      rw [if_neg hT] at hk
      exact ih (k + 1) M3 _ _ (by omega) hM3 hF3 hk
    refine xgo [67] 100 ⟨fun c => absurd c (nI_ge (b := 4) (by omega) (by omega)), fun _ => ⟨by decide, by decide, ?_⟩⟩
    show xWP pg_X3_two 67 ([some (xo (xN 2)), some (xi (nI a)), some (xi (nI b)), some (xi (nI q)), some (xi 0), some (xi (nI k)), some (xi (aTk k)), some (xi (aTl k))], [], M) R
    refine xgo [134] 100 ⟨rfl, c3_hasBy a a b q (1 - aTk k) (aTl k) ha ha hb hq hM hV (fun M1 hF1 => ⟨rfl, c3_hasBy a a b q (aTk k) (aTl k) ha ha hb hq (hM.th hF1) hV (fun M2 hF2 => ?_)⟩)⟩
    have hF3 := hF1.tr hF2
    have hM3 := hM.th hF3
    refine ⟨fun c => no M2 (fun z => absurd z.1 (Int32.not_le.mpr c)) hM3 (hF.tr hF3), fun c => ⟨rfl, c3_hasBy b a b q (aTk k) (1 - aTl k) hb ha hb hq hM3 hV (fun M4 hF4 => ⟨rfl, c3_hasBy b a b q (aTk k) (aTl k) hb ha hb hq (hM3.th hF4) hV (fun M5 hF5 => ?_)⟩)⟩⟩
    have hF6 := (hF.tr hF3).tr (hF4.tr hF5)
    have hM6 := hM3.th (hF4.tr hF5)
    refine ⟨fun c' => no M5 (fun z => absurd z.2 (Int32.not_le.mpr c')) hM6 hF6, fun c' => ⟨trivial, ?_⟩⟩
    have h := hk M5 hF6
    rw [if_pos ⟨Int32.not_lt.mp c, Int32.not_lt.mp c'⟩] at h
    exact h
end XTW
theorem j_two (a b v : Int32) : xJt pg_X2_two pg_X3_two [some (xo (xN 0)), some (xi a), some (xi b), some (xi v), none, none, none, none, none] [some (xo (xN 2)), some (xi a), some (xi b), some (xi v), none, none, none, none] := by
  intro M s K hC hM hV hk
  have hn := hV.1.1.1
  have nob : ∀ M1, xIc M1 (sRf s 1) → xFc M M1 → ¬ ((0 ≤ a ∧ a < nI (sn s)) ∧ (0 ≤ b ∧ b < nI (sn s)) ∧ a ≠ b) → xWP pg_X3_two 0 ([some (xo (xN 2)), some (xi a), some (xi b), some (xi v), none, none, none, none], [], M1) (fun v2 M2 => K (some (xi (-(nI 1)))) v2 M2) := by
    intro M1 I1 F1 hne
    have hM1 := hM.fc F1
    have fin : xWP pg_X3_two 31 ([some (xo (xN 2)), some (xi a), some (xi b), some (xi v), none, none, none, none], [], M1) (fun v2 M2 => K (some (xi (-(nI 1)))) v2 M2) :=
      xgo [] 100 ⟨fun z => absurd z (by decide), fun _ => ⟨rfl, c3_no 1 (by omega) (by omega) hM1 (fun M2 I2 F2 => ⟨trivial, hk _ M2 _ (I1.fm F2) I2 hV⟩)⟩⟩
    refine xgo [31] 100 ⟨rfl, c3_isPerson a hn hM1.1 (fun ha => ⟨fun z => absurd z (by decide), fun _ => ⟨rfl, c3_isPerson b hn hM1.1 (fun hb => ⟨fun z => absurd z (by decide), fun _ => ⟨fun _ => fin, fun c => absurd ⟨ha, hb, c⟩ hne⟩⟩) (fun _ => ⟨fun _ => fin, fun z => absurd rfl z⟩)⟩⟩) (fun _ => ⟨fun _ => fin, fun z => absurd rfl z⟩)⟩
  have no : ¬ ((0 ≤ a ∧ a < nI (sn s)) ∧ (0 ≤ b ∧ b < nI (sn s)) ∧ a ≠ b) → xWP pg_X2_two 27 ([some (xo (xN 0)), some (xi a), some (xi b), some (xi v), none, none, none, none, none], [], M) (fun v1 M1 => xWP pg_X3_two 0 ([some (xo (xN 2)), some (xi a), some (xi b), some (xi v), none, none, none, none], [], M1) (fun v2 M2 => K v1 v2 M2)) := by
    intro hne
    exact xgo [] 100 ⟨rfl, c2_refused 1 (by omega) (by omega) hC (fun M1 I1 F1 => ⟨trivial, nob M1 I1 F1 hne⟩)⟩
  refine xgo [27, 33] 100 ⟨rfl, c0_isThere a hC.1 (fun ha => ⟨fun z => absurd z (by decide), fun _ => ⟨rfl, c0_isThere b hC.1 (fun hb => ⟨fun z => absurd z (by decide), fun _ => ⟨fun c => no (fun z => z.2.2 c), fun c => ?_⟩⟩) (fun z => ⟨fun _ => no (fun w => z w.2.1), fun z => absurd rfl z⟩)⟩⟩) (fun z => ⟨fun _ => no (fun w => z w.1), fun z => absurd rfl z⟩)⟩
  obtain ⟨a, hA, rfl⟩ := xper hn ha
  obtain ⟨b, hBb, rfl⟩ := xper hn hb
  have hab : a ≠ b := fun z => c (by rw [z])
  refine xgo [57] 100 ⟨rfl, c2_rangeRefusal v 0 24 (fun d e => ?_) (fun d e => ?_) (fun d => ?_)⟩
  · refine ⟨fun _ => ?_, fun z => absurd rfl z⟩
    obtain ⟨q, hq, rfl⟩ := xrng (b := 24) (by omega) d e
    refine l2_two (M0 := M) a b q hA hBb hab hq hV 4 0 M none none none (by omega) hC xfr.rf (fun M1 hF1 => ?_)
    have hM1 := hM.fc hF1.c
    refine xgo [49] 100 ⟨rfl, c3_isPerson (nI a) hn hM1.1 (fun _ => ⟨fun z => absurd z (by decide), fun _ => ⟨rfl, c3_isPerson (nI b) hn hM1.1 (fun _ => ⟨fun z => absurd z (by decide), fun _ => ⟨fun z => absurd z c, fun _ => ⟨rfl, c3_wrongBy (nI q) 0 24 (fun _ _ => ⟨fun _ => ?_, fun z => absurd rfl z⟩) (fun _ z => absurd e z) (fun z => absurd d z)⟩⟩⟩) (fun z => absurd hb z)⟩⟩) (fun z => absurd ha z)⟩
    exact l3_two (M0 := M1) a b q hA hBb hq hV 4 0 M1 none none (by omega) hM1 xfw.rf (fun M2 hF2 => hk _ M2 s ((hC.th hF1).fm hF2.m) (hM1.th hF2) hV)
  · refine ⟨fun z => absurd z (by decide), fun _ => ⟨rfl, c2_refused 6 (by omega) (by omega) hC (fun M1 I1 F1 => ⟨trivial, ?_⟩)⟩⟩
    have hM1 := hM.fc F1
    exact xgo [] 100 ⟨rfl, c3_isPerson (nI a) hn hM1.1 (fun _ => ⟨fun z => absurd z (by decide), fun _ => ⟨rfl, c3_isPerson (nI b) hn hM1.1 (fun _ => ⟨fun z => absurd z (by decide), fun _ => ⟨fun z => absurd z c, fun _ => ⟨rfl, c3_wrongBy v 0 24 (fun _ z => absurd z e) (fun _ _ => ⟨fun z => absurd z (by decide), fun _ => ⟨rfl, c3_no 6 (by omega) (by omega) hM1 (fun M2 I2 F2 => ⟨trivial, hk _ M2 _ (I1.fm F2) I2 hV⟩)⟩⟩) (fun z => absurd d z)⟩⟩⟩) (fun z => absurd hb z)⟩⟩) (fun z => absurd ha z)⟩
  · refine ⟨fun z => absurd z (by decide), fun _ => ⟨rfl, c2_refused 4 (by omega) (by omega) hC (fun M1 I1 F1 => ⟨trivial, ?_⟩)⟩⟩
    have hM1 := hM.fc F1
    exact xgo [] 100 ⟨rfl, c3_isPerson (nI a) hn hM1.1 (fun _ => ⟨fun z => absurd z (by decide), fun _ => ⟨rfl, c3_isPerson (nI b) hn hM1.1 (fun _ => ⟨fun z => absurd z (by decide), fun _ => ⟨fun z => absurd z c, fun _ => ⟨rfl, c3_wrongBy v 0 24 (fun z => absurd z d) (fun z => absurd z d) (fun _ => ⟨fun z => absurd z (by decide), fun _ => ⟨rfl, c3_no 4 (by omega) (by omega) hM1 (fun M2 I2 F2 => ⟨trivial, hk _ M2 _ (I1.fm F2) I2 hV⟩)⟩⟩)⟩⟩⟩) (fun z => absurd hb z)⟩⟩) (fun z => absurd ha z)⟩
