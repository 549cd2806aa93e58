/-! ===== what kind one is by what he drew; years by lot ===== -/
abbrev aGo (s : xS) (g : xh) (p m : Nat) : Prop := ∀ k, k < m → aHrs (sn s) g k 3 p = sro s k
def aWi (s : xS) (j p : Nat) : Nat → Int32
  | 0 => 0
  | k + 1 => if aGo s (hu (sh s) j p (nI k)) p (sr s) then aWi s j p k ||| 1 <<< (nI k &&& 31) else aWi s j p k
section XWI
variable {s : xS} {R : xR}
theorem l2_goes {M0 : xM} {g : xh} (p : Nat) (hp : p < sn s) (hV : xIv s) (hO : aOk (sn s) g) (hC0 : xIc M0 s) (h1 : aGo s g p (sr s) → ∀ M', xfr 1 M0 M' → R (some (xi 1)) M') (h2 : ¬ aGo s g p (sr s) → ∀ M', xfr 1 M0 M' → R (some (xi 0)) M') : ∀ d k (M : xM), k + d = sr s → aGo s g p k → xRc M 1 (sn s) (aHrs (sn s) g k) → xfr 1 M0 M → xWP pg_X2_goesAsRow 2 ([some (xo (xN 0)), some (xo (xH 1)), some (xi (nI p)), some (xi (nI k))], [], M) R := by
  have hn := hV.1.1.1
  have h16 := hV.2.2.2.2
  intro d
  induction d with
  | zero =>
    intro k M hkd hG hR hF
    have : k = sr s := by omega
    subst this
    have e6 : M (xN 0) 6 = nI (sr s) := (hC0.th hF).2.2.2.2.2.1
    exact xgo [] 100 ⟨fun _ => ⟨Or.inr rfl, h1 hG M hF⟩, fun c => absurd (by rw [e6]; exact nI_le (Nat.le_refl _) (by omega)) c⟩
  | succ d ih =>
    intro k M hkd hG hR hF
    have hC := hC0.th hF
    have e6 : M (xN 0) 6 = nI (sr s) := hC.2.2.2.2.2.1
    have er : M (xN 4) k = sro s k := hC.2.2.2.2.2.2.1 k (by omega)
    refine xgo [2] 100 ⟨fun c => absurd c (by rw [e6]; exact nI_ge (by omega) (by omega)), fun _ => ⟨xin6 hp hn, vp_in_nI (show k < 16 by omega) (by omega), ?_⟩⟩
    rw [xcl hp hn, hR.a3 hp, nI_clamp (show k < 2 ^ 31 by omega), er]
    refine ⟨fun c => ⟨rfl, c0_passHour 0 (hO.of (aHrs_4 _ _ k)) hR (fun M1 hR1 hF1 => ?_)⟩, fun c => ⟨Or.inl rfl, h2 (fun z => c (z k (by omega))) M hF⟩⟩
    show xWP pg_X2_goesAsRow 2 ([some (xo (xN 0)), some (xo (xH 1)), some (xi (nI p)), some (xi (nI k + 1))], [], M1) R
    rw [nI_1]
    refine ih (k + 1) M1 (by omega) (fun q hq => ?_) hR1 (hF.tr hF1)
    by_cases e : q = k
    · rw [e]; exact c
    · exact hG q (by omega)
theorem c2_goes {M : xM} {g : xh} (p : Nat) (hp : p < sn s) (hV : xIv s) (hO : aOk (sn s) g) (hC : xIc M s) (hR : xRc M 1 (sn s) g) (h1 : aGo s g p (sr s) → ∀ M', xfr 1 M M' → R (some (xi 1)) M') (h2 : ¬ aGo s g p (sr s) → ∀ M', xfr 1 M M' → R (some (xi 0)) M') : xWP pg_X2_goesAsRow 0 ([some (xo (xN 0)), some (xo (xH 1)), some (xi (nI p)), none], [], M) R :=
  xgo [2] 100 (l2_goes p hp hV hO hC h1 h2 (sr s) 0 M (by omega) (fun q hq => by omega) hR xfr.rf)
theorem hu_58 {h : xh} {j p : Nat} {v : Int32} (hj : j < 2) : hu h j p v 5 8 = h 5 8 := by rw [hu_n (by omega)]
theorem l2_kindsByRow {M0 : xM} (p : Nat) (hp : p < sn s) (hV : xIv s) (hk : ∀ M', xfr 1 M0 M' → R (some (xi (aWi s 0 p 6))) M') : ∀ d k (M : xM) (x4 : Option xV), k + d = 6 → xIc M s → xfr 1 M0 M → xWP pg_X2_kindsByRow 4 ([some (xo (xN 0)), some (xi (nI p)), some (xi (aWi s 0 p k)), some (xi (nI k)), x4], [], M) R := by
  have hn := hV.1.1.1
  intro d
  induction d with
  | zero =>
    intro k M x4 hkd hC hF
    have : k = 6 := by omega
    subst this
    exact xgo [] 100 ⟨fun _ => ⟨trivial, hk M hF⟩, fun c => absurd (nI_le (a := 6) (b := 6) (by omega) (by omega)) c⟩
  | succ d ih =>
    intro k M x4 hkd hC hF
    have nxt : ∀ a M3, xIc M3 s → xfr 1 M0 M3 → aWi s 0 p (k + 1) = a → xWP pg_X2_kindsByRow 40 ([some (xo (xN 0)), some (xi (nI p)), some (xi a), some (xi (nI k)), some (xo (xH 1))], [], M3) R := by
      intro a M3 hC3 hF3 e
      refine xgo [4] 100 ?_
      show xWP pg_X2_kindsByRow 4 ([some (xo (xN 0)), some (xi (nI p)), some (xi a), some (xi (nI k + 1)), some (xo (xH 1))], [], M3) R
      rw [nI_1, ← e]
      exact ih (k + 1) M3 _ (by omega) hC3 hF3
    refine xgo [40] 100 ⟨fun c => absurd c (nI_ge (b := 6) (by omega) (by omega)), fun _ => ⟨rfl, c2_thoughtOfNow hC hn (fun M1 hR1 hF1 => ⟨xin6 hp hn, rfl, ?_⟩)⟩⟩
    rw [xcl hp hn]
    have hR2 := hR1.ua 0 p (nI k)
    have hF2 := hF1.ua 0 p (nI k)
    have hC2 := hC.th hF2
    refine c2_goes p hp hV (aBd_kf hV.1.1 (show 0 < 2 by omega) (nI k)).ok hC2 hR2 (fun w M3 hF3 => ?_) (fun w M3 hF3 => ?_)
    · exact ⟨fun z => absurd z (by decide), fun _ => nxt _ M3 (hC2.th hF3) (hF.tr (hF2.tr hF3)) (if_pos w)⟩
    · exact ⟨fun _ => nxt _ M3 (hC2.th hF3) (hF.tr (hF2.tr hF3)) (if_neg w), fun z => absurd rfl z⟩
theorem l2_figuresByRow {M0 : xM} (p : Nat) (hp : p < sn s) (hV : xIv s) (hk : ∀ M', xfr 1 M0 M' → R (some (xi (aWi s 1 p 10))) M') : ∀ d k (M : xM) (x4 : Option xV), k + d = 10 → xIc M s → xfr 1 M0 M → xWP pg_X2_figuresByRow 4 ([some (xo (xN 0)), some (xi (nI p)), some (xi (aWi s 1 p k)), some (xi (nI k)), x4], [], M) R := by
  have hn := hV.1.1.1
  intro d
  induction d with
  | zero =>
    intro k M x4 hkd hC hF
    have : k = 10 := by omega
    subst this
    exact xgo [] 100 ⟨fun _ => ⟨trivial, hk M hF⟩, fun c => absurd (nI_lt (a := 9) (b := 10) (by omega) (by omega)) c⟩
  | succ d ih =>
    intro k M x4 hkd hC hF
    have nxt : ∀ a M3, xIc M3 s → xfr 1 M0 M3 → aWi s 1 p (k + 1) = a → xWP pg_X2_figuresByRow 40 ([some (xo (xN 0)), some (xi (nI p)), some (xi a), some (xi (nI k)), some (xo (xH 1))], [], M3) R := by
      intro a M3 hC3 hF3 e
      refine xgo [4] 100 ?_
      show xWP pg_X2_figuresByRow 4 ([some (xo (xN 0)), some (xi (nI p)), some (xi a), some (xi (nI k + 1)), some (xo (xH 1))], [], M3) R
      rw [nI_1, ← e]
      exact ih (k + 1) M3 _ (by omega) hC3 hF3
    refine xgo [40] 100 ⟨fun c => absurd c (nI_nlt (a := 9) (by omega) (by omega)), fun _ => ⟨rfl, c2_thoughtOfNow hC hn (fun M1 hR1 hF1 => ⟨xin6 hp hn, rfl, ?_⟩)⟩⟩
    rw [xcl hp hn]
    have hR2 := hR1.ua 1 p (nI k)
    have hF2 := hF1.ua 1 p (nI k)
    have hC2 := hC.th hF2
    refine c2_goes p hp hV (aBd_kf hV.1.1 (show 1 < 2 by omega) (nI k)).ok hC2 hR2 (fun w M3 hF3 => ?_) (fun w M3 hF3 => ?_)
    · exact ⟨fun z => absurd z (by decide), fun _ => nxt _ M3 (hC2.th hF3) (hF.tr (hF2.tr hF3)) (if_pos w)⟩
    · exact ⟨fun _ => nxt _ M3 (hC2.th hF3) (hF.tr (hF2.tr hF3)) (if_neg w), fun z => absurd rfl z⟩
def aFz (P : Prop) [Decidable P] : Int32 := if P then 1 else 0
theorem aFz_p {P : Prop} [Decidable P] (h : P) : aFz P = 1 := if_pos h
theorem aFz_n {P : Prop} [Decidable P] (h : ¬ P) : aFz P = 0 := if_neg h
theorem one_and : (1 : Int32) &&& 1 = 1 ∧ (1 : Int32) &&& 0 = 0 ∧ (0 : Int32) &&& 1 = 0 ∧ (0 : Int32) &&& 0 = 0 := by decide
theorem l3_wi {M0 : xM} {g : xh} (p w k : Nat) (a : Int32) (hp : p < sn s) (hV : xIv s) (hB : aBd (sn s) g) (hT : ∃ t, t ≤ 999 ∧ g 5 8 = nI t) (hM0 : xIm M0 s) (hk : ∀ M', xfw 1 M0 M' → xWP pg_X3_whatIs 133 ([some (xo (xN 2)), some (xi (nI p)), some (xi (nI w)), some (xi a), some (xi (nI k)), some (xi (aFz (aGo s g p (sr s)))), some (xi (nI (sr s)))], [], M') R) : ∀ d i (M : xM), i + d = sr s → xRm M 1 (sn s) (aHrs (sn s) g i) → xfw 1 M0 M → xWP pg_X3_whatIs 80 ([some (xo (xN 2)), some (xi (nI p)), some (xi (nI w)), some (xi a), some (xi (nI k)), some (xi (aFz (aGo s g p i))), some (xi (nI i))], [], M) R := by
  have hn := hV.1.1.1
  have h16 := hV.2.2.2.2
  intro d
  induction d with
  | zero =>
    intro i M hid hR hF
    have : i = sr s := by omega
    subst this
    have e9 : M (xN 2) 9 = nI (sr s) := (hM0.th hF).2.2.2.2.2.1
    exact xgo [133] 100 ⟨fun _ => hk M hF, fun c => absurd (by rw [e9]; exact nI_le (Nat.le_refl _) (by omega)) c⟩
  | succ d ih =>
    intro i M hid hR hF
    have hM := hM0.th hF
    have e9 : M (xN 2) 9 = nI (sr s) := hM.2.2.2.2.2.1
    have er : M (xN 7) i = sro s i := hM.2.2.2.2.2.2.1 i (by omega)
    have nxt : ∀ b, aFz (aGo s g p (i + 1)) = b → xWP pg_X3_whatIs 119 ([some (xo (xN 2)), some (xi (nI p)), some (xi (nI w)), some (xi a), some (xi (nI k)), some (xi b), some (xi (nI i))], [], M) R := by
      intro b e
      refine xgo [80] 100 ⟨rfl, c3_hour 0 (Or.inl rfl) (aBd_hrs hB i) (aTm_of hT i (by omega)) hR (fun M1 hR1 hF1 => ?_)⟩
      show xWP pg_X3_whatIs 80 ([some (xo (xN 2)), some (xi (nI p)), some (xi (nI w)), some (xi a), some (xi (nI k)), some (xi b), some (xi (nI i + 1))], [], M1) R
      rw [nI_1, ← e]
      exact ih (i + 1) M1 (by omega) hR1 (hF.tr hF1)
    refine xgo [119] 100 ⟨fun c => absurd c (by rw [e9]; exact nI_ge (by omega) (by omega)), fun _ => ⟨rfl, c3_of p 3 ⟨xof_in (by omega) (by omega), vp_in_nI (show i < 16 by omega) (by omega), ?_⟩⟩⟩
    rw [hR.v hp hn 3 (by omega), nI_clamp (show i < 2 ^ 31 by omega), er]
    refine ⟨fun c => ?_, fun c => ?_⟩
    · show xWP pg_X3_whatIs 119 ([some (xo (xN 2)), some (xi (nI p)), some (xi (nI w)), some (xi a), some (xi (nI k)), some (xi (aFz (aGo s g p i) &&& 1)), some (xi (nI i))], [], M) R
      by_cases h : aGo s g p i
      · rw [aFz_p h]
        refine nxt _ (aFz_p (fun q hq => ?_))
        by_cases e : q = i
        · rw [e]; exact c
        · exact h q (by omega)
      · rw [aFz_n h]
        exact nxt _ (aFz_n (fun z => h (fun q hq => z q (by omega))))
    · show xWP pg_X3_whatIs 119 ([some (xo (xN 2)), some (xi (nI p)), some (xi (nI w)), some (xi a), some (xi (nI k)), some (xi (aFz (aGo s g p i) &&& 0)), some (xi (nI i))], [], M) R
      have e0 : aFz (aGo s g p i) &&& 0 = 0 := by
        by_cases h : aGo s g p i
        · rw [aFz_p h]; rfl
        · rw [aFz_n h]; rfl
      rw [e0]
      exact nxt _ (aFz_n (fun z => c (z i (by omega))))
theorem l3_whatIs {M0 : xM} (p w L : Nat) (hp : p < sn s) (hw : (w = 0 ∧ L = 6) ∨ (w = 1 ∧ L = 10)) (hV : xIv s) (hk : ∀ M', xfw 1 M0 M' → R (some (xi (aWi s w p L))) M') : ∀ d k (M : xM) (b : Option Int32) (x6 : Option xV), k + d = L → xIm M s → xfw 1 M0 M → xWP pg_X3_whatIs 35 ([some (xo (xN 2)), some (xi (nI p)), some (xi (nI w)), some (xi (aWi s w p k)), some (xi (nI k)), b.map xi, x6], [], M) R := by
  have hn := hV.1.1.1
  intro d
  induction d with
  | zero =>
    intro k M b x6 hkd hM hF
    have : k = L := by omega
    subst this
    have fin : nI k ≤ nI k := nI_le (Nat.le_refl _) (by omega)
    rcases hw with ⟨rfl, rfl⟩ | ⟨rfl, rfl⟩
    · exact xgo [] 100 ⟨fun _ => ⟨fun _ => ⟨trivial, hk M hF⟩, fun c => absurd fin c⟩, fun z => absurd rfl z⟩
    · exact xgo [] 100 ⟨fun z => absurd z (by decide), fun _ => ⟨fun _ => ⟨trivial, hk M hF⟩, fun c => absurd fin c⟩⟩
  | succ d ih =>
    intro k M b x6 hkd hM hF
    have nxt : ∀ a M3 c x6, xIm M3 s → xfw 1 M0 M3 → aWi s w p (k + 1) = a → xWP pg_X3_whatIs 149 ([some (xo (xN 2)), some (xi (nI p)), some (xi (nI w)), some (xi a), some (xi (nI k)), some (xi c), x6], [], M3) R := by
      intro a M3 c x6 hM3 hF3 e
      refine xgo [35] 100 ?_
      show xWP pg_X3_whatIs 35 ([some (xo (xN 2)), some (xi (nI p)), some (xi (nI w)), some (xi a), some (xi (nI k + 1)), (some c).map xi, x6], [], M3) R
      rw [nI_1, ← e]
      exact ih (k + 1) M3 _ _ (by omega) hM3 hF3
    have hw1 : w ≤ 1 := by omega
    have body : xWP pg_X3_whatIs 51 ([some (xo (xN 2)), some (xi (nI p)), some (xi (nI w)), some (xi (aWi s w p k)), some (xi (nI k)), b.map xi, x6], [], M) R := by
      have bm : ∀ y : Option xV, xWP pg_X3_whatIs 54 ([some (xo (xN 2)), some (xi (nI p)), some (xi (nI w)), some (xi (aWi s w p k)), some (xi (nI k)), some (xi 1), y], [], M) R := by
        intro y
        refine xgo [80] 100 ⟨rfl, c3_copies (r := 0) (r' := 1) (by decide) hn hM.1 (fun M1 hR1 hF1 => ⟨rfl, c3_of p w ⟨xof_in (by omega) (by omega), ?_⟩⟩)⟩
        rw [xof_cl (by omega) (by omega)]
        have hR2 := hR1.uAr hp (nI k) w w (by omega)
        have hF2 := hF1.u (5 + 7 * p + w) (nI k)
        have hM2 := hM.th hF2
        refine l3_wi (M0 := xup M1 (xW 1) (5 + 7 * p + w) (nI k)) (g := hu (sh s) w p (nI k)) p w k (aWi s w p k) hp hV (aBd_kf hV.1.1 (by omega) _) (by rw [hu_58 (by omega)]; exact hV.1.2.1) hM2 (fun M3 hF3 => ?_) (sr s) 0 _ (by omega) hR2 xfw.rf
        have hF4 := hF2.tr hF3
        by_cases h : aGo s (hu (sh s) w p (nI k)) p (sr s)
        · rw [aFz_p h]
          exact xgo [149] 100 ⟨fun z => absurd z (by decide), fun _ => nxt _ M3 _ _ (hM.th hF4) (hF.tr hF4) (if_pos h)⟩
        · rw [aFz_n h]
          exact xgo [149] 100 ⟨fun _ => nxt _ M3 _ _ (hM.th hF4) (hF.tr hF4) ((if_neg h).trans (ior_0 _).symm), fun z => absurd rfl z⟩
      exact xgo [54] 100 (bm _)
    have lt : ¬ nI L ≤ nI k := nI_ge (by omega) (by omega)
    rcases hw with ⟨rfl, rfl⟩ | ⟨rfl, rfl⟩
    · exact xgo [51] 100 ⟨fun _ => ⟨fun c => absurd c lt, fun _ => body⟩, fun z => absurd rfl z⟩
    · exact xgo [51] 100 ⟨fun z => absurd z (by decide), fun _ => ⟨fun c => absurd c lt, fun _ => body⟩⟩
end XWI
theorem j_whatIs (p w : Int32) : xJt pg_X2_whatIs pg_X3_whatIs [some (xo (xN 0)), some (xi p), some (xi w), none] [some (xo (xN 2)), some (xi p), some (xi w), none, none, none, none] := by
  intro M s K hC hM hV hk
  have hn := hV.1.1.1
  refine xgo [33] 100 ⟨rfl, c0_isThere p hC.1 (fun a => ⟨fun z => absurd z (by decide), fun _ => ⟨rfl, c2_whatRefusal w 1 (fun b c => ⟨fun _ => ?_, fun z => absurd rfl z⟩) (fun b => ⟨fun z => absurd z (by decide), fun _ => ⟨rfl, c2_refused 2 (by omega) (by omega) hC (fun M1 I1 F1 => ⟨trivial, ?_⟩)⟩⟩)⟩⟩) (fun a => ⟨fun _ => ⟨rfl, c2_refused 1 (by omega) (by omega) hC (fun M1 I1 F1 => ⟨trivial, ?_⟩)⟩, fun z => absurd rfl z⟩)⟩
  · obtain ⟨P, hP, rfl⟩ := xper hn a
    obtain ⟨u, hu', rfl⟩ := xrng (b := 1) (by omega) b c
    have go : ∀ L, ((u = 0 ∧ L = 6) ∨ (u = 1 ∧ L = 10)) → ∀ M1, xfr 1 M M1 → xWP pg_X3_whatIs 0 ([some (xo (xN 2)), some (xi (nI P)), some (xi (nI u)), none, none, none, none], [], M1) (fun v2 M2 => K (some (xi (aWi s u P L))) v2 M2) := by
      intro L hL M1 hF1
      have hM1 := hM.fc hF1.c
      refine xgo [35] 100 ⟨rfl, c3_isPerson (nI P) hn hM1.1 (fun _ => ⟨fun z => absurd z (by decide), fun _ => ⟨rfl, c3_isIn (nI u) 0 1 (fun _ => ⟨fun z => absurd z (by decide), fun _ => ?_⟩) (fun z => absurd ⟨b, c⟩ z)⟩⟩) (fun z => absurd a z)⟩
      exact l3_whatIs (M0 := M1) P u L hP hL hV (fun M2 hF2 => hk _ M2 s ((hC.th hF1).fm hF2.m) (hM1.th hF2) hV) L 0 M1 none none (by omega) hM1 xfw.rf
    show xWP pg_X2_whatIs 33 ([some (xo (xN 0)), some (xi (nI P)), some (xi (nI u)), some (xi 0)], [], M) _
    have h2 : u = 0 ∨ u = 1 := by omega
    rcases h2 with rfl | rfl
    · refine xgo [] 100 ⟨fun _ => ⟨rfl, ?_⟩, fun z => absurd rfl z⟩
      exact xgo [4] 100 (l2_kindsByRow (M0 := M) P hP hV (fun M1 hF1 => ⟨trivial, go 6 (Or.inl ⟨rfl, rfl⟩) M1 hF1⟩) 6 0 M none (by omega) hC xfr.rf)
    · refine xgo [] 100 ⟨fun z => absurd z (by decide), fun _ => ⟨rfl, ?_⟩⟩
      exact xgo [4] 100 (l2_figuresByRow (M0 := M) P hP hV (fun M1 hF1 => ⟨trivial, go 10 (Or.inr ⟨rfl, rfl⟩) M1 hF1⟩) 10 0 M none (by omega) hC xfr.rf)
  · have hM1 := hM.fc F1
    exact xgo [] 100 ⟨rfl, c3_isPerson p hn hM1.1 (fun _ => ⟨fun z => absurd z (by decide), fun _ => ⟨rfl, c3_isIn w 0 1 (fun z => absurd z b) (fun _ => ⟨fun _ => ⟨rfl, c3_no 2 (by omega) (by omega) hM1 (fun M2 I2 F2 => ⟨trivial, hk _ M2 _ (I1.fm F2) I2 hV⟩)⟩, fun z => absurd rfl z⟩)⟩⟩) (fun z => absurd a z)⟩
  · have hM1 := hM.fc F1
    exact xgo [] 100 ⟨rfl, c3_isPerson p hn hM1.1 (fun z => absurd z a) (fun _ => ⟨fun _ => ⟨rfl, c3_no 1 (by omega) (by omega) hM1 (fun M2 I2 F2 => ⟨trivial, hk _ M2 _ (I1.fm F2) I2 hV⟩)⟩, fun z => absurd rfl z⟩)⟩
/-! years by lot -/
def aSd (z : Int32) : Nat → Int32
  | 0 => z
  | k + 1 => aSd z k * 1664525 + 1013904223
def aLo (d : Int32) : Int32 := (d &&& 2147483647) / 256 - (d &&& 2147483647) / 256 / 31 * 31
theorem aLo_n (d : Int32) : ∃ f, f ≤ 30 ∧ aLo d = nI f := by
  obtain ⟨m, hm, e⟩ := pk_andE d (m := 2147483647) 31 (by decide)
  unfold aLo
  rw [e]
  show ∃ f, f ≤ 30 ∧ nI m / nI 256 - nI m / nI 256 / nI 31 * nI 31 = nI f
  rw [pk_div hm (by omega) (by omega), pk_rem (by omega) (by omega) (by omega)]
  exact ⟨_, by omega, rfl⟩
def aYr (n : Nat) (h : xh) (z : Int32) (c : Nat) : Nat → xh
  | 0 => h
  | d + 1 => aHrs n (hu (aYr n h z c d) 5 7 (aLo (aSd z (c + (d + 1))))) 12
theorem aBd_yr {n : Nat} {h : xh} (H : aBd n h) (z : Int32) (c : Nat) : ∀ d, aBd n (aYr n h z c d)
  | 0 => H
  | d + 1 => by
    obtain ⟨f, hf, e⟩ := aLo_n (aSd z (c + (d + 1)))
    show aBd n (aHrs n (hu (aYr n h z c d) 5 7 (aLo (aSd z (c + (d + 1))))) 12)
    rw [e]
    exact aBd_hrs (aBd_flow (aBd_yr H z c d) hf) 12
theorem aYr_8 (n : Nat) (h : xh) (z : Int32) (c : Nat) : ∀ d, aYr n h z c d 5 8 = h 5 8 + nI (12 * d)
  | 0 => (Int32.add_zero _).symm
  | d + 1 => by
    show aHrs n (hu (aYr n h z c d) 5 7 (aLo (aSd z (c + (d + 1))))) 12 5 8 = _
    rw [aHrs_8, hu_s, upd_n _ (by omega), aYr_8 n h z c d, Int32.add_assoc, nI_add]
    rfl
def aLt (s : xS) (z w : Int32) : Nat → Int32
  | 0 => 0
  | y + 1 => aLt s z w y + (if w = 0 then aAll (aYr (sn s) (sh s) z (4 * y) 4) (sn s) else xbc (aDry (aYr (sn s) (sh s) z (4 * y) 4) (sn s)))
section XLO
variable {s : xS} {R : xR}
theorem l3_hoursW {r : Fin 4} {n : Nat} {h : xh} (m : Nat) (hm : m ≤ 100) {M0 : xM} (hB : aBd n h) (hT : ∃ t, t ≤ 9000 ∧ h 5 8 = nI t) (hk : ∀ M', xRm M' r n (aHrs n h m) → xfw r M0 M' → R none M') : ∀ (d k : Nat) (M : xM), k + d = m → xRm M r n (aHrs n h k) → xfw r M0 M → xWP pg_X3_hoursOn 2 ([some (xo (xW r)), some (xi (nI m)), some (xi (nI k))], [], M) R := by
  intro d
  induction d with
  | zero =>
    intro k M hkd hR hF
    have : k = m := by omega
    subst this
    exact xgo [] 100 ⟨fun c => ⟨trivial, hk M hR hF⟩, fun c => absurd (nI_le (Nat.le_refl _) (by omega)) c⟩
  | succ d ih =>
    intro k M hkd hR hF
    have hTm : aTm (aHrs n h k) := by
      obtain ⟨t, ht, e⟩ := hT
      exact ⟨t + k, by omega, by rw [aHrs_8, e, nI_add]⟩
    refine xgo [2] 100 ⟨fun c => absurd c (nI_ge (by omega) (by omega)), fun _ => ⟨rfl, c3_hour 0 (Or.inl rfl) (aBd_hrs hB k) hTm hR (fun M1 hR1 hF1 => ?_)⟩⟩
    show xWP pg_X3_hoursOn 2 ([some (xo (xW r)), some (xi (nI m)), some (xi (nI k + 1))], [], M1) R
    rw [nI_1]
    exact ih (k + 1) M1 (by omega) hR1 (hF.tr hF1)
theorem c3_hoursW {M : xM} {r : Fin 4} {n : Nat} {h : xh} (m : Nat) (hm : m ≤ 100) (hB : aBd n h) (hT : ∃ t, t ≤ 9000 ∧ h 5 8 = nI t) (hR : xRm M r n h) (hk : ∀ M', xRm M' r n (aHrs n h m) → xfw r M M' → R none M') : xWP pg_X3_hoursOn 0 ([some (xo (xW r)), some (xi (nI m)), none], [], M) R :=
  xgo [2] 100 (l3_hoursW m hm hB hT hk m 0 M (by omega) hR xfw.rf)
theorem c2_lotBelow {M : xM} (d : Int32) (hk : R (some (xi (aLo d))) M) : xWP pg_X2_lotBelow 0 ([some (xi d), some (xi 31)], [], M) R :=
  xgo [] 100 ⟨fun _ => ⟨by decide, by decide, trivial, hk⟩, fun z => absurd (by decide) z⟩
theorem l2_year {M0 : xM} (n y : Nat) (z w a : Int32) (c : Nat) (hV : xIv s) (hk : ∀ M', xRc M' 1 (sn s) (aYr (sn s) (sh s) z c 4) → xfr 1 M0 M' → xWP pg_X2_lots 95 ([some (xo (xN 0)), some (xi (nI n)), some (xi z), some (xi w), some (xi 0), some (xi (aSd z (c + 4))), some (xi a), some (xi (nI y)), some (xo (xH 1)), some (xi (nI 4))], [], M') R) : ∀ e d (M : xM), d + e = 4 → xRc M 1 (sn s) (aYr (sn s) (sh s) z c d) → xfr 1 M0 M → xWP pg_X2_lots 57 ([some (xo (xN 0)), some (xi (nI n)), some (xi z), some (xi w), some (xi 0), some (xi (aSd z (c + d))), some (xi a), some (xi (nI y)), some (xo (xH 1)), some (xi (nI d))], [], M) R := by
  intro e
  induction e with
  | zero =>
    intro d M hde hR hF
    have : d = 4 := by omega
    subst this
    exact xgo [95] 100 ⟨fun _ => hk M hR hF, fun c => absurd (nI_le (a := 4) (b := 4) (by omega) (by omega)) c⟩
  | succ e ih =>
    intro d M hde hR hF
    refine xgo [57] 100 ⟨fun c => absurd c (nI_ge (b := 4) (by omega) (by omega)), fun _ => ⟨rfl, xgo [] 100 ⟨trivial, ⟨rfl, ?_⟩⟩⟩⟩
    refine c2_lotBelow (aSd z (c + d) * 1664525 + 1013904223) ⟨rfl, ?_⟩
    have es : aSd z (c + d) * 1664525 + 1013904223 = aSd z (c + (d + 1)) := rfl
    rw [es]
    obtain ⟨f, hf, ef⟩ := aLo_n (aSd z (c + (d + 1)))
    have hR2 : xRc (xup M (xH 1) 7 (aLo (aSd z (c + (d + 1))))) 1 (sn s) (hu (aYr (sn s) (sh s) z c d) 5 7 (aLo (aSd z (c + (d + 1))))) := hR.us 7 (by omega) _
    have hF2 : xfr 1 M0 (xup M (xH 1) 7 (aLo (aSd z (c + (d + 1))))) := hF.us 7 _
    have hO : aOk (sn s) (hu (aYr (sn s) (sh s) z c d) 5 7 (aLo (aSd z (c + (d + 1))))) := by
      rw [ef]; exact (aBd_flow (aBd_yr hV.1.1 z c d) hf).ok
    refine c0_passHours 12 (by omega) hO hR2 (fun M3 hR3 hF3 => ?_)
    show xWP pg_X2_lots 57 ([some (xo (xN 0)), some (xi (nI n)), some (xi z), some (xi w), some (xi 0), some (xi (aSd z (c + (d + 1)))), some (xi a), some (xi (nI y)), some (xo (xH 1)), some (xi (nI d + 1))], [], M3) R
    rw [nI_1]
    exact ih (d + 1) M3 (by omega) hR3 (hF2.tr hF3)
theorem l2_lots {M0 : xM} (n : Nat) (hn20 : n ≤ 20) (z w : Int32) (hV : xIv s) (hk : ∀ M', xfr 1 M0 M' → R (some (xi (aLt s z w n))) M') : ∀ e y (M : xM) (x8 x9 : Option xV), (x8 = none ∨ x8 = some (xo (xH 1))) → y + e = n → xIc M s → xfr 1 M0 M → xWP pg_X2_lots 42 ([some (xo (xN 0)), some (xi (nI n)), some (xi z), some (xi w), some (xi 0), some (xi (aSd z (4 * y))), some (xi (aLt s z w y)), some (xi (nI y)), x8, x9], [], M) R := by
  have hn := hV.1.1.1
  intro e
  induction e with
  | zero =>
    intro y M x8 x9 h8 hye hC hF
    have : y = n := by omega
    subst this
    exact xgo [] 100 ⟨fun _ => ⟨trivial, hk M hF⟩, fun c => absurd (nI_le (Nat.le_refl _) (by omega)) c⟩
  | succ e ih =>
    intro y M x8 x9 h8 hye hC hF
    refine xgo [57] 100 ⟨fun c => absurd c (nI_ge (by omega) (by omega)), fun _ => ⟨rfl, c2_thoughtOfNow hC hn (fun M1 hR1 hF1 => ?_)⟩⟩
    refine l2_year (M0 := M) n y z w (aLt s z w y) (4 * y) hV (fun M2 hR2 hF2 => ?_) 4 0 M1 (by omega) hR1 hF1
    have nxt : ∀ a, aLt s z w (y + 1) = a → xWP pg_X2_lots 117 ([some (xo (xN 0)), some (xi (nI n)), some (xi z), some (xi w), some (xi 0), some (xi (aSd z (4 * y + 4))), some (xi a), some (xi (nI y)), some (xo (xH 1)), some (xi (nI 4))], [], M2) R := by
      intro a ea
      refine xgo [42] 100 ?_
      show xWP pg_X2_lots 42 ([some (xo (xN 0)), some (xi (nI n)), some (xi z), some (xi w), some (xi 0), some (xi (aSd z (4 * y + 4))), some (xi a), some (xi (nI y + 1)), some (xo (xH 1)), some (xi (nI 4))], [], M2) R
      rw [nI_1, ← ea, show 4 * y + 4 = 4 * (y + 1) by omega]
      exact ih (y + 1) M2 _ _ (Or.inr rfl) (by omega) (hC.th hF2) (hF.tr hF2)
    refine xgo [117] 100 ⟨fun c => ⟨rfl, c0_together hn hR2 ?_⟩, fun c => ⟨rfl, c0_countDry hn hR2 ?_⟩⟩
    · exact nxt _ (congrArg _ (if_pos c))
    · exact nxt _ (congrArg _ (if_neg c))
theorem xIm.sd {M : xM} (hI : xIm M s) (v : Int32) : xIm (xup M (xN 2) 12 v) s := by
  have hR : ∀ o, o ≠ xN 2 → xup M (xN 2) 12 v o = M o := fun o ho => xup_n ho _ _
  have h2 : ∀ k, k ≠ 12 → xup M (xN 2) 12 v (xN 2) k = M (xN 2) k := fun k hk => by rw [xup_s, upd_n _ hk]
  obtain ⟨a1, a2, a3, a4, a5, a6, a7, a8⟩ := hI
  have wR : ∀ r : Fin 4, xup M (xN 2) 12 v (xW r) = M (xW r) := fun r => hR _ (fun e => by cases e)
  refine ⟨?_, by rw [h2 4 (by omega)]; exact a2, fun h => ?_, by rw [h2 8 (by omega)]; exact a4, fun j hj => ?_, by rw [h2 9 (by omega)]; exact a6, fun j hj => ?_, fun j hj => ?_⟩
  · exact ⟨fun k hk => by rw [wR]; exact a1.1 k hk, fun p hp w hw => by rw [wR]; exact a1.2 p hp w hw⟩
  · exact ⟨fun k hk => by rw [wR]; exact (a3 h).1 k hk, fun p hp w hw => by rw [wR]; exact (a3 h).2 p hp w hw⟩
  · rw [hR _ (fun e => by cases e)]; exact a5 j hj
  · rw [hR _ (fun e => by cases e)]; exact a7 j hj
  · rw [hR _ (fun e => by cases e)]; exact a8 j hj
theorem xRm.sd {M : xM} {r : Fin 4} {n : Nat} {h : xh} (hR : xRm M r n h) (v : Int32) : xRm (xup M (xN 2) 12 v) r n h := by
  have wR : xup M (xN 2) 12 v (xW r) = M (xW r) := xup_n (fun e => by cases e) _ _
  exact ⟨fun k hk => by rw [wR]; exact hR.1 k hk, fun p hp w hw => by rw [wR]; exact hR.2 p hp w hw⟩
theorem c3_drawn {M : xM} (d : Int32) (hd : M (xN 2) 12 = d) (hk : R (some (xi (aLo (d * 1664525 + 1013904223)))) (xup M (xN 2) 12 (d * 1664525 + 1013904223))) : xWP pg_X3_drawn 0 ([some (xo (xN 2)), some (xi 31)], [], M) R := by
  refine xgo [14] 100 ?_
  show xWP pg_X3_drawn 14 ([some (xo (xN 2)), some (xi 31)], [], xup M (xN 2) 12 (M (xN 2) 12 * 1664525 + 1013904223)) R
  rw [hd]
  refine xgo [18] 100 ?_
  show xWP pg_X3_drawn 18 ([some (xo (xN 2)), some (xi 31)], [xi (xup M (xN 2) 12 (d * 1664525 + 1013904223) (xN 2) 12)], xup M (xN 2) 12 (d * 1664525 + 1013904223)) R
  rw [show xup M (xN 2) 12 (d * 1664525 + 1013904223) (xN 2) 12 = d * 1664525 + 1013904223 by rw [xup_s, upd_s]]
  exact xgo [] 100 ⟨by decide, by decide, trivial, hk⟩
theorem l3_year {M0 : xM} (n y : Nat) (z w a : Int32) (c : Nat) (hV : xIv s) (hk : ∀ M', xRm M' 1 (sn s) (aYr (sn s) (sh s) z c 4) → M' (xN 2) 12 = aSd z (c + 4) → xIm M' s → xFm M0 M' → xWP pg_X3_lots 105 ([some (xo (xN 2)), some (xi (nI n)), some (xi z), some (xi w), some (xi a), some (xi (nI y)), some (xi (nI 4))], [], M') R) : ∀ e d (M : xM), d + e = 4 → xRm M 1 (sn s) (aYr (sn s) (sh s) z c d) → M (xN 2) 12 = aSd z (c + d) → xIm M s → xFm M0 M → xWP pg_X3_lots 72 ([some (xo (xN 2)), some (xi (nI n)), some (xi z), some (xi w), some (xi a), some (xi (nI y)), some (xi (nI d))], [], M) R := by
  intro e
  induction e with
  | zero =>
    intro d M hde hR hS hM hF
    have : d = 4 := by omega
    subst this
    exact xgo [105] 100 ⟨fun _ => hk M hR hS hM hF, fun c => absurd (nI_le (a := 4) (b := 4) (by omega) (by omega)) c⟩
  | succ e ih =>
    intro d M hde hR hS hM hF
    refine xgo [72] 100 ⟨fun c => absurd c (nI_ge (b := 4) (by omega) (by omega)), fun _ => ⟨rfl, c3_drawn _ hS ⟨xin47 (k := 3) (by omega), rfl, ?_⟩⟩⟩
    have es : aSd z (c + d) * 1664525 + 1013904223 = aSd z (c + (d + 1)) := rfl
    rw [es]
    obtain ⟨f, hf, ef⟩ := aLo_n (aSd z (c + (d + 1)))
    have hM1 := hM.sd (aSd z (c + (d + 1)))
    have hR1 := hR.sd (aSd z (c + (d + 1)))
    have hF1 : xFm M0 (xup M (xN 2) 12 (aSd z (c + (d + 1)))) := hF.u _ rfl _ _
    have hS1 : xup M (xN 2) 12 (aSd z (c + (d + 1))) (xN 2) 12 = aSd z (c + (d + 1)) := by rw [xup_s, upd_s]
    generalize xup M (xN 2) 12 (aSd z (c + (d + 1))) = M1 at hM1 hR1 hF1 hS1
    have hR2 : xRm (xup M1 (xW 1) (Int32.toNatClampNeg 3) (aLo (aSd z (c + (d + 1))))) 1 (sn s) (hu (aYr (sn s) (sh s) z c d) 5 7 (aLo (aSd z (c + (d + 1))))) := hR1.uFlow _
    have hF2 : xfw 1 M1 (xup M1 (xW 1) (Int32.toNatClampNeg 3) (aLo (aSd z (c + (d + 1))))) := xfw.rf.u _ _
    have hB : aBd (sn s) (hu (aYr (sn s) (sh s) z c d) 5 7 (aLo (aSd z (c + (d + 1))))) := by
      rw [ef]; exact aBd_flow (aBd_yr hV.1.1 z c d) hf
    have hT : ∃ t, t ≤ 9000 ∧ hu (aYr (sn s) (sh s) z c d) 5 7 (aLo (aSd z (c + (d + 1)))) 5 8 = nI t := by
      obtain ⟨t, ht, et⟩ := hV.1.2.1
      exact ⟨t + 12 * d, by omega, by rw [hu_s, upd_n _ (by omega), aYr_8, et, nI_add]⟩
    refine c3_hoursW 12 (by omega) hB hT hR2 (fun M3 hR3 hF3 => ?_)
    have hF4 := hF2.tr hF3
    show xWP pg_X3_lots 72 ([some (xo (xN 2)), some (xi (nI n)), some (xi z), some (xi w), some (xi a), some (xi (nI y)), some (xi (nI d + 1))], [], M3) R
    rw [nI_1]
    refine ih (d + 1) M3 (by omega) hR3 ?_ (hM1.th hF4) (hF1.tr hF4.m)
    rw [hF4 (xN 2) (xWN 2)]
    exact hS1
theorem l3_lots {M0 : xM} (n : Nat) (hn20 : n ≤ 20) (z w : Int32) (hV : xIv s) (hk : ∀ M', xIm M' s → xFm M0 M' → R (some (xi (aLt s z w n))) M') : ∀ e y (M : xM) (x6 : Option xV), y + e = n → M (xN 2) 12 = aSd z (4 * y) → xIm M s → xFm M0 M → xWP pg_X3_lots 52 ([some (xo (xN 2)), some (xi (nI n)), some (xi z), some (xi w), some (xi (aLt s z w y)), some (xi (nI y)), x6], [], M) R := by
  have hn := hV.1.1.1
  intro e
  induction e with
  | zero =>
    intro y M x6 hye hS hM hF
    have : y = n := by omega
    subst this
    exact xgo [] 100 ⟨fun _ => ⟨trivial, hk M hM hF⟩, fun c => absurd (nI_le (Nat.le_refl _) (by omega)) c⟩
  | succ e ih =>
    intro y M x6 hye hS hM hF
    refine xgo [72] 100 ⟨fun c => absurd c (nI_ge (by omega) (by omega)), fun _ => ⟨rfl, c3_copies (r := 0) (r' := 1) (by decide) hn hM.1 (fun M1 hR1 hF1 => ?_)⟩⟩
    refine l3_year (M0 := M0) n y z w (aLt s z w y) (4 * y) hV (fun M2 hR2 hS2 hM2 hF2 => ?_) 4 0 M1 (by omega) hR1 (by rw [hF1 (xN 2) (xWN 2)]; exact hS) (hM.th hF1) (hF.tr hF1.m)
    have nxt : ∀ a, aLt s z w (y + 1) = a → xWP pg_X3_lots 134 ([some (xo (xN 2)), some (xi (nI n)), some (xi z), some (xi w), some (xi a), some (xi (nI y)), some (xi (nI 4))], [], M2) R := by
      intro a ea
      refine xgo [52] 100 ?_
      show xWP pg_X3_lots 52 ([some (xo (xN 2)), some (xi (nI n)), some (xi z), some (xi w), some (xi a), some (xi (nI y + 1)), some (xi (nI 4))], [], M2) R
      rw [nI_1, ← ea]
      exact ih (y + 1) M2 _ (by omega) hS2 hM2 hF2
    refine xgo [134] 100 ⟨fun c => ⟨rfl, c3_allHave hn hR2 ?_⟩, fun c => ⟨rfl, c3_dryOnes hn hR2 ⟨rfl, c3_bits _ ?_⟩⟩⟩
    · exact nxt _ (congrArg _ (if_pos c))
    · rw [← xbc_k hn (aDry_k hn _ (sn s) (Nat.le_refl _))]
      exact nxt _ (congrArg _ (if_neg c))
end XLO
theorem j_lots (v z w : Int32) : xJt pg_X2_lots pg_X3_lots [some (xo (xN 0)), some (xi v), some (xi z), some (xi w), none, none, none, none, none, none] [some (xo (xN 2)), some (xi v), some (xi z), some (xi w), none, none, none] := by
  intro M s K hC hM hV hk
  have hn := hV.1.1.1
  refine xgo [42] 100 ⟨rfl, c2_rangeRefusal v 1 20 (fun a b => ?_) (fun a b => ?_) (fun a => ?_)⟩
  · refine ⟨fun _ => ⟨rfl, c2_whatRefusal w 1 (fun c d => ?_) (fun c => ?_)⟩, fun z => absurd rfl z⟩
    · refine ⟨fun _ => ?_, fun z => absurd rfl z⟩
      obtain ⟨q, hq, rfl⟩ := xrng (b := 20) (by omega) (Int32.le_trans (by decide) a) b
      refine l2_lots (M0 := M) q hq z w hV (fun M1 hF1 => ?_) q 0 M none none (Or.inl rfl) (by omega) hC xfr.rf
      have hM1 := hM.fc hF1.c
      refine xgo [52] 100 ⟨fun _ => ⟨fun _ => ⟨rfl, c3_isIn w 0 1 (fun _ => ⟨fun z => absurd z (by decide), fun _ => ?_⟩) (fun z => absurd ⟨c, d⟩ z)⟩, fun z => absurd b z⟩, fun z => absurd a z⟩
      refine l3_lots (M0 := M1) q hq z w hV (fun M2 hM2 hF2 => hk _ M2 s ((hC.th hF1).fm hF2) hM2 hV) q 0 _ none (by omega) ?_ (hM1.sd z) (xFm.rf.u _ rfl _ _)
      show xup M1 (xN 2) 12 z (xN 2) 12 = z
      rw [xup_s, upd_s]
    · refine ⟨fun z => absurd z (by decide), fun _ => ⟨rfl, c2_refused 2 (by omega) (by omega) hC (fun M1 I1 F1 => ⟨trivial, ?_⟩)⟩⟩
      have hM1 := hM.fc F1
      exact xgo [] 100 ⟨fun _ => ⟨fun _ => ⟨rfl, c3_isIn w 0 1 (fun z => absurd z c) (fun _ => ⟨fun _ => ⟨rfl, c3_no 2 (by omega) (by omega) hM1 (fun M2 I2 F2 => ⟨trivial, hk _ M2 _ (I1.fm F2) I2 hV⟩)⟩, fun z => absurd rfl z⟩)⟩, fun z => absurd b z⟩, fun z => absurd a z⟩
  · refine ⟨fun z => absurd z (by decide), fun _ => ⟨fun z => absurd z (by decide), fun _ => ⟨rfl, c2_refused 6 (by omega) (by omega) hC (fun M1 I1 F1 => ⟨trivial, ?_⟩)⟩⟩⟩
    exact xgo [] 100 ⟨fun _ => ⟨fun z => absurd z b, fun _ => ⟨rfl, c3_no 6 (by omega) (by omega) (hM.fc F1) (fun M2 I2 F2 => ⟨trivial, hk _ M2 _ (I1.fm F2) I2 hV⟩)⟩⟩, fun z => absurd a z⟩
  · refine ⟨fun z => absurd z (by decide), fun _ => ⟨fun z => absurd z (by decide), fun _ => ⟨rfl, c2_refused 4 (by omega) (by omega) hC (fun M1 I1 F1 => ⟨trivial, ?_⟩)⟩⟩⟩
    exact xgo [] 100 ⟨fun z => absurd z a, fun _ => ⟨rfl, c3_no 4 (by omega) (by omega) (hM.fc F1) (fun M2 I2 F2 => ⟨trivial, hk _ M2 _ (I1.fm F2) I2 hV⟩)⟩⟩
