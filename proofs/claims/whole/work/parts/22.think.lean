/-! ===== thinking: a copy of what there is ===== -/
theorem nI_le_of {a q : Nat} (h : nI a ≤ nI q) (ha : a < 2 ^ 31 := by omega) (hq : q < 2 ^ 31 := by omega) : a ≤ q := (nI_leI ha hq).mp h
section XTH
variable {M : xM} {s : xS} {R : xR}
theorem c2_thoughtOfNow (hC : xIc M s) (hn : sn s ≤ 6) (hk : ∀ M', xRc M' 1 (sn s) (sh s) → xfr 1 M M' → R (some (xo (xH 1))) M') : xWP pg_X2_thoughtOfNow 0 ([some (xo (xN 0))], [], M) R :=
  xgo [] 100 ⟨rfl, c0_copyFrom (i := 1) (j := 0) (by decide) hn hC.1 (fun M1 hR1 hF1 => ⟨trivial, hk M1 hR1 hF1⟩)⟩
theorem c2_thoughtBehind (m : Nat) (hm : m < 1000) (hC : xIc M s) (hB : aBd (sn s) (sh s)) (hk : ∀ M', xRc M' 1 (sn s) (aHrs (sn s) (sh s) m) → xfr 1 M M' → R (some (xo (xH 1))) M') : xWP pg_X2_thoughtBehind 0 ([some (xo (xN 0)), some (xi (nI m)), none], [], M) R :=
  xgo [] 100 ⟨rfl, c2_thoughtOfNow hC hB.1 (fun M1 hR1 hF1 => ⟨rfl, c0_passHours m hm hB.ok hR1 (fun M2 hR2 hF2 => ⟨trivial, hk M2 hR2 (hF1.tr hF2)⟩)⟩)⟩
theorem c3_takes (m : Nat) (hm : m ≤ 100) (hM : xIm M s) (hV : xIv s) (hk : ∀ M', xRm M' 1 (sn s) (aHrs (sn s) (sh s) m) → xfw 1 M M' → R none M') : xWP pg_X3_takes 0 ([some (xo (xN 2)), some (xi (nI m))], [], M) R :=
  xgo [] 100 ⟨rfl, c3_copies (r := 0) (r' := 1) (by decide) hV.1.1.1 hM.1 (fun M1 hR1 hF1 => ⟨rfl, c3_hoursOn m hm hV.1.1 hV.1.2.1 hR1 (fun M2 hR2 hF2 => ⟨trivial, hk M2 hR2 (hF1.tr hF2)⟩)⟩)⟩
theorem k2_hasThen (p : Nat) (hp : p < sn s) (q : Nat) (hq : q ≤ 60) (hC : xIc M s) (hV : xIv s) (hk : ∀ r M', r = aHrs (sn s) (sh s) q 3 p → xfr 1 M M' → R (some (xi r)) M') : xWP pg_X2_hasThen 19 ([some (xo (xN 0)), some (xi (nI p)), some (xi (nI q)), some (xi 0)], [], M) R := by
  have hn := hV.1.1.1
  refine xgo [] 100 ⟨rfl, c2_thoughtBehind q (by omega) hC hV.1.1 (fun M1 hR1 hF1 => ⟨xin6 hp hn, trivial, ?_⟩)⟩
  rw [xcl hp hn]
  exact hk _ M1 (hR1.a3 hp) hF1
theorem k3_hasThen (p : Nat) (hp : p < sn s) (q : Nat) (hq : q ≤ 60) (hM : xIm M s) (hV : xIv s) (hk : ∀ r M', r = aHrs (sn s) (sh s) q 3 p → xfw 1 M M' → R (some (xi r)) M') : xWP pg_X3_hasThen 30 ([some (xo (xN 2)), some (xi (nI p)), some (xi (nI q)), some (xi 0)], [], M) R := by
  have hn := hV.1.1.1
  refine xgo [] 100 ⟨rfl, c3_takes q (by omega) hM hV (fun M1 hR1 hF1 => ⟨rfl, c3_of p 3 ⟨xof_in (by omega) (by omega), trivial, ?_⟩⟩)⟩
  exact hk _ M1 (hR1.v hp hn 3 (by omega)) hF1
end XTH
theorem j_hasThen (p v : Int32) : xJt pg_X2_hasThen pg_X3_hasThen [some (xo (xN 0)), some (xi p), some (xi v), none] [some (xo (xN 2)), some (xi p), some (xi v), none] := by
  intro M s K hC hM hV hk
  have hn := hV.1.1.1
  refine xgo [19] 100 ⟨rfl, c2_oneRefusal p v 60 hC.1 (fun a => ?_) (fun a b c => ?_) (fun a b c => ?_) (fun a b => ?_)⟩
  · refine ⟨fun z => absurd z (by decide), fun _ => ⟨rfl, c2_refused 1 (by omega) (by omega) hC (fun M1 I1 F1 => ⟨trivial, ?_⟩)⟩⟩
    have hM1 := hM.fc F1
    refine xgo [] 100 ⟨rfl, c3_isPerson p hn hM1.1 (fun z => absurd z a) (fun _ => ⟨fun _ => ?_, fun z => absurd rfl z⟩)⟩
    exact ⟨fun z => absurd z (by decide), fun _ => ⟨rfl, c3_no 1 (by omega) (by omega) hM1 (fun M2 I2 F2 => ⟨trivial, hk _ M2 _ (I1.fm F2) I2 hV⟩)⟩⟩
  · refine ⟨fun _ => ?_, fun z => absurd rfl z⟩
    obtain ⟨p, hp, rfl⟩ := xper hn a
    obtain ⟨q, hq, rfl⟩ := xrng (b := 60) (by omega) b c
    show xWP pg_X2_hasThen 19 ([some (xo (xN 0)), some (xi (nI p)), some (xi (nI q)), some (xi 0)], [], M) _
    refine k2_hasThen p hp q hq hC hV (fun r M1 hr F1 => ?_)
    have hM1 := hM.fc F1.c
    refine xgo [30] 100 ⟨rfl, c3_isPerson (nI p) hn hM1.1 (fun _ => ?_) (fun z => absurd a z)⟩
    refine ⟨fun z => absurd z (by decide), fun _ => ⟨rfl, c3_wrongBy (nI q) 0 60 (fun _ _ => ?_) (fun _ z => absurd c z) (fun z => absurd b z)⟩⟩
    refine ⟨fun _ => ?_, fun z => absurd rfl z⟩
    show xWP pg_X3_hasThen 30 ([some (xo (xN 2)), some (xi (nI p)), some (xi (nI q)), some (xi 0)], [], M1) _
    refine k3_hasThen p hp q hq hM1 hV (fun r' M2 hr' F2 => ?_)
    have e : r = r' := hr.trans hr'.symm
    rw [e]
    exact hk _ M2 s ((hC.th F1).fm F2.m) (hM1.th F2) hV
  · refine ⟨fun z => absurd z (by decide), fun _ => ⟨rfl, c2_refused 6 (by omega) (by omega) hC (fun M1 I1 F1 => ⟨trivial, ?_⟩)⟩⟩
    have hM1 := hM.fc F1
    refine xgo [] 100 ⟨rfl, c3_isPerson p hn hM1.1 (fun _ => ⟨fun z => absurd z (by decide), fun _ => ⟨rfl, c3_wrongBy v 0 60 (fun _ z => absurd z c) (fun _ _ => ?_) (fun z => absurd b z)⟩⟩) (fun z => absurd a z)⟩
    exact ⟨fun z => absurd z (by decide), fun _ => ⟨rfl, c3_no 6 (by omega) (by omega) hM1 (fun M2 I2 F2 => ⟨trivial, hk _ M2 _ (I1.fm F2) I2 hV⟩)⟩⟩
  · refine ⟨fun z => absurd z (by decide), fun _ => ⟨rfl, c2_refused 4 (by omega) (by omega) hC (fun M1 I1 F1 => ⟨trivial, ?_⟩)⟩⟩
    have hM1 := hM.fc F1
    refine xgo [] 100 ⟨rfl, c3_isPerson p hn hM1.1 (fun _ => ⟨fun z => absurd z (by decide), fun _ => ⟨rfl, c3_wrongBy v 0 60 (fun z => absurd z b) (fun z => absurd z b) (fun _ => ?_)⟩⟩) (fun z => absurd a z)⟩
    exact ⟨fun z => absurd z (by decide), fun _ => ⟨rfl, c3_no 4 (by omega) (by omega) hM1 (fun M2 I2 F2 => ⟨trivial, hk _ M2 _ (I1.fm F2) I2 hV⟩)⟩⟩
theorem j_then (v w : Int32) : xJt pg_X2_then pg_X3_then [some (xo (xN 0)), some (xi v), some (xi w), none, none] [some (xo (xN 2)), some (xi v), some (xi w), none] := by
  intro M s K hC hM hV hk
  have hn := hV.1.1.1
  refine xgo [28] 100 ⟨rfl, c2_rangeRefusal v 0 60 (fun a b => ?_) (fun a b => ?_) (fun a => ?_)⟩
  · refine ⟨fun _ => ⟨rfl, c2_whatRefusal w 3 (fun c d => ?_) (fun c => ?_)⟩, fun z => absurd rfl z⟩
    · refine ⟨fun _ => ?_, fun z => absurd rfl z⟩
      obtain ⟨q, hq, rfl⟩ := xrng (b := 60) (by omega) a b
      obtain ⟨u, hu', rfl⟩ := xrng (b := 3) (by omega) c d
      show xWP pg_X2_then 28 ([some (xo (xN 0)), some (xi (nI q)), some (xi (nI u)), some (xi 0), none], [], M) _
      refine xgo [] 100 ⟨rfl, c2_thoughtBehind q (by omega) hC hV.1.1 (fun M1 hR1 hF1 => ?_)⟩
      have hM1 := hM.fc hF1.c
      have hC1 := hC.th hF1
      have hB := aBs_hrs hn hV.1.2.2.1 q
      have go : ∀ (r : Int32), (∀ (R : xR) M2, xRm M2 1 (sn s) (aHrs (sn s) (sh s) q) → R (some (xi r)) M2 → xWP pg_X3_then 39 ([some (xo (xN 2)), some (xi (nI q)), some (xi (nI u)), some (xi 0)], [], M2) R) → xWP pg_X3_then 0 ([some (xo (xN 2)), some (xi (nI q)), some (xi (nI u)), none], [], M1) (fun v2 M2 => K (some (xi r)) v2 M2) := by
        intro r hr
        refine xgo [34] 100 ⟨rfl, c3_wrongBy (nI q) 0 60 (fun _ _ => ?_) (fun _ z => absurd b z) (fun z => absurd a z)⟩
        refine ⟨fun _ => ⟨rfl, c3_isIn (nI u) 0 3 (fun _ => ?_) (fun z => absurd ⟨c, d⟩ z)⟩, fun z => absurd rfl z⟩
        refine ⟨fun z => absurd z (by decide), fun _ => ⟨fun _ => ?_, fun z => absurd rfl z⟩⟩
        show xWP pg_X3_then 34 ([some (xo (xN 2)), some (xi (nI q)), some (xi (nI u)), some (xi 0)], [], M1) _
        refine xgo [39] 100 ⟨rfl, c3_takes q (by omega) hM1 hV (fun M2 hR2 hF2 => ?_)⟩
        exact hr _ M2 hR2 (hk _ M2 s (hC1.fm hF2.m) (hM1.th hF2) hV)
      have hu4 : u = 0 ∨ u = 1 ∨ u = 2 ∨ u = 3 := by omega
      rcases hu4 with rfl | rfl | rfl | rfl
      · refine xsw_i ?_
        refine ⟨trivial, ?_⟩
        rw [hR1.s6]
        refine go _ (fun R M2 hR2 h => xgo [] 100 ⟨fun _ => ⟨xin47 (k := 2) (by omega), trivial, ?_⟩, fun z => absurd rfl z⟩)
        rw [hR2.g2]
        exact h
      · refine xsw_i ?_
        refine ⟨trivial, ?_⟩
        rw [hR1.s9]
        exact go _ (fun R M2 hR2 h => xgo [] 100 ⟨fun z => absurd z (by decide), fun _ => ⟨fun _ => ⟨rfl, c3_flagged4 hn hB.1 hR2 ⟨trivial, h⟩⟩, fun z => absurd rfl z⟩⟩)
      · refine xsw_i ?_
        refine ⟨trivial, ?_⟩
        rw [hR1.s10]
        exact go _ (fun R M2 hR2 h => xgo [] 100 ⟨fun z => absurd z (by decide), fun _ => ⟨fun z => absurd z (by decide), fun _ => ⟨fun _ => ⟨rfl, c3_flagged5 hn hB.2 hR2 ⟨trivial, h⟩⟩, fun z => absurd rfl z⟩⟩⟩)
      · refine xsw_i ?_
        refine ⟨rfl, c0_together hn hR1 ⟨trivial, ?_⟩⟩
        exact go _ (fun R M2 hR2 h => xgo [] 100 ⟨fun z => absurd z (by decide), fun _ => ⟨fun z => absurd z (by decide), fun _ => ⟨fun z => absurd z (by decide), fun _ => ⟨rfl, c3_allHave hn hR2 ⟨trivial, h⟩⟩⟩⟩⟩)
    · refine ⟨fun z => absurd z (by decide), fun _ => ⟨rfl, c2_refused 2 (by omega) (by omega) hC (fun M1 I1 F1 => ⟨trivial, ?_⟩)⟩⟩
      have hM1 := hM.fc F1
      refine xgo [] 100 ⟨rfl, c3_wrongBy v 0 60 (fun _ _ => ?_) (fun _ z => absurd b z) (fun z => absurd a z)⟩
      refine ⟨fun _ => ⟨rfl, c3_isIn w 0 3 (fun z => absurd z c) (fun _ => ?_)⟩, fun z => absurd rfl z⟩
      exact ⟨fun _ => ⟨fun z => absurd z (by decide), fun _ => ⟨rfl, c3_no 2 (by omega) (by omega) hM1 (fun M2 I2 F2 => ⟨trivial, hk _ M2 _ (I1.fm F2) I2 hV⟩)⟩⟩, fun z => absurd rfl z⟩
  · refine ⟨fun z => absurd z (by decide), fun _ => ⟨fun z => absurd z (by decide), fun _ => ⟨rfl, c2_refused 6 (by omega) (by omega) hC (fun M1 I1 F1 => ⟨trivial, ?_⟩)⟩⟩⟩
    refine xgo [] 100 ⟨rfl, c3_wrongBy v 0 60 (fun _ z => absurd z b) (fun _ _ => ?_) (fun z => absurd a z)⟩
    exact ⟨fun z => absurd z (by decide), fun _ => ⟨fun z => absurd z (by decide), fun _ => ⟨rfl, c3_no 6 (by omega) (by omega) (hM.fc F1) (fun M2 I2 F2 => ⟨trivial, hk _ M2 _ (I1.fm F2) I2 hV⟩)⟩⟩⟩
  · refine ⟨fun z => absurd z (by decide), fun _ => ⟨fun z => absurd z (by decide), fun _ => ⟨rfl, c2_refused 4 (by omega) (by omega) hC (fun M1 I1 F1 => ⟨trivial, ?_⟩)⟩⟩⟩
    refine xgo [] 100 ⟨rfl, c3_wrongBy v 0 60 (fun z => absurd z a) (fun z => absurd z a) (fun _ => ?_)⟩
    exact ⟨fun z => absurd z (by decide), fun _ => ⟨fun z => absurd z (by decide), fun _ => ⟨rfl, c3_no 4 (by omega) (by omega) (hM.fc F1) (fun M2 I2 F2 => ⟨trivial, hk _ M2 _ (I1.fm F2) I2 hV⟩)⟩⟩⟩
theorem j_next : xJt pg_X2_next pg_X3_next [some (xo (xN 0))] [some (xo (xN 2)), none] := by
  intro M s K hC hM hV hk
  have hn := hV.1.1.1
  have hB := aBs_hrs hn hV.1.2.2.1 1
  refine xgo [] 100 ⟨rfl, c2_thoughtOfNow hC hn (fun M1 hR1 hF1 => ⟨rfl, c0_passHourForDrawers hV.1.1.ok hR1 (fun M2 hF2 => ⟨trivial, ?_⟩)⟩)⟩
  have hF := hF1.tr hF2
  have hM1 := hM.fc hF.c
  have hC1 := hC.th hF
  have fin : ∀ b, b = (if aT (sh s) = 0 then 0 else sh s 5 10) → xWP pg_X3_next 25 ([some (xo (xN 2)), some (xi b)], [], M2) (fun v2 M3 => K (some (xi (aHr (sn s) (sh s) 0 5 10 &&& ((if aT (sh s) = 0 then 0 else sh s 5 10) ^^^ (-1))))) v2 M3) := by
    intro b hb
    refine xgo [] 100 ⟨rfl, c3_takes 1 (by omega) hM1 hV (fun M3 hR3 hF3 => ⟨rfl, c3_flagged5 hn hB.2 hR3 ⟨trivial, ?_⟩⟩)⟩
    rw [hb]
    exact hk _ M3 s (hC1.fm hF3.m) (hM1.th hF3) hV
  refine xgo [25] 100 ⟨xin47 (k := 1) (by omega), by decide, ?_⟩
  rw [hM1.1.g1]
  refine ⟨fun c => fin 0 (by rw [if_pos (show aT (sh s) = 0 from c)]), fun c => ⟨rfl, c3_flagged5 hn hV.1.2.2.1.2 hM1.1 (fin _ (by rw [if_neg (show ¬ aT (sh s) = 0 from c)]))⟩⟩
/-- behind how many hours (60 at most) a number is 0 first -/
def aFst (f : Nat → Int32) : Nat → Int32
  | 0 => -9
  | d + 1 => if f (61 - (d + 1)) = 0 then nI (61 - (d + 1)) else aFst f d
theorem l2_empty {M : xM} {n : Nat} {h : xh} {R : xR} {M0 : xM} (hO : aOk n h) : ∀ d k (M : xM), k + d = 61 → xRc M 1 n (aHrs n h k) → xfr 1 M0 M → (∀ r M', r = aFst (fun k => aHrs n h k 5 6) d → xfr 1 M0 M' → R (some (xi r)) M') → xWP pg_X2_empty 7 ([some (xo (xN 0)), some (xo (xH 1)), some (xi (nI k))], [], M) R := by
  intro d
  induction d with
  | zero =>
    intro k M hkd hR hF hk
    have : k = 61 := by omega
    subst this
    exact xgo [] 100 ⟨fun _ => ⟨trivial, hk _ M rfl hF⟩, fun c => absurd (nI_lt (a := 60) (b := 61) (by omega) (by omega)) c⟩
  | succ d ih =>
    intro k M hkd hR hF hk
    have ek : 61 - (d + 1) = k := by omega
    unfold aFst at hk
    rw [ek] at hk
    refine xgo [7] 100 ⟨fun c => absurd c (nI_nlt (a := 60) (by omega) (by omega)), fun _ => ⟨fun c => ⟨trivial, hk _ M ?_ hF⟩, fun c => ⟨rfl, ?_⟩⟩⟩
    · rw [hR.s6] at c
      rw [if_pos c]
    · rw [hR.s6] at c
      rw [if_neg c] at hk
      refine c0_passHour 0 (hO.of (aHrs_4 n h k)) hR (fun M1 hR1 hF1 => ?_)
      show xWP pg_X2_empty 7 ([some (xo (xN 0)), some (xo (xH 1)), some (xi (nI k + 1))], [], M1) R
      rw [nI_1]
      exact ih (k + 1) M1 (by omega) hR1 (hF.tr hF1) hk
theorem l2_dry {n : Nat} {h : xh} {R : xR} {M0 : xM} (p : Nat) (hp : p < n) (hO : aOk n h) : ∀ d k (M : xM), k + d = 61 → xRc M 1 n (aHrs n h k) → xfr 1 M0 M → (∀ r M', r = aFst (fun k => aHrs n h k 3 p) d → xfr 1 M0 M' → R (some (xi r)) M') → xWP pg_X2_dry 34 ([some (xo (xN 0)), some (xi (nI p)), some (xo (xH 1)), some (xi (nI k))], [], M) R := by
  have hn := hO.1
  intro d
  induction d with
  | zero =>
    intro k M hkd hR hF hk
    have : k = 61 := by omega
    subst this
    exact xgo [] 100 ⟨fun _ => ⟨trivial, hk _ M rfl hF⟩, fun c => absurd (nI_lt (a := 60) (b := 61) (by omega) (by omega)) c⟩
  | succ d ih =>
    intro k M hkd hR hF hk
    have ek : 61 - (d + 1) = k := by omega
    unfold aFst at hk
    rw [ek] at hk
    refine xgo [34] 100 ⟨fun c => absurd c (nI_nlt (a := 60) (by omega) (by omega)), fun _ => ⟨xin6 hp hn, ?_⟩⟩
    rw [xcl hp hn, hR.a3 hp]
    refine ⟨fun c => ⟨trivial, hk _ M ?_ hF⟩, fun c => ⟨rfl, ?_⟩⟩
    · rw [if_pos c]
    · rw [if_neg c] at hk
      refine c0_passHour 0 (hO.of (aHrs_4 n h k)) hR (fun M1 hR1 hF1 => ?_)
      show xWP pg_X2_dry 34 ([some (xo (xN 0)), some (xi (nI p)), some (xo (xH 1)), some (xi (nI k + 1))], [], M1) R
      rw [nI_1]
      exact ih (k + 1) M1 (by omega) hR1 (hF.tr hF1) hk
theorem l3_whenNothing {n : Nat} {h : xh} {R : xR} {M0 : xM} (j : Nat) (hj : j < 47) (f : Nat → Int32) (hB : aBd n h) (hT : ∃ t, t ≤ 999 ∧ h 5 8 = nI t) (hf : ∀ k (M : xM), xRm M 1 n (aHrs n h k) → M (xW 1) j = f k) : ∀ d k (M : xM), k + d = 61 → xRm M 1 n (aHrs n h k) → xfw 1 M0 M → (∀ r M', r = aFst f d → xfw 1 M0 M' → R (some (xi r)) M') → xWP pg_X3_whenNothing 13 ([some (xo (xN 2)), some (xi (nI j)), some (xi (nI k))], [], M) R := by
  have hcl : (nI j).toNatClampNeg = j := nI_clamp (by omega)
  intro d
  induction d with
  | zero =>
    intro k M hkd hR hF hk
    have : k = 61 := by omega
    subst this
    exact xgo [] 100 ⟨fun _ => ⟨trivial, hk _ M rfl hF⟩, fun c => absurd (nI_lt (a := 60) (b := 61) (by omega) (by omega)) c⟩
  | succ d ih =>
    intro k M hkd hR hF hk
    have ek : 61 - (d + 1) = k := by omega
    unfold aFst at hk
    rw [ek] at hk
    refine xgo [13] 100 ⟨fun c => absurd c (nI_nlt (a := 60) (by omega) (by omega)), fun _ => ⟨xin47 hj, ?_⟩⟩
    rw [hcl, hf k M hR]
    refine ⟨fun c => ⟨trivial, hk _ M ?_ hF⟩, fun c => ⟨rfl, ?_⟩⟩
    · rw [if_pos c]
    · rw [if_neg c] at hk
      refine c3_hour 0 (Or.inl rfl) (aBd_hrs hB k) (aTm_of hT k (by omega)) hR (fun M1 hR1 hF1 => ?_)
      show xWP pg_X3_whenNothing 13 ([some (xo (xN 2)), some (xi (nI j)), some (xi (nI k + 1))], [], M1) R
      rw [nI_1]
      exact ih (k + 1) M1 (by omega) hR1 (hF.tr hF1) hk
theorem c3_whenNothing {M : xM} {s : xS} {R : xR} (j : Nat) (hj : j < 47) (f : Nat → Int32) (hM : xIm M s) (hV : xIv s) (hf : ∀ k (M : xM), xRm M 1 (sn s) (aHrs (sn s) (sh s) k) → M (xW 1) j = f k) (hk : ∀ r M', r = aFst f 61 → xfw 1 M M' → R (some (xi r)) M') : xWP pg_X3_whenNothing 0 ([some (xo (xN 2)), some (xi (nI j)), none], [], M) R :=
  xgo [13] 100 ⟨rfl, c3_copies (r := 0) (r' := 1) (by decide) hV.1.1.1 hM.1 (fun M1 hR1 hF1 => l3_whenNothing j hj f hV.1.1 hV.1.2.1 hf 61 0 M1 (by omega) hR1 hF1 hk)⟩
theorem j_empty : xJt pg_X2_empty pg_X3_empty [some (xo (xN 0)), none, none] [some (xo (xN 2))] := by
  intro M s K hC hM hV hk
  have hn := hV.1.1.1
  refine xgo [7] 100 ⟨rfl, c2_thoughtOfNow hC hn (fun M1 hR1 hF1 => ?_)⟩
  refine l2_empty (M := M) hV.1.1.ok 61 0 M1 (by omega) hR1 hF1 (fun r M2 hr hF2 => ?_)
  have hM1 := hM.fc hF2.c
  refine xgo [] 100 ⟨rfl, c3_whenNothing 2 (by omega) (fun k => aHrs (sn s) (sh s) k 5 6) hM1 hV (fun k M hR => hR.1 2 (by omega)) (fun r' M3 hr' hF3 => ⟨trivial, ?_⟩)⟩
  rw [hr, ← hr']
  exact hk _ M3 s ((hC.th hF2).fm hF3.m) (hM1.th hF3) hV
