/-! ===== the best of the people ===== -/
def aMx (v : Nat → Int32) (x : Nat) (b : Int32) : Nat → Int32 × Int32
  | 0 => (b, -9)
  | k + 1 => if k = x then aMx v x b k else if (aMx v x b k).1 < v k then (v k, nI k) else aMx v x b k
def aMn (v : Nat → Int32) (b : Int32) : Nat → Int32 × Int32
  | 0 => (b, -9)
  | k + 1 => if v k < (aMn v b k).1 then (v k, nI k) else aMn v b k
theorem aMx_x {v : Nat → Int32} {x : Nat} {b : Int32} {k : Nat} (e : k = x) : aMx v x b (k + 1) = aMx v x b k := if_pos e
theorem aMx_y {v : Nat → Int32} {x : Nat} {b : Int32} {k : Nat} (e : k ≠ x) (c : (aMx v x b k).1 < v k) : aMx v x b (k + 1) = (v k, nI k) := (if_neg e).trans (if_pos c)
theorem aMx_n {v : Nat → Int32} {x : Nat} {b : Int32} {k : Nat} (e : k ≠ x) (c : ¬ (aMx v x b k).1 < v k) : aMx v x b (k + 1) = aMx v x b k := (if_neg e).trans (if_neg c)
theorem aMn_y {v : Nat → Int32} {b : Int32} {k : Nat} (c : v k < (aMn v b k).1) : aMn v b (k + 1) = (v k, nI k) := if_pos c
theorem aMn_n {v : Nat → Int32} {b : Int32} {k : Nat} (c : ¬ v k < (aMn v b k).1) : aMn v b (k + 1) = aMn v b k := if_neg c
theorem aMx_cg {v v' : Nat → Int32} {x : Nat} {b b' : Int32} (eb : b = b') : ∀ n, (∀ k, k < n → v k = v' k) → aMx v x b n = aMx v' x b' n
  | 0, _ => by unfold aMx; rw [eb]
  | k + 1, H => by
    have ih := aMx_cg (x := x) eb k (fun j hj => H j (by omega))
    show (if k = x then aMx v x b k else if (aMx v x b k).1 < v k then (v k, nI k) else aMx v x b k) = (if k = x then aMx v' x b' k else if (aMx v' x b' k).1 < v' k then (v' k, nI k) else aMx v' x b' k)
    rw [ih, H k (by omega)]
def aHu (s : xS) (q : Nat) (k : Nat) : Int32 := aAll (aHrs (sn s) (hu (sh s) 5 11 (1 <<< (nI k &&& 31))) q) (sn s)
def aWo (s : xS) (q : Nat) (k : Nat) : Int32 := aAll (aHrs (sn s) (aSpo (sh s) k) q) (sn s)
def aFb (s : xS) (p q : Nat) (k : Nat) : xh := aHrs (sn s) (hu (sh s) 4 p (nI k)) q
theorem l2_hush {s : xS} {R : xR} {M0 : xM} (q : Nat) (hq : q ≤ 48) (hV : xIv s) (hk : ∀ r M', r = (aMx (aHu s q) 100 (aAll (aHrs (sn s) (sh s) q) (sn s)) (sn s)).2 → xfr 1 M0 M' → R (some (xi r)) M') : ∀ d k (M : xM) (x6 : Option xV), k + d = sn s → xIc M s → xfr 1 M0 M → xWP pg_X2_hush 34 ([some (xo (xN 0)), some (xi (nI q)), some (xi 0), some (xi (aMx (aHu s q) 100 (aAll (aHrs (sn s) (sh s) q) (sn s)) k).2), some (xi (aMx (aHu s q) 100 (aAll (aHrs (sn s) (sh s) q) (sn s)) k).1), some (xi (nI k)), x6], [], M) R := by
  have hn := hV.1.1.1
  intro d
  induction d with
  | zero =>
    intro k M x6 hkd hC hF
    have : k = sn s := by omega
    subst this
    exact xgo [] 100 ⟨fun _ => ⟨trivial, hk _ M rfl hF⟩, fun c => absurd (by rw [hC.1.s5]; exact nI_le (Nat.le_refl _) (by omega)) c⟩
  | succ d ih =>
    intro k M x6 hkd hC hF
    have hp : k < sn s := by omega
    refine xgo [87] 100 ⟨fun c => absurd c (by rw [hC.1.s5]; exact nI_ge hp (by omega)), fun _ => ⟨rfl, c2_thoughtOfNow hC hn (fun M1 hR1 hF1 => ⟨rfl, ?_⟩)⟩⟩
    have hR2 : xRc (xup M1 (xH 1) 11 (1 <<< (nI k &&& 31))) 1 (sn s) (hu (sh s) 5 11 (1 <<< (nI k &&& 31))) := hR1.us 11 (by omega) _
    have hF2 : xfr 1 M (xup M1 (xH 1) 11 (1 <<< (nI k &&& 31))) := hF1.us 11 _
    refine c0_passHours q (by omega) (aBd_sc hV.1.1 11 (by omega) _).ok hR2 (fun M3 hR3 hF3 => ⟨rfl, c0_together hn hR3 ?_⟩)
    have nxt : ∀ a b, (aMx (aHu s q) 100 (aAll (aHrs (sn s) (sh s) q) (sn s)) (k + 1)) = (b, a) → xWP pg_X2_hush 87 ([some (xo (xN 0)), some (xi (nI q)), some (xi 0), some (xi a), some (xi b), some (xi (nI k)), some (xo (xH 1))], [], M3) R := by
      intro a b e
      refine xgo [34] 100 ?_
      show xWP pg_X2_hush 34 ([some (xo (xN 0)), some (xi (nI q)), some (xi 0), some (xi a), some (xi b), some (xi (nI k + 1)), some (xo (xH 1))], [], M3) R
      rw [nI_1]
      have := ih (k + 1) M3 (some (xo (xH 1))) (by omega) (hC.th (hF2.tr hF3)) (hF.tr (hF2.tr hF3))
      rw [e] at this
      exact this
    refine ⟨fun c => nxt _ _ (aMx_n (show k ≠ 100 by omega) (fun z => absurd c (Int32.not_le.mpr z))), fun c => ⟨rfl, c0_together hn hR3 (nxt _ _ (aMx_y (show k ≠ 100 by omega) (Int32.not_le.mp c)))⟩⟩
theorem k2_hush {M : xM} {s : xS} {R : xR} (q : Nat) (hq : q ≤ 48) (hC : xIc M s) (hV : xIv s) (hk : ∀ r M', r = (aMx (aHu s q) 100 (aAll (aHrs (sn s) (sh s) q) (sn s)) (sn s)).2 → xfr 1 M M' → R (some (xi r)) M') : xWP pg_X2_hush 18 ([some (xo (xN 0)), some (xi (nI q)), some (xi 0), none, none, none, none], [], M) R :=
  xgo [34] 100 ⟨rfl, c2_thoughtBehind q (by omega) hC hV.1.1 (fun M1 hR1 hF1 => ⟨rfl, c0_together hV.1.1.1 hR1 (l2_hush q hq hV hk (sn s) 0 M1 none (by omega) (hC.th hF1) hF1)⟩)⟩
theorem l3_hush {s : xS} {R : xR} {M0 : xM} (q : Nat) (hq : q ≤ 48) (hV : xIv s) (hk : ∀ r M', r = (aMx (aHu s q) 100 (aAll (aHrs (sn s) (sh s) q) (sn s)) (sn s)).2 → xfw 1 M0 M' → R (some (xi r)) M') : ∀ d k (M : xM), k + d = sn s → xIm M s → xfw 1 M0 M → xWP pg_X3_hush 38 ([some (xo (xN 2)), some (xi (nI q)), some (xi 0), some (xi (aMx (aHu s q) 100 (aAll (aHrs (sn s) (sh s) q) (sn s)) k).1), some (xi (aMx (aHu s q) 100 (aAll (aHrs (sn s) (sh s) q) (sn s)) k).2), some (xi (nI k))], [], M) R := by
  have hn := hV.1.1.1
  intro d
  induction d with
  | zero =>
    intro k M hkd hM hF
    have : k = sn s := by omega
    subst this
    refine xgo [] 100 ⟨xin47 (k := 0) (by omega), ?_⟩
    rw [hM.1.g0]
    exact ⟨fun _ => ⟨trivial, hk _ M rfl hF⟩, fun c => absurd (nI_le (Nat.le_refl _) (by omega)) c⟩
  | succ d ih =>
    intro k M hkd hM hF
    have hp : k < sn s := by omega
    refine xgo [104] 100 ⟨xin47 (k := 0) (by omega), ?_⟩
    rw [hM.1.g0]
    refine ⟨fun c => absurd c (nI_ge hp (by omega)), fun _ => ⟨rfl, c3_copies (r := 0) (r' := 1) (by decide) hn hM.1 (fun M1 hR1 hF1 => ⟨xin47 (k := 4) (by omega), rfl, ?_⟩)⟩⟩
    have hR2 : xRm (xup M1 (xW 1) (Int32.toNatClampNeg 4) (1 <<< (nI k &&& 31))) 1 (sn s) (hu (sh s) 5 11 (1 <<< (nI k &&& 31))) := hR1.uHush _
    have hF2 : xfw 1 M (xup M1 (xW 1) (Int32.toNatClampNeg 4) (1 <<< (nI k &&& 31))) := hF1.u _ _
    have hT : ∃ t, t ≤ 999 ∧ hu (sh s) 5 11 (1 <<< (nI k &&& 31)) 5 8 = nI t := by rw [hu_s, upd_n _ (by omega)]; exact hV.1.2.1
    refine c3_hoursOn q (by omega) (aBd_sc hV.1.1 11 (by omega) _) hT hR2 (fun M3 hR3 hF3 => ⟨rfl, c3_allHave hn hR3 ?_⟩)
    have nxt : ∀ a b, (aMx (aHu s q) 100 (aAll (aHrs (sn s) (sh s) q) (sn s)) (k + 1)) = (a, b) → xWP pg_X3_hush 104 ([some (xo (xN 2)), some (xi (nI q)), some (xi 0), some (xi a), some (xi b), some (xi (nI k))], [], M3) R := by
      intro a b e
      refine xgo [38] 100 ?_
      show xWP pg_X3_hush 38 ([some (xo (xN 2)), some (xi (nI q)), some (xi 0), some (xi a), some (xi b), some (xi (nI k + 1))], [], M3) R
      rw [nI_1]
      have := ih (k + 1) M3 (by omega) (hM.th (hF2.tr hF3)) (hF.tr (hF2.tr hF3))
      rw [e] at this
      exact this
    refine ⟨fun c => ⟨rfl, c3_allHave hn hR3 (nxt _ _ (aMx_y (show k ≠ 100 by omega) c))⟩, fun c => nxt _ _ (aMx_n (show k ≠ 100 by omega) c)⟩
theorem k3_hush {M : xM} {s : xS} {R : xR} (q : Nat) (hq : q ≤ 48) (hM : xIm M s) (hV : xIv s) (hk : ∀ r M', r = (aMx (aHu s q) 100 (aAll (aHrs (sn s) (sh s) q) (sn s)) (sn s)).2 → xfw 1 M M' → R (some (xi r)) M') : xWP pg_X3_hush 18 ([some (xo (xN 2)), some (xi (nI q)), some (xi 0), none, none, none], [], M) R :=
  xgo [38] 100 ⟨rfl, c3_takes q (by omega) hM hV (fun M1 hR1 hF1 => ⟨rfl, c3_allHave hV.1.1.1 hR1 (l3_hush q hq hV hk (sn s) 0 M1 (by omega) (hM.th hF1) hF1)⟩)⟩
theorem j_hush (v : Int32) : xJt pg_X2_hush pg_X3_hush [some (xo (xN 0)), some (xi v), none, none, none, none, none] [some (xo (xN 2)), some (xi v), none, none, none, none] := by
  intro M s K hC hM hV hk
  refine xgo [18] 100 ⟨rfl, c2_rangeRefusal v 0 48 (fun a b => ?_) (fun a b => ?_) (fun a => ?_)⟩
  · refine ⟨fun _ => ?_, fun z => absurd rfl z⟩
    obtain ⟨q, hq, rfl⟩ := xrng (b := 48) (by omega) a b
    show xWP pg_X2_hush 18 ([some (xo (xN 0)), some (xi (nI q)), some (xi 0), none, none, none, none], [], M) _
    refine k2_hush q hq  hC hV (fun r M1 hr F1 => ?_)
    have hM1 := hM.fc F1.c
    refine xgo [18] 100 ⟨rfl, c3_wrongBy (nI q) 0 48 (fun _ _ => ?_) (fun _ z => absurd b z) (fun z => absurd a z)⟩
    refine ⟨fun _ => ?_, fun z => absurd rfl z⟩
    show xWP pg_X3_hush 18 ([some (xo (xN 2)), some (xi (nI q)), some (xi 0), none, none, none], [], M1) _
    refine k3_hush q hq  hM1 hV (fun r' M2 hr' F2 => ?_)
    have e : r = r' := hr.trans hr'.symm
    rw [e]
    exact hk _ M2 s ((hC.th F1).fm F2.m) (hM1.th F2) hV
  · refine ⟨fun z => absurd z (by decide), fun _ => ⟨rfl, c2_refused 6 (by omega) (by omega) hC (fun M1 I1 F1 => ⟨trivial, ?_⟩)⟩⟩
    refine xgo [] 100 ⟨rfl, c3_wrongBy v 0 48 (fun _ z => absurd z b) (fun _ _ => ?_) (fun z => absurd a z)⟩
    exact ⟨fun z => absurd z (by decide), fun _ => ⟨rfl, c3_no 6 (by omega) (by omega) (hM.fc F1) (fun M2 I2 F2 => ⟨trivial, hk _ M2 _ (I1.fm F2) I2 hV⟩)⟩⟩
  · refine ⟨fun z => absurd z (by decide), fun _ => ⟨rfl, c2_refused 4 (by omega) (by omega) hC (fun M1 I1 F1 => ⟨trivial, ?_⟩)⟩⟩
    refine xgo [] 100 ⟨rfl, c3_wrongBy v 0 48 (fun z => absurd z a) (fun z => absurd z a) (fun _ => ?_)⟩
    exact ⟨fun z => absurd z (by decide), fun _ => ⟨rfl, c3_no 4 (by omega) (by omega) (hM.fc F1) (fun M2 I2 F2 => ⟨trivial, hk _ M2 _ (I1.fm F2) I2 hV⟩)⟩⟩
theorem l2_word {s : xS} {R : xR} {M0 : xM} (q : Nat) (hq : q ≤ 24) (hV : xIv s) (hk : ∀ r M', r = (aMn (aWo s q) (aAll (aHrs (sn s) (sh s) q) (sn s)) (sn s)).2 → xfr 1 M0 M' → R (some (xi r)) M') : ∀ d k (M : xM) (x6 : Option xV), k + d = sn s → xIc M s → xfr 1 M0 M → xWP pg_X2_word 34 ([some (xo (xN 0)), some (xi (nI q)), some (xi 0), some (xi (aMn (aWo s q) (aAll (aHrs (sn s) (sh s) q) (sn s)) k).2), some (xi (aMn (aWo s q) (aAll (aHrs (sn s) (sh s) q) (sn s)) k).1), some (xi (nI k)), x6], [], M) R := by
  have hn := hV.1.1.1
  intro d
  induction d with
  | zero =>
    intro k M x6 hkd hC hF
    have : k = sn s := by omega
    subst this
    exact xgo [] 100 ⟨fun _ => ⟨trivial, hk _ M rfl hF⟩, fun c => absurd (by rw [hC.1.s5]; exact nI_le (Nat.le_refl _) (by omega)) c⟩
  | succ d ih =>
    intro k M x6 hkd hC hF
    have hp : k < sn s := by omega
    refine xgo [86] 100 ⟨fun c => absurd c (by rw [hC.1.s5]; exact nI_ge hp (by omega)), fun _ => ⟨rfl, c2_thoughtOfNow hC hn (fun M1 hR1 hF1 => ⟨rfl, c0_letSpeak k hn hp hR1 (fun M2 hR2 hF2' => ⟨rfl, ?_⟩)⟩)⟩⟩
    have hF2 := hF1.tr hF2'
    refine c0_passHours q (by omega) (aBd_sc hV.1.1 9 (by omega) _).ok hR2 (fun M3 hR3 hF3 => ⟨rfl, c0_together hn hR3 ?_⟩)
    have nxt : ∀ a b, (aMn (aWo s q) (aAll (aHrs (sn s) (sh s) q) (sn s)) (k + 1)) = (b, a) → xWP pg_X2_word 86 ([some (xo (xN 0)), some (xi (nI q)), some (xi 0), some (xi a), some (xi b), some (xi (nI k)), some (xo (xH 1))], [], M3) R := by
      intro a b e
      refine xgo [34] 100 ?_
      show xWP pg_X2_word 34 ([some (xo (xN 0)), some (xi (nI q)), some (xi 0), some (xi a), some (xi b), some (xi (nI k + 1)), some (xo (xH 1))], [], M3) R
      rw [nI_1]
      have := ih (k + 1) M3 (some (xo (xH 1))) (by omega) (hC.th (hF2.tr hF3)) (hF.tr (hF2.tr hF3))
      rw [e] at this
      exact this
    refine ⟨fun c => nxt _ _ (aMn_n (fun z => absurd c (Int32.not_le.mpr z))), fun c => ⟨rfl, c0_together hn hR3 (nxt _ _ (aMn_y (Int32.not_le.mp c)))⟩⟩
theorem k2_word {M : xM} {s : xS} {R : xR} (q : Nat) (hq : q ≤ 24) (_h1 : 1 ≤ q) (hC : xIc M s) (hV : xIv s) (hk : ∀ r M', r = (aMn (aWo s q) (aAll (aHrs (sn s) (sh s) q) (sn s)) (sn s)).2 → xfr 1 M M' → R (some (xi r)) M') : xWP pg_X2_word 18 ([some (xo (xN 0)), some (xi (nI q)), some (xi 0), none, none, none, none], [], M) R :=
  xgo [34] 100 ⟨rfl, c2_thoughtBehind q (by omega) hC hV.1.1 (fun M1 hR1 hF1 => ⟨rfl, c0_together hV.1.1.1 hR1 (l2_word q hq hV hk (sn s) 0 M1 none (by omega) (hC.th hF1) hF1)⟩)⟩
theorem l3_word {s : xS} {R : xR} {M0 : xM} (q : Nat) (hq : q ≤ 24) (hV : xIv s) (hk : ∀ r M', r = (aMn (aWo s q) (aAll (aHrs (sn s) (sh s) q) (sn s)) (sn s)).2 → xfw 1 M0 M' → R (some (xi r)) M') : ∀ d k (M : xM), k + d = sn s → xIm M s → xfw 1 M0 M → xWP pg_X3_word 38 ([some (xo (xN 2)), some (xi (nI q)), some (xi 0), some (xi (aMn (aWo s q) (aAll (aHrs (sn s) (sh s) q) (sn s)) k).1), some (xi (aMn (aWo s q) (aAll (aHrs (sn s) (sh s) q) (sn s)) k).2), some (xi (nI k))], [], M) R := by
  have hn := hV.1.1.1
  intro d
  induction d with
  | zero =>
    intro k M hkd hM hF
    have : k = sn s := by omega
    subst this
    refine xgo [] 100 ⟨xin47 (k := 0) (by omega), ?_⟩
    rw [hM.1.g0]
    exact ⟨fun _ => ⟨trivial, hk _ M rfl hF⟩, fun c => absurd (nI_le (Nat.le_refl _) (by omega)) c⟩
  | succ d ih =>
    intro k M hkd hM hF
    have hp : k < sn s := by omega
    refine xgo [106] 100 ⟨xin47 (k := 0) (by omega), ?_⟩
    rw [hM.1.g0]
    refine ⟨fun c => absurd c (nI_ge hp (by omega)), fun _ => ⟨rfl, c3_copies (r := 0) (r' := 1) (by decide) hn hM.1 (fun M1 hR1 hF1 => ⟨rfl, c3_of k 4 ⟨xof_in (by omega) (by omega), rfl, ?_⟩⟩)⟩⟩
    rw [xof_cl (by omega) (by omega)]
    have hR2 := hR1.uSpoke hn hp
    have hF2 := hF1.u (5 + 7 * k + 4) 1
    have hT : ∃ t, t ≤ 999 ∧ aSpo (sh s) k 5 8 = nI t := by unfold aSpo; rw [hu_s, upd_n _ (by omega)]; exact hV.1.2.1
    refine c3_hoursOn q (by omega) (aBd_sc hV.1.1 9 (by omega) _) hT hR2 (fun M3 hR3 hF3 => ⟨rfl, c3_allHave hn hR3 ?_⟩)
    have nxt : ∀ a b, (aMn (aWo s q) (aAll (aHrs (sn s) (sh s) q) (sn s)) (k + 1)) = (a, b) → xWP pg_X3_word 106 ([some (xo (xN 2)), some (xi (nI q)), some (xi 0), some (xi a), some (xi b), some (xi (nI k))], [], M3) R := by
      intro a b e
      refine xgo [38] 100 ?_
      show xWP pg_X3_word 38 ([some (xo (xN 2)), some (xi (nI q)), some (xi 0), some (xi a), some (xi b), some (xi (nI k + 1))], [], M3) R
      rw [nI_1]
      have := ih (k + 1) M3 (by omega) (hM.th (hF2.tr hF3)) (hF.tr (hF2.tr hF3))
      rw [e] at this
      exact this
    refine ⟨fun c => ⟨rfl, c3_allHave hn hR3 (nxt _ _ (aMn_y c))⟩, fun c => nxt _ _ (aMn_n c)⟩
theorem k3_word {M : xM} {s : xS} {R : xR} (q : Nat) (hq : q ≤ 24) (_h1 : 1 ≤ q) (hM : xIm M s) (hV : xIv s) (hk : ∀ r M', r = (aMn (aWo s q) (aAll (aHrs (sn s) (sh s) q) (sn s)) (sn s)).2 → xfw 1 M M' → R (some (xi r)) M') : xWP pg_X3_word 18 ([some (xo (xN 2)), some (xi (nI q)), some (xi 0), none, none, none], [], M) R :=
  xgo [38] 100 ⟨rfl, c3_takes q (by omega) hM hV (fun M1 hR1 hF1 => ⟨rfl, c3_allHave hV.1.1.1 hR1 (l3_word q hq hV hk (sn s) 0 M1 (by omega) (hM.th hF1) hF1)⟩)⟩
theorem j_word (v : Int32) : xJt pg_X2_word pg_X3_word [some (xo (xN 0)), some (xi v), none, none, none, none, none] [some (xo (xN 2)), some (xi v), none, none, none, none] := by
  intro M s K hC hM hV hk
  refine xgo [18] 100 ⟨rfl, c2_rangeRefusal v 1 24 (fun a b => ?_) (fun a b => ?_) (fun a => ?_)⟩
  · refine ⟨fun _ => ?_, fun z => absurd rfl z⟩
    obtain ⟨q, hq, rfl⟩ := xrng (b := 24) (by omega) (Int32.le_trans (by decide) a) b
    show xWP pg_X2_word 18 ([some (xo (xN 0)), some (xi (nI q)), some (xi 0), none, none, none, none], [], M) _
    refine k2_word q hq (nI_le_of a) hC hV (fun r M1 hr F1 => ?_)
    have hM1 := hM.fc F1.c
    refine xgo [18] 100 ⟨rfl, c3_wrongBy (nI q) 1 24 (fun _ _ => ?_) (fun _ z => absurd b z) (fun z => absurd a z)⟩
    refine ⟨fun _ => ?_, fun z => absurd rfl z⟩
    show xWP pg_X3_word 18 ([some (xo (xN 2)), some (xi (nI q)), some (xi 0), none, none, none], [], M1) _
    refine k3_word q hq (nI_le_of a) hM1 hV (fun r' M2 hr' F2 => ?_)
    have e : r = r' := hr.trans hr'.symm
    rw [e]
    exact hk _ M2 s ((hC.th F1).fm F2.m) (hM1.th F2) hV
  · refine ⟨fun z => absurd z (by decide), fun _ => ⟨rfl, c2_refused 6 (by omega) (by omega) hC (fun M1 I1 F1 => ⟨trivial, ?_⟩)⟩⟩
    refine xgo [] 100 ⟨rfl, c3_wrongBy v 1 24 (fun _ z => absurd z b) (fun _ _ => ?_) (fun z => absurd a z)⟩
    exact ⟨fun z => absurd z (by decide), fun _ => ⟨rfl, c3_no 6 (by omega) (by omega) (hM.fc F1) (fun M2 I2 F2 => ⟨trivial, hk _ M2 _ (I1.fm F2) I2 hV⟩)⟩⟩
  · refine ⟨fun z => absurd z (by decide), fun _ => ⟨rfl, c2_refused 4 (by omega) (by omega) hC (fun M1 I1 F1 => ⟨trivial, ?_⟩)⟩⟩
    refine xgo [] 100 ⟨rfl, c3_wrongBy v 1 24 (fun z => absurd z a) (fun z => absurd z a) (fun _ => ?_)⟩
    exact ⟨fun z => absurd z (by decide), fun _ => ⟨rfl, c3_no 4 (by omega) (by omega) (hM.fc F1) (fun M2 I2 F2 => ⟨trivial, hk _ M2 _ (I1.fm F2) I2 hV⟩)⟩⟩
theorem l2_friendBest {s : xS} {R : xR} {M0 : xM} (p : Nat) (hp : p < sn s) (q : Nat) (hq : q ≤ 48) (hV : xIv s) (hk : ∀ r M', r = (aMx (fun k => aLh (aFb s p q k) (sn s)) p (aLh (aHrs (sn s) (sh s) q) (sn s)) (sn s)).2 → xfr 1 M0 M' → R (some (xi r)) M') : ∀ d k (M : xM) (x6 : Option xV), k + d = sn s → xIc M s → xfr 1 M0 M → xWP pg_X2_friendBest 36 ([some (xo (xN 0)), some (xi (nI p)), some (xi (nI q)), some (xi 0), some (xi (aMx (fun k => aLh (aFb s p q k) (sn s)) p (aLh (aHrs (sn s) (sh s) q) (sn s)) k).2), some (xi (aMx (fun k => aLh (aFb s p q k) (sn s)) p (aLh (aHrs (sn s) (sh s) q) (sn s)) k).1), some (xi (nI k)), x6], [], M) R := by
  have hn := hV.1.1.1
  intro d
  induction d with
  | zero =>
    intro k M x6 hkd hC hF
    have : k = sn s := by omega
    subst this
    exact xgo [] 100 ⟨fun _ => ⟨trivial, hk _ M rfl hF⟩, fun c => absurd (by rw [hC.1.s5]; exact nI_le (Nat.le_refl _) (by omega)) c⟩
  | succ d ih =>
    intro k M x6 hkd hC hF
    have hkn : k < sn s := by omega
    have nxt : ∀ a b M3 x6, xIc M3 s → xfr 1 M0 M3 → (aMx (fun k => aLh (aFb s p q k) (sn s)) p (aLh (aHrs (sn s) (sh s) q) (sn s)) (k + 1)) = (b, a) → xWP pg_X2_friendBest 99 ([some (xo (xN 0)), some (xi (nI p)), some (xi (nI q)), some (xi 0), some (xi a), some (xi b), some (xi (nI k)), x6], [], M3) R := by
      intro a b M3 x6 hC3 hF3 e
      refine xgo [36] 100 ?_
      show xWP pg_X2_friendBest 36 ([some (xo (xN 0)), some (xi (nI p)), some (xi (nI q)), some (xi 0), some (xi a), some (xi b), some (xi (nI k + 1)), x6], [], M3) R
      rw [nI_1]
      have := ih (k + 1) M3 x6 (by omega) hC3 hF3
      rw [e] at this
      exact this
    refine xgo [99] 100 ⟨fun c => absurd c (by rw [hC.1.s5]; exact nI_ge hkn (by omega)), fun _ => ?_⟩
    by_cases e : k = p
    · refine ⟨fun _ => nxt _ _ M x6 hC hF (aMx_x e), fun z => absurd (by rw [e]) z⟩
    · refine ⟨fun z => absurd ((nI_eq (by omega) (by omega)).mp z) e, fun _ => ⟨rfl, c2_thoughtOfNow hC hn (fun M1 hR1 hF1 => ⟨xin6 hp hn, rfl, ?_⟩)⟩⟩
      rw [xcl hp hn]
      have hR2 := hR1.ua 4 p (nI k)
      have hF2 := hF1.ua 4 p (nI k)
      refine c0_passHours q (by omega) (aBd_friend hV.1.1 (show k ≤ 5 by omega)).ok hR2 (fun M3 hR3 hF3 => ⟨rfl, c0_leastHas hn hR3 ?_⟩)
      have hF4 := hF2.tr hF3
      refine ⟨fun c => nxt _ _ M3 _ (hC.th hF4) (hF.tr hF4) (aMx_n e (fun z => absurd c (Int32.not_le.mpr z))), fun c => ⟨rfl, c0_leastHas hn hR3 (nxt _ _ M3 _ (hC.th hF4) (hF.tr hF4) (aMx_y e (Int32.not_le.mp c)))⟩⟩
theorem k2_friendBest {M : xM} {s : xS} {R : xR} (p : Nat) (hp : p < sn s) (q : Nat) (hq : q ≤ 48) (hC : xIc M s) (hV : xIv s) (hk : ∀ r M', r = (aMx (fun k => aLh (aFb s p q k) (sn s)) p (aLh (aHrs (sn s) (sh s) q) (sn s)) (sn s)).2 → xfr 1 M M' → R (some (xi r)) M') : xWP pg_X2_friendBest 19 ([some (xo (xN 0)), some (xi (nI p)), some (xi (nI q)), some (xi 0), none, none, none, none], [], M) R :=
  xgo [36] 100 ⟨rfl, c2_thoughtBehind q (by omega) hC hV.1.1 (fun M1 hR1 hF1 => ⟨rfl, c0_leastHas hV.1.1.1 hR1 (l2_friendBest p hp q hq hV hk (sn s) 0 M1 none (by omega) (hC.th hF1) hF1)⟩)⟩
theorem l3_friendBest {s : xS} {R : xR} {M0 : xM} (p : Nat) (hp : p < sn s) (q : Nat) (hq : q ≤ 48) (hV : xIv s) (hk : ∀ r M', r = (aMx (fun k => aLm (aFb s p q k) (sn s)) p (aLm (aHrs (sn s) (sh s) q) (sn s)) (sn s)).2 → xfw 1 M0 M' → R (some (xi r)) M') : ∀ d k (M : xM), k + d = sn s → xIm M s → xfw 1 M0 M → xWP pg_X3_friendBest 51 ([some (xo (xN 2)), some (xi (nI p)), some (xi (nI q)), some (xi 0), some (xi (aMx (fun k => aLm (aFb s p q k) (sn s)) p (aLm (aHrs (sn s) (sh s) q) (sn s)) k).1), some (xi (aMx (fun k => aLm (aFb s p q k) (sn s)) p (aLm (aHrs (sn s) (sh s) q) (sn s)) k).2), some (xi (nI k))], [], M) R := by
  have hn := hV.1.1.1
  intro d
  induction d with
  | zero =>
    intro k M hkd hM hF
    have : k = sn s := by omega
    subst this
    refine xgo [] 100 ⟨xin47 (k := 0) (by omega), ?_⟩
    rw [hM.1.g0]
    exact ⟨fun _ => ⟨trivial, hk _ M rfl hF⟩, fun c => absurd (nI_le (Nat.le_refl _) (by omega)) c⟩
  | succ d ih =>
    intro k M hkd hM hF
    have hkn : k < sn s := by omega
    have nxt : ∀ a b M3, xIm M3 s → xfw 1 M0 M3 → (aMx (fun k => aLm (aFb s p q k) (sn s)) p (aLm (aHrs (sn s) (sh s) q) (sn s)) (k + 1)) = (a, b) → xWP pg_X3_friendBest 131 ([some (xo (xN 2)), some (xi (nI p)), some (xi (nI q)), some (xi 0), some (xi a), some (xi b), some (xi (nI k))], [], M3) R := by
      intro a b M3 hM3 hF3 e
      refine xgo [51] 100 ?_
      show xWP pg_X3_friendBest 51 ([some (xo (xN 2)), some (xi (nI p)), some (xi (nI q)), some (xi 0), some (xi a), some (xi b), some (xi (nI k + 1))], [], M3) R
      rw [nI_1]
      have := ih (k + 1) M3 (by omega) hM3 hF3
      rw [e] at this
      exact this
    refine xgo [131] 100 ⟨xin47 (k := 0) (by omega), ?_⟩
    rw [hM.1.g0]
    refine ⟨fun c => absurd c (nI_ge hkn (by omega)), fun _ => ?_⟩
    by_cases e : k = p
    · refine ⟨fun _ => nxt _ _ M hM hF (aMx_x e), fun z => absurd (by rw [e]) z⟩
    · refine ⟨fun z => absurd ((nI_eq (by omega) (by omega)).mp z) e, fun _ => ⟨rfl, c3_copies (r := 0) (r' := 1) (by decide) hn hM.1 (fun M1 hR1 hF1 => ⟨rfl, c3_of p 6 ⟨xof_in (by omega) (by omega), rfl, ?_⟩⟩)⟩⟩
      rw [xof_cl (by omega) (by omega)]
      have hR2 := hR1.uAr hp (nI k) 4 6 (by omega)
      have hF2 := hF1.u (5 + 7 * p + 6) (nI k)
      refine c3_hoursOn q (by omega) (aBd_friend hV.1.1 (show k ≤ 5 by omega)) hV.1.2.1 hR2 (fun M3 hR3 hF3 => ⟨rfl, c3_leastHas hn hR3 ?_⟩)
      have hF4 := hF2.tr hF3
      refine ⟨fun c => ⟨rfl, c3_leastHas hn hR3 (nxt _ _ M3 (hM.th hF4) (hF.tr hF4) (aMx_y e c))⟩, fun c => nxt _ _ M3 (hM.th hF4) (hF.tr hF4) (aMx_n e c)⟩
theorem fb_eq {s : xS} (p : Nat) (hp : p < sn s) (q : Nat) (hV : xIv s) : aMx (fun k => aLm (aFb s p q k) (sn s)) p (aLm (aHrs (sn s) (sh s) q) (sn s)) (sn s) = aMx (fun k => aLh (aFb s p q k) (sn s)) p (aLh (aHrs (sn s) (sh s) q) (sn s)) (sn s) := by
  have hn := hV.1.1.1
  refine aMx_cg (aLm_eq (aBd_hrs hV.1.1 q) (by omega)) (sn s) (fun k hk => aLm_eq (aBd_hrs (aBd_friend hV.1.1 (show k ≤ 5 by omega)) q) (by omega))
theorem k3_friendBest {M : xM} {s : xS} {R : xR} (p : Nat) (hp : p < sn s) (q : Nat) (hq : q ≤ 48) (hM : xIm M s) (hV : xIv s) (hk : ∀ r M', r = (aMx (fun k => aLh (aFb s p q k) (sn s)) p (aLh (aHrs (sn s) (sh s) q) (sn s)) (sn s)).2 → xfw 1 M M' → R (some (xi r)) M') : xWP pg_X3_friendBest 30 ([some (xo (xN 2)), some (xi (nI p)), some (xi (nI q)), some (xi 0), none, none, none], [], M) R :=
  xgo [51] 100 ⟨rfl, c3_takes q (by omega) hM hV (fun M1 hR1 hF1 => ⟨rfl, c3_leastHas hV.1.1.1 hR1 (l3_friendBest p hp q hq hV (fun r M' e => hk r M' (e.trans (by rw [fb_eq p hp q hV]))) (sn s) 0 M1 (by omega) (hM.th hF1) hF1)⟩)⟩
theorem j_friendBest (p v : Int32) : xJt pg_X2_friendBest pg_X3_friendBest [some (xo (xN 0)), some (xi p), some (xi v), none, none, none, none, none] [some (xo (xN 2)), some (xi p), some (xi v), none, none, none, none] := by
  intro M s K hC hM hV hk
  have hn := hV.1.1.1
  refine xgo [19] 100 ⟨rfl, c2_oneRefusal p v 48 hC.1 (fun a => ?_) (fun a b c => ?_) (fun a b c => ?_) (fun a b => ?_)⟩
  · refine ⟨fun z => absurd z (by decide), fun _ => ⟨rfl, c2_refused 1 (by omega) (by omega) hC (fun M1 I1 F1 => ⟨trivial, ?_⟩)⟩⟩
    have hM1 := hM.fc F1
    refine xgo [] 100 ⟨rfl, c3_isPerson p hn hM1.1 (fun z => absurd z a) (fun _ => ⟨fun _ => ?_, fun z => absurd rfl z⟩)⟩
    exact ⟨fun z => absurd z (by decide), fun _ => ⟨rfl, c3_no 1 (by omega) (by omega) hM1 (fun M2 I2 F2 => ⟨trivial, hk _ M2 _ (I1.fm F2) I2 hV⟩)⟩⟩
  · refine ⟨fun _ => ?_, fun z => absurd rfl z⟩
    obtain ⟨p, hp, rfl⟩ := xper hn a
    obtain ⟨q, hq, rfl⟩ := xrng (b := 48) (by omega) b c
    show xWP pg_X2_friendBest 19 ([some (xo (xN 0)), some (xi (nI p)), some (xi (nI q)), some (xi 0), none, none, none, none], [], M) _
    refine k2_friendBest p hp q hq hC hV (fun r M1 hr F1 => ?_)
    have hM1 := hM.fc F1.c
    refine xgo [30] 100 ⟨rfl, c3_isPerson (nI p) hn hM1.1 (fun _ => ?_) (fun z => absurd a z)⟩
    refine ⟨fun z => absurd z (by decide), fun _ => ⟨rfl, c3_wrongBy (nI q) 0 48 (fun _ _ => ?_) (fun _ z => absurd c z) (fun z => absurd b z)⟩⟩
    refine ⟨fun _ => ?_, fun z => absurd rfl z⟩
    show xWP pg_X3_friendBest 30 ([some (xo (xN 2)), some (xi (nI p)), some (xi (nI q)), some (xi 0), none, none, none], [], M1) _
    refine k3_friendBest p hp q hq hM1 hV (fun r' M2 hr' F2 => ?_)
    have e : r = r' := hr.trans hr'.symm
    rw [e]
    exact hk _ M2 s ((hC.th F1).fm F2.m) (hM1.th F2) hV
  · refine ⟨fun z => absurd z (by decide), fun _ => ⟨rfl, c2_refused 6 (by omega) (by omega) hC (fun M1 I1 F1 => ⟨trivial, ?_⟩)⟩⟩
    have hM1 := hM.fc F1
    refine xgo [] 100 ⟨rfl, c3_isPerson p hn hM1.1 (fun _ => ⟨fun z => absurd z (by decide), fun _ => ⟨rfl, c3_wrongBy v 0 48 (fun _ z => absurd z c) (fun _ _ => ?_) (fun z => absurd b z)⟩⟩) (fun z => absurd a z)⟩
    exact ⟨fun z => absurd z (by decide), fun _ => ⟨rfl, c3_no 6 (by omega) (by omega) hM1 (fun M2 I2 F2 => ⟨trivial, hk _ M2 _ (I1.fm F2) I2 hV⟩)⟩⟩
  · refine ⟨fun z => absurd z (by decide), fun _ => ⟨rfl, c2_refused 4 (by omega) (by omega) hC (fun M1 I1 F1 => ⟨trivial, ?_⟩)⟩⟩
    have hM1 := hM.fc F1
    refine xgo [] 100 ⟨rfl, c3_isPerson p hn hM1.1 (fun _ => ⟨fun z => absurd z (by decide), fun _ => ⟨rfl, c3_wrongBy v 0 48 (fun z => absurd z b) (fun z => absurd z b) (fun _ => ?_)⟩⟩) (fun z => absurd a z)⟩
    exact ⟨fun z => absurd z (by decide), fun _ => ⟨rfl, c3_no 4 (by omega) (by omega) hM1 (fun M2 I2 F2 => ⟨trivial, hk _ M2 _ (I1.fm F2) I2 hV⟩)⟩⟩
