/-! ===== the fewest, who is silent, thirst, friends, two ===== -/

abbrev aFP (s : xS) (q k : Nat) : Prop := aW0 (sn s) (hu (sh s) 5 11 (nI k)) q

def aFw (s : xS) (q : Nat) : Nat → Int32
  | 0 => -9
  | k + 1 => if (aFw s q k < 0 ∨ xbs (nI k) 6 < xbs (aFw s q k) 6) ∧ aFP s q k then nI k else aFw s q k
def aFe (f : Int32) : Int32 := if f < 0 then 7 else xbc f
theorem aFw_v (s : xS) (q : Nat) : ∀ k, (aFw s q k = -9) ∨ ∃ j, j < k ∧ aFw s q k = nI j
  | 0 => Or.inl rfl
  | k + 1 => by
    unfold aFw
    split
    · exact Or.inr ⟨k, by omega, rfl⟩
    · rcases aFw_v s q k with h | ⟨j, hj, h⟩
      · exact Or.inl h
      · exact Or.inr ⟨j, by omega, h⟩
theorem xbc_7 : ∀ k, k < 64 → xbc (nI k) < 7 := by decide +kernel
theorem nI_64 : ∀ k, k < 64 → ¬ nI k < 0 := by decide +kernel
theorem aFe_iff (s : xS) (q k : Nat) (hk : k < 64) : xbc (nI k) < aFe (aFw s q k) ↔ (aFw s q k < 0 ∨ xbs (nI k) 6 < xbs (aFw s q k) 6) := by
  rcases aFw_v s q k with h | ⟨j, hj, h⟩
  · rw [h]
    exact ⟨fun _ => Or.inl (by decide), fun _ => xbc_7 k hk⟩
  · rw [h]
    have e : aFe (nI j) = xbc (nI j) := if_neg (nI_64 j (by omega))
    rw [e, xbc_bs k hk, xbc_bs j (by omega)]
    exact ⟨fun z => Or.inr z, fun z => z.resolve_left (nI_64 j (by omega))⟩
theorem ev_eq : ∀ n, n < 7 → (1 : Int32) <<< (nI n &&& 31) - 1 = nI (2 ^ n - 1) := by decide +kernel
theorem on_eq : ∀ n, n < 7 → (1 : Int32) <<< (nI n &&& 31) = nI (2 ^ n) := by decide +kernel
theorem c2_isWetWithHushed {M : xM} {s : xS} {R : xR} (k q : Nat) (hq : q ≤ 24) (hC : xIc M s) (hV : xIv s) (h1 : aFP s q k → ∀ M', xfr 1 M M' → R (some (xi 1)) M') (h2 : ¬ aFP s q k → ∀ M', xfr 1 M M' → R (some (xi 0)) M') : xWP pg_X2_isWetWithHushed 0 ([some (xo (xN 0)), some (xi (nI k)), some (xi (nI q)), none], [], M) R := by
  have hn := hV.1.1.1
  refine xgo [] 100 ⟨rfl, c2_thoughtOfNow hC hn (fun M1 hR1 hF1 => ⟨rfl, ?_⟩)⟩
  have hR2 : xRc (xup M1 (xH 1) 11 (nI k)) 1 (sn s) (hu (sh s) 5 11 (nI k)) := hR1.us 11 (by omega) _
  have hF2 : xfr 1 M (xup M1 (xH 1) 11 (nI k)) := hF1.us 11 _
  refine c0_everybody (hC.th hF2).1 ⟨rfl, c0_staysWet _ q (by omega) (aBd_sc hV.1.1 11 (by omega) _).ok hR2 (fun w M3 hF3 => ⟨Or.inr rfl, ?_⟩) (fun w M3 hF3 => ⟨Or.inl rfl, ?_⟩)⟩
  · exact h1 ((aWet_E hn).mp w) M3 (hF2.tr hF3)
  · exact h2 (fun z => w ((aWet_E hn).mpr z)) M3 (hF2.tr hF3)
theorem l2_fewest {s : xS} {R : xR} {M0 : xM} (q : Nat) (hq : q ≤ 24) (hV : xIv s) (hk : ∀ r M', r = aFw s q (2 ^ sn s) → xfr 1 M0 M' → R (some (xi r)) M') : ∀ d k (M : xM), k + d = 2 ^ sn s → xIc M s → xfr 1 M0 M → xWP pg_X2_fewest 28 ([some (xo (xN 0)), some (xi (nI q)), some (xi 0), some (xi (aFw s q k)), some (xi (aFe (aFw s q k))), some (xi (nI k))], [], M) R := by
  have hn := hV.1.1.1
  have h64 := p2_le hn
  have h0 := Nat.two_pow_pos (sn s)
  intro d
  induction d with
  | zero =>
    intro k M hkd hC hF
    have : k = 2 ^ sn s := by omega
    subst this
    refine xgo [] 100 ⟨rfl, c0_everybody hC.1 ?_⟩
    rw [ev_eq _ (by omega)]
    exact ⟨fun _ => ⟨trivial, hk _ M rfl hF⟩, fun c => absurd (nI_lt (by omega) (by omega)) c⟩
  | succ d ih =>
    intro k M hkd hC hF
    have nxt : ∀ a b M3, xIc M3 s → xfr 1 M0 M3 → aFw s q (k + 1) = a → aFe a = b → xWP pg_X2_fewest 70 ([some (xo (xN 0)), some (xi (nI q)), some (xi 0), some (xi a), some (xi b), some (xi (nI k))], [], M3) R := by
      intro a b M3 hC3 hF3 e e'
      refine xgo [28] 100 ?_
      show xWP pg_X2_fewest 28 ([some (xo (xN 0)), some (xi (nI q)), some (xi 0), some (xi a), some (xi b), some (xi (nI k + 1))], [], M3) R
      rw [nI_1]
      have := ih (k + 1) M3 (by omega) hC3 hF3
      rw [e, e'] at this
      exact this
    have hi := aFe_iff s q k (by omega)
    refine xgo [70] 100 ⟨rfl, c0_everybody hC.1 ?_⟩
    rw [ev_eq _ (by omega)]
    refine ⟨fun c => absurd c (nI_nlt (by omega) (by omega)), fun _ => ⟨rfl, c_bitCount (nI k) ⟨fun c => nxt _ _ M hC hF (if_neg (fun z => absurd (hi.mpr z.1) (Int32.not_lt.mpr c))) rfl, fun c => ⟨rfl, c2_isWetWithHushed k q hq hC hV (fun w M1 hF1 => ?_) (fun w M1 hF1 => ?_)⟩⟩⟩⟩
    · refine ⟨fun z => absurd z (by decide), fun _ => ⟨rfl, c_bitCount (nI k) (nxt _ _ M1 (hC.th hF1) (hF.tr hF1) (if_pos ⟨hi.mp (Int32.not_le.mp c), w⟩) (if_neg (nI_64 k (by omega))))⟩⟩
    · refine ⟨fun _ => nxt _ _ M1 (hC.th hF1) (hF.tr hF1) (if_neg (fun z => w z.2)) rfl, fun z => absurd rfl z⟩
theorem k2_fewest {M : xM} {s : xS} {R : xR} (q : Nat) (hq : q ≤ 24) (hC : xIc M s) (hV : xIv s) (hk : ∀ r M', r = aFw s q (2 ^ sn s) → xfr 1 M M' → R (some (xi r)) M') : xWP pg_X2_fewest 18 ([some (xo (xN 0)), some (xi (nI q)), some (xi 0), none, none, none], [], M) R :=
  xgo [28] 100 (l2_fewest q hq hV hk (2 ^ sn s) 0 M (by omega) hC xfr.rf)
theorem l3_fewest {s : xS} {R : xR} {M0 : xM} (q : Nat) (hq : q ≤ 24) (hV : xIv s) (hk : ∀ r M', r = aFw s q (2 ^ sn s) → xfw 1 M0 M' → R (some (xi r)) M') : ∀ d k (M : xM), k + d = 2 ^ sn s → xIm M s → xfw 1 M0 M → xWP pg_X3_fewest 24 ([some (xo (xN 2)), some (xi (nI q)), some (xi 0), some (xi (aFw s q k)), some (xi (nI k))], [], M) R := by
  have hn := hV.1.1.1
  have h64 := p2_le hn
  have h0 := Nat.two_pow_pos (sn s)
  intro d
  induction d with
  | zero =>
    intro k M hkd hM hF
    have : k = 2 ^ sn s := by omega
    subst this
    refine xgo [] 100 ⟨xin47 (k := 0) (by omega), ?_⟩
    rw [hM.1.g0]
    exact ⟨fun _ => ⟨trivial, hk _ M rfl hF⟩, fun c => absurd (by rw [on_eq (sn s) (by omega)]; exact nI_le (Nat.le_refl _) (by omega)) c⟩
  | succ d ih =>
    intro k M hkd hM hF
    have nxt : ∀ a M3, xIm M3 s → xfw 1 M0 M3 → aFw s q (k + 1) = a → xWP pg_X3_fewest 87 ([some (xo (xN 2)), some (xi (nI q)), some (xi 0), some (xi a), some (xi (nI k))], [], M3) R := by
      intro a M3 hM3 hF3 e
      refine xgo [24] 100 ?_
      show xWP pg_X3_fewest 24 ([some (xo (xN 2)), some (xi (nI q)), some (xi 0), some (xi a), some (xi (nI k + 1))], [], M3) R
      rw [nI_1]
      have := ih (k + 1) M3 (by omega) hM3 hF3
      rw [e] at this
      exact this
    have tr : (aFw s q k < 0 ∨ xbs (nI k) 6 < xbs (aFw s q k) 6) → xWP pg_X3_fewest 56 ([some (xo (xN 2)), some (xi (nI q)), some (xi 0), some (xi (aFw s q k)), some (xi (nI k))], [], M) R := by
      intro hi
      refine xgo [87] 100 ⟨rfl, c3_copies (r := 0) (r' := 1) (by decide) hn hM.1 (fun M1 hR1 hF1 => ⟨xin47 (k := 4) (by omega), rfl, ?_⟩)⟩
      have hR2 : xRm (xup M1 (xW 1) (Int32.toNatClampNeg 4) (nI k)) 1 (sn s) (hu (sh s) 5 11 (nI k)) := hR1.uHush _
      have hF2 : xfw 1 M (xup M1 (xW 1) (Int32.toNatClampNeg 4) (nI k)) := hF1.u _ _
      have hT : ∃ t, t ≤ 999 ∧ hu (sh s) 5 11 (nI k) 5 8 = nI t := by rw [hu_s, upd_n _ (by omega)]; exact hV.1.2.1
      refine c3_isNoneDry (-1) q (by omega) (aBd_sc hV.1.1 11 (by omega) _) hT hR2 (fun w M3 hF3 => ?_) (fun w M3 hF3 => ?_)
      · refine ⟨fun z => absurd z (by decide), fun _ => nxt _ M3 (hM.th (hF2.tr hF3)) (hF.tr (hF2.tr hF3)) (if_pos ⟨hi, (aWet_m hn).mp w⟩)⟩
      · refine ⟨fun _ => nxt _ M3 (hM.th (hF2.tr hF3)) (hF.tr (hF2.tr hF3)) (if_neg (fun z => w ((aWet_m hn).mpr z.2))), fun z => absurd rfl z⟩
    refine xgo [87, 56] 100 ⟨xin47 (k := 0) (by omega), ?_⟩
    rw [hM.1.g0]
    refine ⟨fun c => absurd c (by rw [on_eq (sn s) (by omega)]; exact nI_ge (by omega) (by omega)), fun _ => ⟨fun c => tr (Or.inl c), fun c => ⟨rfl, c3_bits _ ⟨rfl, c3_bits _ ⟨fun c' => tr (Or.inr c'), fun c' => nxt _ M hM hF (if_neg (fun z => z.1.elim c c'))⟩⟩⟩⟩⟩
theorem k3_fewest {M : xM} {s : xS} {R : xR} (q : Nat) (hq : q ≤ 24) (hM : xIm M s) (hV : xIv s) (hk : ∀ r M', r = aFw s q (2 ^ sn s) → xfw 1 M M' → R (some (xi r)) M') : xWP pg_X3_fewest 18 ([some (xo (xN 2)), some (xi (nI q)), some (xi 0), none, none], [], M) R :=
  xgo [24] 100 (l3_fewest q hq hV hk (2 ^ sn s) 0 M (by omega) hM xfw.rf)
theorem j_fewest (v : Int32) : xJt pg_X2_fewest pg_X3_fewest [some (xo (xN 0)), some (xi v), none, none, none, none] [some (xo (xN 2)), some (xi v), none, none, none] := by
  intro M s K hC hM hV hk
  refine xgo [18] 100 ⟨rfl, c2_rangeRefusal v 0 24 (fun a b => ?_) (fun a b => ?_) (fun a => ?_)⟩
  · refine ⟨fun _ => ?_, fun z => absurd rfl z⟩
    obtain ⟨q, hq, rfl⟩ := xrng (b := 24) (by omega) a b
    show xWP pg_X2_fewest 18 ([some (xo (xN 0)), some (xi (nI q)), some (xi 0), none, none, none], [], M) _
    refine k2_fewest q hq  hC hV (fun r M1 hr F1 => ?_)
    have hM1 := hM.fc F1.c
    refine xgo [18] 100 ⟨rfl, c3_wrongBy (nI q) 0 24 (fun _ _ => ?_) (fun _ z => absurd b z) (fun z => absurd a z)⟩
    refine ⟨fun _ => ?_, fun z => absurd rfl z⟩
    show xWP pg_X3_fewest 18 ([some (xo (xN 2)), some (xi (nI q)), some (xi 0), none, none], [], M1) _
    refine k3_fewest q hq  hM1 hV (fun r' M2 hr' F2 => ?_)
    have e : r = r' := hr.trans hr'.symm
    rw [e]
    exact hk _ M2 s ((hC.th F1).fm F2.m) (hM1.th F2) hV
  · refine ⟨fun z => absurd z (by decide), fun _ => ⟨rfl, c2_refused 6 (by omega) (by omega) hC (fun M1 I1 F1 => ⟨trivial, ?_⟩)⟩⟩
    refine xgo [] 100 ⟨rfl, c3_wrongBy v 0 24 (fun _ z => absurd z b) (fun _ _ => ?_) (fun z => absurd a z)⟩
    exact ⟨fun z => absurd z (by decide), fun _ => ⟨rfl, c3_no 6 (by omega) (by omega) (hM.fc F1) (fun M2 I2 F2 => ⟨trivial, hk _ M2 _ (I1.fm F2) I2 hV⟩)⟩⟩
  · refine ⟨fun z => absurd z (by decide), fun _ => ⟨rfl, c2_refused 4 (by omega) (by omega) hC (fun M1 I1 F1 => ⟨trivial, ?_⟩)⟩⟩
    refine xgo [] 100 ⟨rfl, c3_wrongBy v 0 24 (fun z => absurd z a) (fun z => absurd z a) (fun _ => ?_)⟩
    exact ⟨fun z => absurd z (by decide), fun _ => ⟨rfl, c3_no 4 (by omega) (by omega) (hM.fc F1) (fun M2 I2 F2 => ⟨trivial, hk _ M2 _ (I1.fm F2) I2 hV⟩)⟩⟩
def aQu (h : xh) (t : Int32) : Nat → Int32
  | 0 => 0
  | k + 1 => if t < aSH (h 0 k) (h 1 k) then aQu h t k + 1 else aQu h t k
theorem l2_quiet {M : xM} {s : xS} {R : xR} (t : Int32) (hV : xIv s) (hC : xIc M s) (hk : R (some (xi (aQu (sh s) t (sn s)))) M) : ∀ d k, k + d = sn s → xWP pg_X2_quiet 23 ([some (xo (xN 0)), some (xi t), some (xi 0), some (xi (aQu (sh s) t k)), some (xi (nI k))], [], M) R := by
  have hn := hV.1.1.1
  intro d
  induction d with
  | zero =>
    intro k hkd
    have : k = sn s := by omega
    subst this
    exact xgo [] 100 ⟨fun _ => ⟨trivial, hk⟩, fun c => absurd (by rw [hC.1.s5]; exact nI_le (Nat.le_refl _) (by omega)) c⟩
  | succ d ih =>
    intro k hkd
    have hp : k < sn s := by omega
    have nxt : ∀ a, aQu (sh s) t (k + 1) = a → xWP pg_X2_quiet 51 ([some (xo (xN 0)), some (xi t), some (xi 0), some (xi a), some (xi (nI k))], [], M) R := by
      intro a e
      refine xgo [23] 100 ?_
      show xWP pg_X2_quiet 23 ([some (xo (xN 0)), some (xi t), some (xi 0), some (xi a), some (xi (nI k + 1))], [], M) R
      rw [nI_1, ← e]
      exact ih (k + 1) (by omega)
    refine xgo [51] 100 ⟨fun c => absurd c (by rw [hC.1.s5]; exact nI_ge hp (by omega)), fun _ => ⟨rfl, c0_speakingHour k hC.1 hp hn ⟨fun c => nxt _ (if_neg (Int32.not_lt.mpr c)), fun c => nxt _ (if_pos (Int32.not_le.mp c))⟩⟩⟩
theorem l3_quiet {M : xM} {s : xS} {R : xR} (t : Int32) (hV : xIv s) (hM : xIm M s) (hk : R (some (xi (aQu (sh s) t (sn s)))) M) : ∀ d k, k + d = sn s → xWP pg_X3_quiet 23 ([some (xo (xN 2)), some (xi t), some (xi 0), some (xi (aQu (sh s) t k)), some (xi (nI k))], [], M) R := by
  have hn := hV.1.1.1
  intro d
  induction d with
  | zero =>
    intro k hkd
    have : k = sn s := by omega
    subst this
    refine xgo [] 100 ⟨xin47 (k := 0) (by omega), ?_⟩
    rw [hM.1.g0]
    exact ⟨fun _ => ⟨trivial, hk⟩, fun c => absurd (nI_le (Nat.le_refl _) (by omega)) c⟩
  | succ d ih =>
    intro k hkd
    have hp : k < sn s := by omega
    have nxt : ∀ a, aQu (sh s) t (k + 1) = a → xWP pg_X3_quiet 55 ([some (xo (xN 2)), some (xi t), some (xi 0), some (xi a), some (xi (nI k))], [], M) R := by
      intro a e
      refine xgo [23] 100 ?_
      show xWP pg_X3_quiet 23 ([some (xo (xN 2)), some (xi t), some (xi 0), some (xi a), some (xi (nI k + 1))], [], M) R
      rw [nI_1, ← e]
      exact ih (k + 1) (by omega)
    refine xgo [55] 100 ⟨xin47 (k := 0) (by omega), ?_⟩
    rw [hM.1.g0]
    refine ⟨fun c => absurd c (nI_ge hp (by omega)), fun _ => ⟨rfl, c3_speaksIn k hM.1 hp hn ?_⟩⟩
    rw [if_neg (by rw [hV.1.2.2.2]; exact xbt_0 k (by omega))]
    exact ⟨fun c => nxt _ ((if_neg (Int32.not_lt.mpr c)).trans (Int32.add_zero _).symm), fun c => nxt _ (if_pos (Int32.not_le.mp c))⟩
theorem k2_quiet {M : xM} {s : xS} {R : xR} (q : Nat) (_hq : q ≤ 11) (hC : xIc M s) (hV : xIv s) (hk : ∀ r M', r = aQu (sh s) (nI q) (sn s) → xfr 1 M M' → R (some (xi r)) M') : xWP pg_X2_quiet 18 ([some (xo (xN 0)), some (xi (nI q)), some (xi 0), none, none], [], M) R :=
  xgo [23] 100 (l2_quiet (nI q) hV hC (hk _ M rfl xfr.rf) (sn s) 0 (by omega))
theorem k3_quiet {M : xM} {s : xS} {R : xR} (q : Nat) (_hq : q ≤ 11) (hM : xIm M s) (hV : xIv s) (hk : ∀ r M', r = aQu (sh s) (nI q) (sn s) → xfw 1 M M' → R (some (xi r)) M') : xWP pg_X3_quiet 18 ([some (xo (xN 2)), some (xi (nI q)), some (xi 0), none, none], [], M) R :=
  xgo [23] 100 (l3_quiet (nI q) hV hM (hk _ M rfl xfw.rf) (sn s) 0 (by omega))
theorem j_quiet (v : Int32) : xJt pg_X2_quiet pg_X3_quiet [some (xo (xN 0)), some (xi v), none, none, none] [some (xo (xN 2)), some (xi v), none, none, none] := by
  intro M s K hC hM hV hk
  refine xgo [18] 100 ⟨rfl, c2_rangeRefusal v 0 11 (fun a b => ?_) (fun a b => ?_) (fun a => ?_)⟩
  · refine ⟨fun _ => ?_, fun z => absurd rfl z⟩
    obtain ⟨q, hq, rfl⟩ := xrng (b := 11) (by omega) a b
    show xWP pg_X2_quiet 18 ([some (xo (xN 0)), some (xi (nI q)), some (xi 0), none, none], [], M) _
    refine k2_quiet q hq  hC hV (fun r M1 hr F1 => ?_)
    have hM1 := hM.fc F1.c
    refine xgo [18] 100 ⟨rfl, c3_wrongBy (nI q) 0 11 (fun _ _ => ?_) (fun _ z => absurd b z) (fun z => absurd a z)⟩
    refine ⟨fun _ => ?_, fun z => absurd rfl z⟩
    show xWP pg_X3_quiet 18 ([some (xo (xN 2)), some (xi (nI q)), some (xi 0), none, none], [], M1) _
    refine k3_quiet q hq  hM1 hV (fun r' M2 hr' F2 => ?_)
    have e : r = r' := hr.trans hr'.symm
    rw [e]
    exact hk _ M2 s ((hC.th F1).fm F2.m) (hM1.th F2) hV
  · refine ⟨fun z => absurd z (by decide), fun _ => ⟨rfl, c2_refused 6 (by omega) (by omega) hC (fun M1 I1 F1 => ⟨trivial, ?_⟩)⟩⟩
    refine xgo [] 100 ⟨rfl, c3_wrongBy v 0 11 (fun _ z => absurd z b) (fun _ _ => ?_) (fun z => absurd a z)⟩
    exact ⟨fun z => absurd z (by decide), fun _ => ⟨rfl, c3_no 6 (by omega) (by omega) (hM.fc F1) (fun M2 I2 F2 => ⟨trivial, hk _ M2 _ (I1.fm F2) I2 hV⟩)⟩⟩
  · refine ⟨fun z => absurd z (by decide), fun _ => ⟨rfl, c2_refused 4 (by omega) (by omega) hC (fun M1 I1 F1 => ⟨trivial, ?_⟩)⟩⟩
    refine xgo [] 100 ⟨rfl, c3_wrongBy v 0 11 (fun z => absurd z a) (fun z => absurd z a) (fun _ => ?_)⟩
    exact ⟨fun z => absurd z (by decide), fun _ => ⟨rfl, c3_no 4 (by omega) (by omega) (hM.fc F1) (fun M2 I2 F2 => ⟨trivial, hk _ M2 _ (I1.fm F2) I2 hV⟩)⟩⟩
def aTh (h : xh) : Nat → Int32
  | 0 => 0
  | k + 1 => aTh h k + aDr (h 0 k)
theorem l2_thirst {M : xM} {s : xS} {R : xR} (hV : xIv s) (hC : xIc M s) (hk : R (some (xi (aTh (sh s) (sn s)))) M) : ∀ d k, k + d = sn s → xWP pg_X2_thirst 4 ([some (xo (xN 0)), some (xi (aTh (sh s) k)), some (xi (nI k))], [], M) R := by
  have hn := hV.1.1.1
  intro d
  induction d with
  | zero =>
    intro k hkd
    have : k = sn s := by omega
    subst this
    exact xgo [] 100 ⟨fun _ => ⟨trivial, hk⟩, fun c => absurd (by rw [hC.1.s5]; exact nI_le (Nat.le_refl _) (by omega)) c⟩
  | succ d ih =>
    intro k hkd
    have hp : k < sn s := by omega
    refine xgo [4] 100 ⟨fun c => absurd c (by rw [hC.1.s5]; exact nI_ge hp (by omega)), fun _ => ⟨rfl, c0_drinkOf k hC.1 hp hn ?_⟩⟩
    show xWP pg_X2_thirst 4 ([some (xo (xN 0)), some (xi (aTh (sh s) (k + 1))), some (xi (nI k + 1))], [], M) R
    rw [nI_1]
    exact ih (k + 1) (by omega)
theorem l3_thirst {M : xM} {s : xS} {R : xR} (hV : xIv s) (hM : xIm M s) (hk : R (some (xi (aTh (sh s) (sn s)))) M) : ∀ d k, k + d = sn s → xWP pg_X3_thirst 4 ([some (xo (xN 2)), some (xi (aTh (sh s) k)), some (xi (nI k))], [], M) R := by
  have hn := hV.1.1.1
  intro d
  induction d with
  | zero =>
    intro k hkd
    have : k = sn s := by omega
    subst this
    refine xgo [] 100 ⟨xin47 (k := 0) (by omega), ?_⟩
    rw [hM.1.g0]
    exact ⟨fun _ => ⟨trivial, hk⟩, fun c => absurd (nI_le (Nat.le_refl _) (by omega)) c⟩
  | succ d ih =>
    intro k hkd
    have hp : k < sn s := by omega
    refine xgo [4] 100 ⟨xin47 (k := 0) (by omega), ?_⟩
    rw [hM.1.g0]
    refine ⟨fun c => absurd c (nI_ge hp (by omega)), fun _ => ⟨rfl, c3_of k 0 ⟨xof_in (by omega) (by omega), ?_⟩⟩⟩
    rw [hM.1.v hp hn 0 (by omega)]
    refine ⟨rfl, c3_drinksBy _ ?_⟩
    show xWP pg_X3_thirst 4 ([some (xo (xN 2)), some (xi (aTh (sh s) (k + 1))), some (xi (nI k + 1))], [], M) R
    rw [nI_1]
    exact ih (k + 1) (by omega)
theorem j_thirst : xJt pg_X2_thirst pg_X3_thirst [some (xo (xN 0)), none, none] [some (xo (xN 2)), none, none] := by
  intro M s K hC hM hV hk
  refine xgo [4] 100 (l2_thirst hV hC ?_ (sn s) 0 (by omega))
  exact xgo [4] 100 (l3_thirst hV hM (hk _ M s hC hM hV) (sn s) 0 (by omega))
theorem j_lasts (p : Int32) : xJt pg_X2_lasts pg_X3_lasts [some (xo (xN 0)), some (xi p), none] [some (xo (xN 2)), some (xi p)] := by
  intro M s K hC hM hV hk
  have hn := hV.1.1.1
  refine xgo [] 100 ⟨rfl, c0_isThere p hC.1 (fun a => ?_) (fun a => ?_)⟩
  · obtain ⟨q, hq, rfl⟩ := xper hn a
    obtain ⟨d, h4, h1, ed⟩ := aDr_nI (sh s 0 q)
    refine ⟨fun z => absurd z (by decide), fun _ => ⟨rfl, c0_drinkOf q hC.1 hq hn ⟨fun _ => ⟨xin6 hq hn, ?_⟩, fun z => absurd (by rw [ed]; exact nI_lt (a := 0) (by omega) (by omega)) z⟩⟩⟩
    refine ⟨by rw [ed]; exact nI_ne0 (by omega) (by omega), trivial, ?_⟩
    rw [xcl hq hn, hC.1.a3 hq]
    refine xgo [] 100 ⟨rfl, c3_isPerson (nI q) hn hM.1 (fun _ => ⟨fun z => absurd z (by decide), fun _ => ⟨rfl, c3_of q 3 ⟨xof_in (by omega) (by omega), rfl, c3_of q 0 ⟨xof_in (by omega) (by omega), ?_⟩⟩⟩⟩) (fun z => absurd a z)⟩
    rw [hM.1.v hq hn 0 (by omega), hM.1.v hq hn 3 (by omega)]
    refine ⟨rfl, c3_drinksBy _ ⟨?_, trivial, hk _ M s hC hM hV⟩⟩
    show aDr (sh s 0 q) ≠ 0
    rw [ed]; exact nI_ne0 (by omega) (by omega)
  · refine ⟨fun _ => ⟨rfl, c2_refused 1 (by omega) (by omega) hC (fun M1 I1 F1 => ⟨trivial, ?_⟩)⟩, fun z => absurd rfl z⟩
    exact xgo [] 100 ⟨rfl, c3_isPerson p hn (hM.fc F1).1 (fun z => absurd z a) (fun _ => ⟨fun _ => ⟨rfl, c3_no 1 (by omega) (by omega) (hM.fc F1) (fun M2 I2 F2 => ⟨trivial, hk _ M2 _ (I1.fm F2) I2 hV⟩)⟩, fun z => absurd rfl z⟩)⟩
