/-! ===== friends, the richest ===== -/
def aFo (n : Nat) (h : xh) : Nat → Int32
  | 0 => 0
  | k + 1 => if aFr h k ≠ k ∧ aFr h k < n then aFo n h k ||| 1 <<< (nI (aFr h k) &&& 31) else aFo n h k
def aMt (n : Nat) (h : xh) : Nat → Int32
  | 0 => 0
  | k + 1 => if (k < aFr h k ∧ aFr h k < n) ∧ h 4 (aFr h k) = nI k then aMt n h k + 1 else aMt n h k
section XCA
variable {M : xM} {s : xS} {R : xR}
theorem l2_friendsOfOthers (hV : xIv s) (hC : xIc M s) (hk : R (some (xi (aFo (sn s) (sh s) (sn s)))) M) : ∀ d k (x3 : Option xV), k + d = sn s → xWP pg_X2_friendsOfOthers 4 ([some (xo (xN 0)), some (xi (aFo (sn s) (sh s) k)), some (xi (nI k)), x3], [], M) R := by
  have hn := hV.1.1.1
  intro d
  induction d with
  | zero =>
    intro k x3 hkd
    have : k = sn s := by omega
    subst this
    exact xgo [] 100 ⟨fun _ => ⟨trivial, hk⟩, fun c => absurd (by rw [hC.1.s5]; exact nI_le (Nat.le_refl _) (by omega)) c⟩
  | succ d ih =>
    intro k x3 hkd
    have hp : k < sn s := by omega
    have nxt : ∀ a x3, aFo (sn s) (sh s) (k + 1) = a → xWP pg_X2_friendsOfOthers 47 ([some (xo (xN 0)), some (xi a), some (xi (nI k)), x3], [], M) R := by
      intro a x3 e
      refine xgo [4] 100 ?_
      show xWP pg_X2_friendsOfOthers 4 ([some (xo (xN 0)), some (xi a), some (xi (nI k + 1)), x3], [], M) R
      rw [nI_1, ← e]
      exact ih (k + 1) x3 (by omega)
    have hf := (hV.1.1.ok.2 k hp)
    refine xgo [47] 100 ⟨fun c => absurd c (by rw [hC.1.s5]; exact nI_ge hp (by omega)), fun _ => ⟨xin6 hp hn, ?_⟩⟩
    rw [xcl hp hn, hC.1.a4 hp, hf.1]
    refine ⟨fun c => nxt _ _ (if_neg (fun z => z.1 ((nI_eq (by omega) (by omega)).mp c))), fun c => ⟨rfl, c0_isThere _ hC.1 (fun a => ⟨fun z => absurd z (by decide), fun _ => nxt _ _ (if_pos ⟨fun z => c (by rw [z]), (nI_ltI (by omega) (by omega)).mp a.2⟩)⟩) (fun a => ⟨fun _ => nxt _ _ (if_neg (fun z => a ⟨nI_le (a := 0) (by omega) (by omega), nI_lt z.2 (by omega)⟩)), fun z => absurd rfl z⟩)⟩⟩
theorem l2_mutualTwos (hV : xIv s) (hC : xIc M s) (hk : R (some (xi (aMt (sn s) (sh s) (sn s)))) M) : ∀ d k (x3 : Option xV), k + d = sn s → xWP pg_X2_mutualTwos 4 ([some (xo (xN 0)), some (xi (aMt (sn s) (sh s) k)), some (xi (nI k)), x3], [], M) R := by
  have hn := hV.1.1.1
  intro d
  induction d with
  | zero =>
    intro k x3 hkd
    have : k = sn s := by omega
    subst this
    exact xgo [] 100 ⟨fun _ => ⟨trivial, hk⟩, fun c => absurd (by rw [hC.1.s5]; exact nI_le (Nat.le_refl _) (by omega)) c⟩
  | succ d ih =>
    intro k x3 hkd
    have hp : k < sn s := by omega
    have nxt : ∀ a x3, aMt (sn s) (sh s) (k + 1) = a → xWP pg_X2_mutualTwos 57 ([some (xo (xN 0)), some (xi a), some (xi (nI k)), x3], [], M) R := by
      intro a x3 e
      refine xgo [4] 100 ?_
      show xWP pg_X2_mutualTwos 4 ([some (xo (xN 0)), some (xi a), some (xi (nI k + 1)), x3], [], M) R
      rw [nI_1, ← e]
      exact ih (k + 1) x3 (by omega)
    have hf := (hV.1.1.ok.2 k hp)
    refine xgo [57] 100 ⟨fun c => absurd c (by rw [hC.1.s5]; exact nI_ge hp (by omega)), fun _ => ⟨xin6 hp hn, ?_⟩⟩
    rw [xcl hp hn, hC.1.a4 hp, hf.1]
    refine ⟨fun c => nxt _ _ (if_neg (fun z => absurd (nI_le_of c) (by omega))), fun c => ⟨rfl, c0_isThere _ hC.1 (fun a => ⟨fun z => absurd z (by decide), fun _ => ?_⟩) (fun a => ⟨fun _ => nxt _ _ (if_neg (fun z => a ⟨nI_le (a := 0) (by omega) (by omega), nI_lt z.1.2 (by omega)⟩)), fun z => absurd rfl z⟩)⟩⟩
    have hfn : aFr (sh s) k < sn s := (nI_ltI (by omega) (by omega)).mp a.2
    refine ⟨xin6 hfn hn, ?_⟩
    rw [xcl hfn hn, hC.1.a4 hfn]
    refine ⟨fun c' => nxt _ _ (if_pos ⟨⟨?_, hfn⟩, c'⟩), fun c' => nxt _ _ (if_neg (fun z => c' z.2))⟩
    exact Nat.lt_of_not_le (fun z => c (nI_le z (by omega)))
theorem l3_carries (w : Int32) (hV : xIv s) (hM : xIm M s) (hk : R (some (xi (if w = 0 then aFo (sn s) (sh s) (sn s) else aMt (sn s) (sh s) (sn s)))) M) : ∀ d k (x5 : Option xV), k + d = sn s → xWP pg_X3_carries 23 ([some (xo (xN 2)), some (xi w), some (xi (aFo (sn s) (sh s) k)), some (xi (aMt (sn s) (sh s) k)), some (xi (nI k)), x5], [], M) R := by
  have hn := hV.1.1.1
  intro d
  induction d with
  | zero =>
    intro k x5 hkd
    have : k = sn s := by omega
    subst this
    refine xgo [] 100 ⟨xin47 (k := 0) (by omega), ?_⟩
    rw [hM.1.g0]
    refine ⟨fun _ => ⟨fun c => ⟨trivial, ?_⟩, fun c => ⟨trivial, ?_⟩⟩, fun c => absurd (nI_le (Nat.le_refl _) (by omega)) c⟩
    · rw [if_pos c] at hk; exact hk
    · rw [if_neg c] at hk; exact hk
  | succ d ih =>
    intro k x5 hkd
    have hp : k < sn s := by omega
    have nxt : ∀ a b x5, aFo (sn s) (sh s) (k + 1) = a → aMt (sn s) (sh s) (k + 1) = b → xWP pg_X3_carries 108 ([some (xo (xN 2)), some (xi w), some (xi a), some (xi b), some (xi (nI k)), x5], [], M) R := by
      intro a b x5 e e'
      refine xgo [23] 100 ?_
      show xWP pg_X3_carries 23 ([some (xo (xN 2)), some (xi w), some (xi a), some (xi b), some (xi (nI k + 1)), x5], [], M) R
      rw [nI_1, ← e, ← e']
      exact ih (k + 1) x5 (by omega)
    have hf := (hV.1.1.ok.2 k hp)
    refine xgo [108] 100 ⟨xin47 (k := 0) (by omega), ?_⟩
    rw [hM.1.g0]
    refine ⟨fun c => absurd c (nI_ge hp (by omega)), fun _ => ⟨rfl, c3_of k 6 ⟨xof_in (by omega) (by omega), ?_⟩⟩⟩
    rw [hM.1.v hp hn 6 (by omega)]
    show xit [108] pg_X3_carries R 88 46 ([some (xo (xN 2)), some (xi w), some (xi (aFo (sn s) (sh s) k)), some (xi (aMt (sn s) (sh s) k)), some (xi (nI k)), x5], [xi (sh s 4 k)], M)
    rw [hf.1]
    refine ⟨fun c => ?_, fun c => ⟨xin47 (k := 0) (by omega), ?_⟩⟩
    · have e := (nI_eq (by omega) (by omega)).mp c
      exact nxt _ _ _ (if_neg (fun z => z.1 e)) (if_neg (fun z => absurd z.1.1 (by omega)))
    rw [hM.1.g0]
    refine ⟨fun c' => ?_, fun c' => nxt _ _ _ (if_neg (fun z => c' (nI_lt z.2 (by omega)))) (if_neg (fun z => c' (nI_lt z.1.2 (by omega))))⟩
    have hfn : aFr (sh s) k < sn s := (nI_ltI (by omega) (by omega)).mp c'
    have hne : aFr (sh s) k ≠ k := fun z => c (by rw [z])
    refine ⟨fun c2 => nxt _ _ _ (if_pos ⟨hne, hfn⟩) ((if_neg (fun z => absurd (nI_le_of c2) (by omega))).trans (Int32.add_zero _).symm), fun c2 => ⟨rfl, c3_of (aFr (sh s) k) 6 ⟨xof_in (by omega) (by omega), ?_⟩⟩⟩
    rw [hM.1.v hfn hn 6 (by omega)]
    refine ⟨fun c3 => nxt _ _ _ (if_pos ⟨hne, hfn⟩) (if_pos ⟨⟨Nat.lt_of_not_le (fun z => c2 (nI_le z (by omega))), hfn⟩, c3⟩), fun c3 => nxt _ _ _ (if_pos ⟨hne, hfn⟩) ((if_neg (fun z => c3 z.2)).trans (Int32.add_zero _).symm)⟩
end XCA
theorem j_carries (w : Int32) : xJt pg_X2_carries pg_X3_carries [some (xo (xN 0)), some (xi w), none] [some (xo (xN 2)), some (xi w), none, none, none, none] := by
  intro M s K hC hM hV hk
  have hn := hV.1.1.1
  refine xgo [16] 100 ⟨rfl, c2_whatRefusal w 1 (fun a b => ⟨fun _ => ?_, fun z => absurd rfl z⟩) (fun a => ⟨fun z => absurd z (by decide), fun _ => ⟨rfl, c2_refused 2 (by omega) (by omega) hC (fun M1 I1 F1 => ⟨trivial, ?_⟩)⟩⟩)⟩
  · have go : xWP pg_X3_carries 0 ([some (xo (xN 2)), some (xi w), none, none, none, none], [], M) (fun v2 M2 => K (some (xi (if w = 0 then aFo (sn s) (sh s) (sn s) else aMt (sn s) (sh s) (sn s)))) v2 M2) := by
      refine xgo [23] 100 ⟨rfl, c3_isIn w 0 1 (fun _ => ⟨fun z => absurd z (by decide), fun _ => ?_⟩) (fun z => absurd ⟨a, b⟩ z)⟩
      exact l3_carries w hV hM (hk _ M s hC hM hV) (sn s) 0 none (by omega)
    show xWP pg_X2_carries 16 ([some (xo (xN 0)), some (xi w), some (xi 0)], [], M) _
    refine xgo [] 100 ⟨fun c => ⟨rfl, ?_⟩, fun c => ⟨rfl, ?_⟩⟩
    · rw [if_pos c] at go
      exact xgo [4] 100 (l2_friendsOfOthers hV hC ⟨trivial, go⟩ (sn s) 0 none (by omega))
    · rw [if_neg c] at go
      exact xgo [4] 100 (l2_mutualTwos hV hC ⟨trivial, go⟩ (sn s) 0 none (by omega))
  · exact xgo [] 100 ⟨rfl, c3_isIn w 0 1 (fun z => absurd z a) (fun _ => ⟨fun _ => ⟨rfl, c3_no 2 (by omega) (by omega) (hM.fc F1) (fun M2 I2 F2 => ⟨trivial, hk _ M2 _ (I1.fm F2) I2 hV⟩)⟩, fun z => absurd rfl z⟩)⟩
/-! the richest -/
def aRi (v : Nat → Int32) : Nat → Nat
  | 0 => 0
  | k + 1 => if k = 0 ∨ v (aRi v k) < v k then k else aRi v k
def aRf (v : Nat → Int32) (k : Nat) : Int32 := if k = 0 then -9 else nI (aRi v k)
def aRv (v : Nat → Int32) (k : Nat) : Int32 := if k = 0 then 0 else v (aRi v k)
theorem aRi_lt (v : Nat → Int32) : ∀ k, 0 < k → aRi v k < k
  | 0, h => absurd h (by omega)
  | k + 1, _ => by
    unfold aRi
    split
    · omega
    · by_cases e : k = 0
      · subst e; simp [aRi]
      · have := aRi_lt v k (by omega); omega
theorem aRf_s (v : Nat → Int32) (k : Nat) : aRf v (k + 1) = nI (aRi v (k + 1)) := if_neg (by omega)
theorem aRv_s (v : Nat → Int32) (k : Nat) : aRv v (k + 1) = v (aRi v (k + 1)) := if_neg (by omega)
def aRk (h : xh) (w : Nat) (p : Nat) : Int32 := if w = 0 then h 3 p else if w = 1 then - h 3 p else aSH (h 0 p) (h 1 p)
section XRI
variable {M : xM} {s : xS} {R : xR}
theorem c2_rank (p w : Nat) (hp : p < sn s) (hw : w ≤ 2) (hV : xIv s) (hC : xIc M s) (hk : R (some (xi (aRk (sh s) w p))) M) : xWP pg_X2_rank 0 ([some (xo (xN 0)), some (xi (nI p)), some (xi (nI w))], [], M) R := by
  have hn := hV.1.1.1
  have h3 : w = 0 ∨ w = 1 ∨ w = 2 := by omega
  rcases h3 with rfl | rfl | rfl
  · refine xgo [] 100 ⟨fun _ => ⟨xin6 hp hn, trivial, ?_⟩, fun z => absurd rfl z⟩
    rw [xcl hp hn, hC.1.a3 hp]
    exact hk
  · refine xgo [] 100 ⟨fun z => absurd z (by decide), fun _ => ⟨fun _ => ⟨xin6 hp hn, trivial, ?_⟩, fun z => absurd rfl z⟩⟩
    rw [xcl hp hn, hC.1.a3 hp]
    exact hk
  · exact xgo [] 100 ⟨fun z => absurd z (by decide), fun _ => ⟨fun z => absurd z (by decide), fun _ => ⟨rfl, c0_speakingHour p hC.1 hp hn ⟨trivial, hk⟩⟩⟩⟩
theorem l2_richest (w : Nat) (hw : w ≤ 2) (hV : xIv s) (hC : xIc M s) (hk : R (some (xi (aRf (aRk (sh s) w) (sn s)))) M) : ∀ d k, k + d = sn s → xWP pg_X2_richest 22 ([some (xo (xN 0)), some (xi (nI w)), some (xi 0), some (xi (aRf (aRk (sh s) w) k)), some (xi (nI k))], [], M) R := by
  have hn := hV.1.1.1
  intro d
  induction d with
  | zero =>
    intro k hkd
    have : k = sn s := by omega
    subst this
    exact xgo [] 100 ⟨fun _ => ⟨trivial, hk⟩, fun c => absurd (by rw [hC.1.s5]; exact nI_le (Nat.le_refl _) (by omega)) c⟩
  | succ d ih =>
    intro k hkd
    have hp : k < sn s := by omega
    have nxt : ∀ a, aRi (aRk (sh s) w) (k + 1) = a → xWP pg_X2_richest 59 ([some (xo (xN 0)), some (xi (nI w)), some (xi 0), some (xi (nI a)), some (xi (nI k))], [], M) R := by
      intro a e
      refine xgo [22] 100 ?_
      show xWP pg_X2_richest 22 ([some (xo (xN 0)), some (xi (nI w)), some (xi 0), some (xi (nI a)), some (xi (nI k + 1))], [], M) R
      rw [nI_1, ← e, ← aRf_s]
      exact ih (k + 1) (by omega)
    refine xgo [59] 100 ⟨fun c => absurd c (by rw [hC.1.s5]; exact nI_ge hp (by omega)), fun _ => ?_⟩
    by_cases e : k = 0
    · subst e
      exact ⟨fun _ => nxt 0 rfl, fun z => absurd rfl z⟩
    · have hlt := aRi_lt (aRk (sh s) w) k (by omega)
      have ef : aRf (aRk (sh s) w) k = nI (aRi (aRk (sh s) w) k) := if_neg e
      rw [ef]
      refine ⟨fun z => absurd (show nI (aRi (aRk (sh s) w) k) = -9 from z) (fun z => nI_64 (aRi (aRk (sh s) w) k) (by omega) (by rw [z]; decide)), fun _ => ⟨rfl, c2_rank k w hp hw hV hC ⟨rfl, c2_rank _ w (by omega) hw hV hC ⟨fun c => nxt _ (if_neg (fun z => z.elim e (fun z => absurd z (Int32.not_lt.mpr c)))), fun c => nxt _ (if_pos (Or.inr (Int32.not_le.mp c)))⟩⟩⟩⟩
theorem l3_extreme (sg bs : Int32) (v : Nat → Int32) (hv : (bs = 0 ∧ ∀ p, v p = sg * sh s 3 p) ∨ (bs = 1 ∧ ∀ p, v p = aSH (sh s 0 p) (sh s 1 p))) (hV : xIv s) (hM : xIm M s) (hk : R (some (xi (aRf v (sn s)))) M) : ∀ d k (x6 : Option xV), k + d = sn s → xWP pg_X3_extreme 9 ([some (xo (xN 2)), some (xi sg), some (xi bs), some (xi (aRf v k)), some (xi (aRv v k)), some (xi (nI k)), x6], [], M) R := by
  have hn := hV.1.1.1
  intro d
  induction d with
  | zero =>
    intro k x6 hkd
    have : k = sn s := by omega
    subst this
    refine xgo [] 100 ⟨xin47 (k := 0) (by omega), ?_⟩
    rw [hM.1.g0]
    exact ⟨fun _ => ⟨trivial, hk⟩, fun c => absurd (nI_le (Nat.le_refl _) (by omega)) c⟩
  | succ d ih =>
    intro k x6 hkd
    have hp : k < sn s := by omega
    have nxt : ∀ a x6, aRi v (k + 1) = a → xWP pg_X3_extreme 72 ([some (xo (xN 2)), some (xi sg), some (xi bs), some (xi (nI a)), some (xi (v a)), some (xi (nI k)), x6], [], M) R := by
      intro a x6 e
      refine xgo [9] 100 ?_
      show xWP pg_X3_extreme 9 ([some (xo (xN 2)), some (xi sg), some (xi bs), some (xi (nI a)), some (xi (v a)), some (xi (nI k + 1)), x6], [], M) R
      rw [nI_1, ← e, ← aRf_s, ← aRv_s v]
      exact ih (k + 1) x6 (by omega)
    have mid : xWP pg_X3_extreme 51 ([some (xo (xN 2)), some (xi sg), some (xi bs), some (xi (aRf v k)), some (xi (aRv v k)), some (xi (nI k)), some (xi (v k))], [], M) R := by
      by_cases e : k = 0
      · subst e
        exact xgo [72] 100 ⟨fun _ => nxt 0 _ rfl, fun z => absurd (show (-9 : Int32) < 0 by decide) z⟩
      · have hlt := aRi_lt v k (by omega)
        have ef : aRf v k = nI (aRi v k) := if_neg e
        have ev : aRv v k = v (aRi v k) := if_neg e
        rw [ef, ev]
        exact xgo [72] 100 ⟨fun z => absurd z (nI_64 _ (by omega)), fun _ => ⟨fun c => nxt k _ (if_pos (Or.inr c)), fun c => nxt _ _ (if_neg (fun z => z.elim e c))⟩⟩
    refine xgo [51] 100 ⟨xin47 (k := 0) (by omega), ?_⟩
    rw [hM.1.g0]
    refine ⟨fun c => absurd c (nI_ge hp (by omega)), fun _ => ?_⟩
    rcases hv with ⟨rfl, hv⟩ | ⟨rfl, hv⟩
    · refine ⟨fun _ => ⟨rfl, c3_of k 3 ⟨xof_in (by omega) (by omega), ?_⟩⟩, fun z => absurd rfl z⟩
      rw [hM.1.v hp hn 3 (by omega)]
      rw [hv k] at mid
      exact mid
    · refine ⟨fun z => absurd z (by decide), fun _ => ⟨rfl, c3_speaksIn k hM.1 hp hn ?_⟩⟩
      rw [if_neg (by rw [hV.1.2.2.2]; exact xbt_0 k (by omega))]
      rw [hv k] at mid
      exact mid
end XRI
theorem j_richest (w : Int32) : xJt pg_X2_richest pg_X3_richest [some (xo (xN 0)), some (xi w), none, none, none] [some (xo (xN 2)), some (xi w)] := by
  intro M s K hC hM hV hk
  have hn := hV.1.1.1
  refine xgo [22] 100 ⟨rfl, c2_whatRefusal w 2 (fun a b => ⟨fun _ => ?_, fun z => absurd rfl z⟩) (fun a => ⟨fun z => absurd z (by decide), fun _ => ⟨rfl, c2_refused 2 (by omega) (by omega) hC (fun M1 I1 F1 => ⟨trivial, ?_⟩)⟩⟩)⟩
  · obtain ⟨u, hu', rfl⟩ := xrng (b := 2) (by omega) a b
    refine l2_richest u hu' hV hC ?_ (sn s) 0 (by omega)
    have h3 : u = 0 ∨ u = 1 ∨ u = 2 := by omega
    rcases h3 with rfl | rfl | rfl
    · refine xgo [] 100 ⟨fun _ => ⟨rfl, ?_⟩, fun z => absurd rfl z⟩
      exact xgo [9] 100 (l3_extreme 1 0 (aRk (sh s) 0) (Or.inl ⟨rfl, fun p => (Int32.one_mul _).symm⟩) hV hM ⟨trivial, hk _ M s hC hM hV⟩ (sn s) 0 none (by omega))
    · refine xgo [] 100 ⟨fun z => absurd z (by decide), fun _ => ⟨fun _ => ⟨rfl, ?_⟩, fun z => absurd rfl z⟩⟩
      exact xgo [9] 100 (l3_extreme (-1) 0 (aRk (sh s) 1) (Or.inl ⟨rfl, fun p => by rw [Int32.neg_mul, Int32.one_mul]; rfl⟩) hV hM ⟨trivial, hk _ M s hC hM hV⟩ (sn s) 0 none (by omega))
    · refine xgo [] 100 ⟨fun z => absurd z (by decide), fun _ => ⟨fun z => absurd z (by decide), fun _ => ⟨fun _ => ⟨rfl, ?_⟩, fun z => absurd rfl z⟩⟩⟩
      exact xgo [9] 100 (l3_extreme 1 1 (aRk (sh s) 2) (Or.inr ⟨rfl, fun p => rfl⟩) hV hM ⟨trivial, hk _ M s hC hM hV⟩ (sn s) 0 none (by omega))
  · exact xgo [] 100 ⟨fun z => absurd (by rw [z]; decide) a, fun _ => ⟨fun z => absurd (by rw [z]; decide) a, fun _ => ⟨fun z => absurd (by rw [z]; decide) a, fun _ => ⟨rfl, c3_no 2 (by omega) (by omega) (hM.fc F1) (fun M2 I2 F2 => ⟨trivial, hk _ M2 _ (I1.fm F2) I2 hV⟩)⟩⟩⟩⟩
