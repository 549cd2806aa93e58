/-! ===== wide numbers: powers, the greatest divisor ===== -/
theorem lT {m : Nat} (h : m < 2 ^ 62) : (lN m).toInt = (m : Int) := by
  exact lg_ofNat_toInt (by omega)
theorem lN_z {m : Nat} (h : m < 2 ^ 62) : lN m = 0 ↔ m = 0 := by
  constructor
  · intro e
    have := lT h
    rw [e] at this
    have h0 : (0 : Int64).toInt = 0 := rfl
    omega
  · intro e; subst e; rfl
theorem lN_md {a b : Nat} (ha : a < 2 ^ 62) (hb : b < 2 ^ 62) (h0 : 0 < b) : lN a - lN a / lN b * lN b = lN (a % b) := by
  have hm : a % b < b := Nat.mod_lt _ h0
  apply Int64.toInt_inj.mp
  rw [Jvm.Kit.i64_rem_nonneg (by rw [lT ha]; omega), lT ha, lT hb, lT (by omega)]
  exact (Int.natCast_emod a b).symm
theorem lN_dv {a b : Nat} (ha : a < 2 ^ 62) (hb : b < 2 ^ 62) : lN a / lN b = lN (a / b) := by
  have hm : a / b ≤ a := Nat.div_le_self a b
  apply Int64.toInt_inj.mp
  rw [Jvm.Kit.i64_div (by rw [lT ha]; omega), lT ha, lT hb, lT (by omega)]
  rfl
def aGc : Nat → Nat → Nat → Nat
  | 0, x, _ => x
  | f + 1, x, y => if y = 0 then x else aGc f y (x % y)
theorem gcd_st (x y : Nat) : Nat.gcd x y = Nat.gcd y (x % y) := by
  rw [Nat.gcd_comm x y, Nat.gcd_rec y x, Nat.gcd_comm]
theorem aGc_eq : ∀ k x y f, y < 2 ^ k → 2 * k + 1 ≤ f → aGc f x y = Nat.gcd x y := by
  intro k
  induction k with
  | zero =>
    intro x y f hy hf
    have : y = 0 := by omega
    subst this
    obtain ⟨f, rfl⟩ : ∃ g, f = g + 1 := ⟨f - 1, by omega⟩
    unfold aGc
    rw [if_pos rfl, Nat.gcd_zero_right]
  | succ k ih =>
    intro x y f hy hf
    obtain ⟨f, rfl⟩ : ∃ g, f = g + 1 := ⟨f - 1, by omega⟩
    unfold aGc
    by_cases e : y = 0
    · subst e; rw [if_pos rfl, Nat.gcd_zero_right]
    · rw [if_neg e, gcd_st x y]
      have hr : x % y < y := Nat.mod_lt _ (by omega)
      by_cases c : x % y < 2 ^ k
      · exact ih y (x % y) f c (by omega)
      · obtain ⟨f, rfl⟩ : ∃ g, f = g + 1 := ⟨f - 1, by omega⟩
        have h2 : 0 < 2 ^ k := Nat.two_pow_pos k
        have hp : 2 ^ (k + 1) = 2 * 2 ^ k := by rw [Nat.pow_succ]; omega
        unfold aGc
        rw [if_neg (by omega), gcd_st y (x % y)]
        refine ih (x % y) (y % (x % y)) f ?_ (by omega)
        have : y % (x % y) = y - x % y := by
          rw [Nat.mod_eq_sub_mod (by omega)]
          exact Nat.mod_eq_of_lt (by omega)
        omega
section XGC
variable {M : xM} {R : xR}
theorem l2_gcd (a b : Int64) : ∀ f k x y (x9 : Option xV), k + f = 100 → x < 2 ^ 62 → y < 2 ^ 62 → R (some (xl (lN (aGc f x y)))) M → xWP pg_X2_greatestDivisor 9 ([some (xl a), none, some (xl b), none, some (xl (lN x)), none, some (xl (lN y)), none, some (xi (nI k)), x9, none], [], M) R := by
  intro f
  induction f with
  | zero =>
    intro k x y x9 hkf hx hy hk
    have : k = 100 := by omega
    subst this
    exact xgo [] 100 ⟨fun _ => ⟨trivial, hk⟩, fun c => absurd (nI_le (a := 100) (b := 100) (by omega) (by omega)) c⟩
  | succ f ih =>
    intro k x y x9 hkf hx hy hk
    unfold aGc at hk
    refine xgo [9] 100 ⟨fun c => absurd c (nI_ge (b := 100) (by omega) (by omega)), fun _ => ⟨fun c => ⟨trivial, ?_⟩, fun c => ⟨?_, ?_⟩⟩⟩
    · have e := (lN_z hy).mp ((lg_cmp_eq _ _).mp c)
      rw [if_pos e] at hk
      exact hk
    · exact fun z => c ((lg_cmp_eq _ _).mpr z)
    · have e : y ≠ 0 := fun z => c ((lg_cmp_eq _ _).mpr ((lN_z hy).mpr z))
      rw [if_neg e] at hk
      have hm : x % y < y := Nat.mod_lt _ (by omega)
      show xWP pg_X2_greatestDivisor 9 ([some (xl a), none, some (xl b), none, some (xl (lN y)), none, some (xl (lN x - lN x / lN y * lN y)), none, some (xi (nI k + 1)), some (xl (lN x - lN x / lN y * lN y)), none], [], M) R
      rw [lN_md hx hy (by omega), nI_1]
      exact ih (k + 1) y (x % y) _ (by omega) hy (by omega) hk
theorem c2_gcd (a b : Nat) (ha : a < 2 ^ 62) (hb : b < 2 ^ 31) (hk : R (some (xl (lN (Nat.gcd a b)))) M) : xWP pg_X2_greatestDivisor 0 ([some (xl (lN a)), none, some (xl (lN b)), none, none, none, none, none, none, none, none], [], M) R := by
  rw [← aGc_eq 31 a b 100 hb (by omega)] at hk
  exact xgo [9] 100 (l2_gcd (lN a) (lN b) 100 0 a b none (by omega) ha (by omega) hk)
theorem l3_gcd (a b : Int64) : ∀ y x (x8 : Option xV), x < 2 ^ 62 → y < 2 ^ 62 → R (some (xl (lN (Nat.gcd x y)))) M → xWP pg_X3_gcd 6 ([some (xl a), none, some (xl b), none, some (xl (lN x)), none, some (xl (lN y)), none, x8, none], [], M) R := by
  intro y
  induction y using Nat.strongRecOn with
  | _ y ih =>
    intro x x8 hx hy hk
    refine xgo [6] 100 ⟨fun c => ⟨trivial, ?_⟩, fun c => ⟨?_, ?_⟩⟩
    · have e := (lN_z hy).mp ((lg_cmp_eq _ _).mp c)
      rw [e, Nat.gcd_zero_right] at hk
      exact hk
    · exact fun z => c ((lg_cmp_eq _ _).mpr z)
    · have e : y ≠ 0 := fun z => c ((lg_cmp_eq _ _).mpr ((lN_z hy).mpr z))
      have hm : x % y < y := Nat.mod_lt _ (by omega)
      rw [gcd_st x y] at hk
      show xWP pg_X3_gcd 6 ([some (xl a), none, some (xl b), none, some (xl (lN y)), none, some (xl (lN x - lN x / lN y * lN y)), none, some (xl (lN x - lN x / lN y * lN y)), none], [], M) R
      rw [lN_md hx hy (by omega)]
      exact ih (x % y) hm y _ hy (by omega) hk
theorem c3_gcd (a b : Nat) (ha : a < 2 ^ 62) (hb : b < 2 ^ 62) (hk : R (some (xl (lN (Nat.gcd a b)))) M) : xWP pg_X3_gcd 0 ([some (xl (lN a)), none, some (xl (lN b)), none, none, none, none, none, none, none], [], M) R :=
  xgo [6] 100 (l3_gcd (lN a) (lN b) b a none ha hb hk)
def aPo (a b u : Nat) : Nat := (if u = 0 then a else b) / Nat.gcd a b
theorem nI_u : ∀ u, u < 2 → (nI u = 0 ↔ u = 0) := by decide +kernel
theorem c2_partOf (a b u : Nat) (ha : a < 2 ^ 62) (hb : b < 2 ^ 31) (h0 : 0 < b) (hu' : u ≤ 1) (hk : R (some (xl (lN (aPo a b u)))) M) : xWP pg_X2_partOfFraction 0 ([some (xl (lN a)), none, some (xl (lN b)), none, some (xi (nI u)), none, none, none, none], [], M) R := by
  have hg : 0 < Nat.gcd a b := Nat.gcd_pos_of_pos_right a h0
  have hgb : Nat.gcd a b ≤ b := Nat.gcd_le_right a h0
  have gt : 0 < lg_cmp (lN (Nat.gcd a b)) 0 := by
    rw [lg_cmp_gt, Int64.lt_iff_toInt_lt, lT (by omega)]
    show (0 : Int) < _
    omega
  have ne : ¬ lN (Nat.gcd a b) = 0 := fun z => absurd ((lN_z (by omega)).mp z) (by omega)
  refine xgo [] 100 ⟨rfl, c2_gcd a b ha hb ⟨fun c => ?_, fun c => ?_⟩⟩
  · refine ⟨fun _ => ⟨ne, trivial, ?_⟩, fun z => absurd gt z⟩
    rw [lN_dv ha (by omega)]
    unfold aPo at hk
    rw [if_pos ((nI_u u (by omega)).mp c)] at hk
    exact hk
  · refine ⟨fun _ => ⟨ne, trivial, ?_⟩, fun z => absurd gt z⟩
    rw [lN_dv (by omega) (by omega)]
    unfold aPo at hk
    rw [if_neg (fun z => c ((nI_u u (by omega)).mpr z))] at hk
    exact hk
theorem c3_partOf (a b u : Nat) (ha : a < 2 ^ 62) (hb : b < 2 ^ 31) (hu' : u ≤ 1) (hk : R (some (xl (lN (if a = 0 then u else aPo a b u)))) M) : xWP pg_X3_partOf 0 ([some (xl (lN a)), none, some (xl (lN b)), none, some (xi (nI u))], [], M) R := by
  refine xgo [] 100 ⟨fun c => ⟨trivial, ?_⟩, fun c => ?_⟩
  · have e := (lN_z ha).mp ((lg_cmp_eq _ _).mp c)
    rw [if_pos e] at hk
    rw [nI_l (by omega)]
    exact hk
  · have e : a ≠ 0 := fun z => c ((lg_cmp_eq _ _).mpr ((lN_z ha).mpr z))
    rw [if_neg e] at hk
    have hg : 0 < Nat.gcd a b := Nat.gcd_pos_of_pos_left b (by omega)
    have hga : Nat.gcd a b ≤ a := Nat.gcd_le_left b (by omega)
    have ne : ¬ lN (Nat.gcd a b) = 0 := fun z => absurd ((lN_z (by omega)).mp z) (by omega)
    unfold aPo at hk
    refine ⟨fun c' => ⟨rfl, c3_gcd a b ha (by omega) ⟨ne, trivial, ?_⟩⟩, fun c' => ⟨rfl, c3_gcd a b ha (by omega) ⟨ne, trivial, ?_⟩⟩⟩
    · rw [lN_dv ha (by omega)]
      rw [if_pos ((nI_u u (by omega)).mp c')] at hk
      exact hk
    · rw [lN_dv (by omega) (by omega)]
      rw [if_neg (fun z => c' ((nI_u u (by omega)).mpr z))] at hk
      exact hk
theorem aPo_0 (b u : Nat) (h0 : 0 < b) (hu' : u ≤ 1) : aPo 0 b u = u := by
  unfold aPo
  rw [Nat.gcd_zero_left]
  by_cases e : u = 0
  · rw [if_pos e, e, Nat.zero_div]
  · rw [if_neg e, Nat.div_self h0]; omega
theorem l2_power (b e : Nat) (hb : b < 2 ^ 31) (he : e ≤ 100) (hk : R (some (xl (lN (b ^ e)))) M) : ∀ d k, k + d = e → xWP pg_X2_power 5 ([some (xi (nI b)), some (xi (nI e)), some (xl (lN (b ^ k))), none, some (xi (nI k))], [], M) R := by
  intro d
  induction d with
  | zero =>
    intro k hkd
    have : k = e := by omega
    subst this
    exact xgo [] 100 ⟨fun _ => ⟨trivial, hk⟩, fun c => absurd (nI_le (Nat.le_refl _) (by omega)) c⟩
  | succ d ih =>
    intro k hkd
    refine xgo [5] 100 ⟨fun c => absurd c (nI_ge (by omega) (by omega)), fun _ => ?_⟩
    show xWP pg_X2_power 5 ([some (xi (nI b)), some (xi (nI e)), some (xl (lN (b ^ k) * (nI b).toInt64)), none, some (xi (nI k + 1))], [], M) R
    rw [nI_1, nI_l hb, lN_mul, ← Nat.pow_succ]
    exact ih (k + 1) (by omega)
theorem c2_power (b e : Nat) (hb : b < 2 ^ 31) (he : e ≤ 100) (hk : R (some (xl (lN (b ^ e)))) M) : xWP pg_X2_power 0 ([some (xi (nI b)), some (xi (nI e)), none, none, none], [], M) R :=
  xgo [5] 100 (l2_power b e hb he hk e 0 (by omega))
theorem c2_refusedLong {s : xS} (k : Nat) (h1 : 1 ≤ k) (h6 : k ≤ 6) (hI : xIc M s) (hk : ∀ M', xIc M' (sRf s k) → xFc M M' → R (some (xl (4000000000000000000 - (-(nI k)).toInt64))) M') : xWP pg_X2_refusedLong 0 ([some (xo (xN 0)), some (xi (-(nI k)))], [], M) R :=
  xgo [] 100 ⟨rfl, c2_refused k h1 h6 hI (fun M1 I1 F1 => ⟨trivial, hk M1 I1 F1⟩)⟩
theorem c3_noWide {s : xS} (k : Nat) (h1 : 1 ≤ k) (h6 : k ≤ 6) (hI : xIm M s) (hk : ∀ M', xIm M' (sRf s k) → xFm M M' → R (some (xl (4000000000000000000 - (-(nI k)).toInt64))) M') : xWP pg_X3_noWide 0 ([some (xo (xN 2)), some (xi (-(nI k)))], [], M) R :=
  xgo [] 100 ⟨rfl, c3_no k h1 h6 hI (fun M1 I1 F1 => ⟨trivial, hk M1 I1 F1⟩)⟩
end XGC
theorem aAll_n {n : Nat} {h : xh} (hB : aBd n h) : ∀ k, k ≤ n → ∃ c, c ≤ 99 * k ∧ aAll h k = nI c
  | 0, _ => ⟨0, by omega, rfl⟩
  | k + 1, hk => by
    obtain ⟨c, hc, e⟩ := aAll_n hB k (by omega)
    obtain ⟨a, ha, ea⟩ := (hB.2.2.2 k (by omega)).2.1
    refine ⟨c + a, by omega, ?_⟩
    show aAll h k + h 3 k = nI (c + a)
    rw [e, ea, nI_add]
theorem mx_eq : ∀ n, n < 7 → (if (1 : Int32) < nI n then nI n else 1) = nI (max 1 n) := by decide +kernel
theorem j_mean (w : Int32) : xJl pg_X2_mean pg_X3_mean [some (xo (xN 0)), some (xi w), none] [some (xo (xN 2)), some (xi w)] := by
  intro M s K hC hM hV hk
  have hn := hV.1.1.1
  refine xgo [16] 100 ⟨rfl, c2_whatRefusal w 1 (fun a b => ⟨fun _ => ?_, fun z => absurd rfl z⟩) (fun a => ⟨fun z => absurd z (by decide), fun _ => ⟨rfl, c2_refusedLong 2 (by omega) (by omega) hC (fun M1 I1 F1 => ⟨trivial, ?_⟩)⟩⟩)⟩
  · obtain ⟨u, hu', rfl⟩ := xrng (b := 1) (by omega) a b
    obtain ⟨c, hc, ec⟩ := aAll_n hV.1.1 (sn s) (Nat.le_refl _)
    have emx := mx_eq (sn s) (by omega)
    show xWP pg_X2_mean 16 ([some (xo (xN 0)), some (xi (nI u)), some (xi 0)], [], M) _
    refine xgo [36] 100 ⟨rfl, c0_together hn hC.1 ?_⟩
    show xWP pg_X2_mean 36 ([some (xo (xN 0)), some (xi (nI u)), some (xi 0)], [xl (if (1 : Int32) < M (xH 0) 5 then M (xH 0) 5 else 1).toInt64, xl (aAll (sh s) (sn s)).toInt64], M) _
    rw [hC.1.s5, emx, ec, nI_l (by omega), nI_l (by omega)]
    refine xgo [] 100 ⟨rfl, c2_partOf c (max 1 (sn s)) u (by omega) (by omega) (by omega) hu' ⟨trivial, ?_⟩⟩
    refine xgo [24] 100 ⟨rfl, c3_isIn (nI u) 0 1 (fun _ => ⟨fun z => absurd z (by decide), fun _ => ⟨rfl, c3_allHave hn hM.1 ⟨xin47 (k := 0) (by omega), ?_⟩⟩⟩) (fun z => absurd ⟨a, b⟩ z)⟩
    rw [hM.1.g0]
    show xWP pg_X3_mean 24 ([some (xo (xN 2)), some (xi (nI u))], [xl (nI (sn s)).toInt64, xl (aAll (sh s) (sn s)).toInt64], M) _
    rw [ec, nI_l (by omega), nI_l (by omega)]
    refine xgo [] 100 ⟨rfl, c3_partOf c (sn s) u (by omega) (by omega) hu' ⟨trivial, ?_⟩⟩
    have e : (if c = 0 then u else aPo c (sn s) u) = aPo c (max 1 (sn s)) u := by
      by_cases e0 : c = 0
      · rw [if_pos e0, e0, aPo_0 _ u (by omega) hu']
      · rw [if_neg e0]
        have : max 1 (sn s) = sn s := by
          by_cases e1 : sn s = 0
          · rw [e1] at hc; omega
          · omega
        rw [this]
    rw [e]
    exact hk _ M s hC hM hV
  · exact xgo [] 100 ⟨rfl, c3_isIn w 0 1 (fun z => absurd z a) (fun _ => ⟨fun _ => ⟨rfl, c3_noWide 2 (by omega) (by omega) (hM.fc F1) (fun M2 I2 F2 => ⟨trivial, hk _ M2 _ (I1.fm F2) I2 hV⟩)⟩, fun z => absurd rfl z⟩)⟩
