/-! ===== an hour of the model's ===== -/
def aSz (t z : Int32) (h : xh) (s : Int32) : Nat → Int32
  | 0 => s
  | p + 1 => if (¬ xbt (h 5 11) p ∧ aSH (h 0 p) (h 1 p) = t) ∨ xbt z p then aSz t z h s p ||| 1 <<< (nI p &&& 31) else aSz t z h s p
def aZok (n : Nat) (z : Int32) : Prop := z = 0 ∨ ∃ q, q < n ∧ z = 1 <<< (nI q &&& 31)
theorem ior_c (a b c : Int32) : (a ||| b) ||| c = (a ||| c) ||| b := b_ext (fun i hi => by
  rw [b_or, b_or, b_or, b_or]
  cases bt a i <;> cases bt b i <;> cases bt c i <;> rfl)
theorem ior_s (a b : Int32) : (a ||| b) ||| b = a ||| b := b_ext (fun i hi => by
  rw [b_or, b_or]
  cases bt a i <;> cases bt b i <;> rfl)
theorem ior_0 (a : Int32) : a ||| 0 = a := b_ext (fun i hi => by rw [b_or, b_0]; simp)
theorem aSay_congr (t : Int32) {h h' : xh} (s : Int32) (e : h' 5 11 = h 5 11) (e0 : h' 0 = h 0) (e1 : h' 1 = h 1) : ∀ k, aSay t h' s k = aSay t h s k
  | 0 => rfl
  | k + 1 => by
    unfold aSay
    rw [e, e0, e1, aSay_congr t s e e0 e1 k]
theorem aSz_0 (t : Int32) (h : xh) (s : Int32) : ∀ k, k ≤ 32 → aSz t 0 h s k = aSay t h s k
  | 0, _ => rfl
  | k + 1, hk => by
    unfold aSz aSay
    rw [aSz_0 t h s k (by omega)]
    by_cases c : ¬ xbt (h 5 11) k ∧ aSH (h 0 k) (h 1 k) = t
    · rw [if_pos c, if_pos (Or.inl c)]
    · rw [if_neg c, if_neg (fun q => q.elim c (xbt_0 k (by omega)))]
theorem aSz_1 (t : Int32) (h : xh) (s : Int32) (q : Nat) (hq : q < 32) : ∀ k, k ≤ 32 → aSay t h (s ||| 1 <<< (nI q &&& 31)) k = aSz t (1 <<< (nI q &&& 31)) h s k ||| 1 <<< (nI q &&& 31)
  | 0, _ => rfl
  | k + 1, hk => by
    unfold aSz aSay
    rw [aSz_1 t h s q hq k (by omega)]
    by_cases c : ¬ xbt (h 5 11) k ∧ aSH (h 0 k) (h 1 k) = t
    · rw [if_pos c, if_pos (Or.inl c), ior_c]
    · rw [if_neg c]
      by_cases c2 : k = q
      · subst c2
        rw [if_pos (Or.inr ((xbt_1 hq (by omega)).mpr rfl)), ior_s]
      · rw [if_neg (fun z => z.elim c (fun z => c2 ((xbt_1 hq (by omega)).mp z)))]
theorem aSz_2 (t : Int32) (h : xh) (s : Int32) (q : Nat) (hq : q < 32) : ∀ k, k ≤ 32 → q < k → aSz t (1 <<< (nI q &&& 31)) h s k ||| 1 <<< (nI q &&& 31) = aSz t (1 <<< (nI q &&& 31)) h s k
  | 0, _, hk => by omega
  | k + 1, hk, hqk => by
    unfold aSz
    by_cases c2 : k = q
    · subst c2
      rw [if_pos (Or.inr ((xbt_1 hq (by omega)).mpr rfl)), ior_s]
    · have ih := aSz_2 t h s q hq k (by omega) (by omega)
      split
      · rw [ior_c, ih]
      · exact ih
theorem aSz_eq (t : Int32) (h : xh) (s : Int32) {n : Nat} {z : Int32} (hn : n ≤ 6) (hz : aZok n z) : aSz t z h s n = aSay t h (s ||| z) n := by
  rcases hz with rfl | ⟨q, hq, rfl⟩
  · rw [aSz_0 t h s n (by omega), ior_0]
  · rw [aSz_1 t h s q (by omega) n (by omega), aSz_2 t h s q (by omega) n (by omega) hq]
theorem aH3_eq (h : xh) {n : Nat} {z : Int32} (hn : n ≤ 6) (hz : aZok n z) : aH3 n h z = hu (aH1 h) 5 9 (aSz (aT h) z (aH1 h) (aH1 h 5 9) n) := by
  unfold aH3
  have e : aH2 h z 5 9 = aH1 h 5 9 ||| z := by
    unfold aH2
    rw [hu_s, upd_s]
  rw [e, aSz_eq _ _ _ hn hz, aSay_congr (aT h) (h := aH1 h) (h' := aH2 h z) (aH1 h 5 9 ||| z) (by unfold aH2; rw [hu_s, upd_n _ (by omega)]) (by unfold aH2; rw [hu_n (by omega)]) (by unfold aH2; rw [hu_n (by omega)]) n]
  unfold aH2
  rw [hu_hu]
def xRz (M : xM) (r : Fin 4) (n : Nat) (h : xh) (k : Nat) : Prop := (∀ j, j < 5 → M (xW r) j = aS n h j) ∧ ∀ p, p < n → ∀ w, w < 7 → M (xW r) (5 + 7 * p + w) = if p < k ∧ (w = 4 ∨ w = 5) then 0 else aV h p w
theorem xRz.m {M : xM} {r : Fin 4} {n : Nat} {h : xh} (hn : n ≤ 6) (H : xRz M r n h n) : xRm M r n (hu (hu h 5 9 0) 5 10 0) := by
  have a9 : hu (hu h 5 9 0) 5 10 0 5 9 = 0 := by rw [hu_s, upd_n _ (by omega), hu_s, upd_s]
  have a10 : hu (hu h 5 9 0) 5 10 0 5 10 = 0 := by rw [hu_s, upd_s]
  have as : ∀ k, k ≠ 9 → k ≠ 10 → hu (hu h 5 9 0) 5 10 0 5 k = h 5 k := fun k h1 h2 => by rw [hu_s, upd_n _ h2, hu_s, upd_n _ h1]
  refine ⟨fun j hj => ?_, fun p hp w hw => ?_⟩
  · rw [H.1 j hj]
    rcases xw5 hj with rfl | rfl | rfl | rfl | rfl
    · rfl
    · exact (as 8 (by omega) (by omega)).symm
    · exact (as 6 (by omega) (by omega)).symm
    · exact (as 7 (by omega) (by omega)).symm
    · exact (as 11 (by omega) (by omega)).symm
  · rw [H.2 p hp w hw]
    by_cases c : w = 4 ∨ w = 5
    · rw [if_pos ⟨hp, c⟩]
      rcases c with rfl | rfl
      · show (0 : Int32) = aFl (hu (hu h 5 9 0) 5 10 0 5 9) p
        rw [a9, aFl_0 (by omega)]
      · show (0 : Int32) = aFl (hu (hu h 5 9 0) 5 10 0 5 10) p
        rw [a10, aFl_0 (by omega)]
    · rw [if_neg (fun z => c z.2)]
      have hw' : w = 0 ∨ w = 1 ∨ w = 2 ∨ w = 3 ∨ w = 6 := by omega
      rcases hw' with rfl | rfl | rfl | rfl | rfl <;> rfl
section X3D
variable {r : Fin 4} {n : Nat} {R : xR}
theorem l3_hour1 {M0 : xM} {h : xh} (z t : Int32) (hn : n ≤ 6) (x4 : Option xV) (hk : ∀ M, xRm M r n (hu (hu h 5 9 0) 5 10 0) → xfw r M0 M → xWP pg_X3_hour 42 ([some (xo (xW r)), some (xi z), some (xi t), some (xi (nI n)), x4], [], M) R) : ∀ (d k : Nat) (M : xM), k + d = n → xRz M r n h k → xfw r M0 M → xWP pg_X3_hour 13 ([some (xo (xW r)), some (xi z), some (xi t), some (xi (nI k)), x4], [], M) R := by
  intro d
  induction d with
  | zero =>
    intro k M hkd hR hF
    have : k = n := by omega
    subst this
    have hR2 := hR.m hn
    refine xgo [42] 100 ⟨xin47 (k := 0) (by omega), ?_⟩
    rw [hR2.g0]
    exact ⟨fun c => hk M hR2 hF, fun c => absurd (nI_le (Nat.le_refl _) (by omega)) c⟩
  | succ d ih =>
    intro k M hkd hR hF
    have hkn : k < n := by omega
    refine xgo [13] 100 ⟨xin47 (k := 0) (by omega), ?_⟩
    have g0 : M (xW r) (Int32.toNatClampNeg 0) = nI n := hR.1 0 (by omega)
    rw [g0]
    refine ⟨fun c => absurd c (nI_ge hkn (by omega)), fun _ => ⟨rfl, c3_of k 4 ⟨xof_in (by omega) (by omega), rfl, c3_of k 5 ⟨xof_in (by omega) (by omega), ?_⟩⟩⟩⟩
    rw [xof_cl (by omega) (by omega), xof_cl (by omega) (by omega)]
    show xWP pg_X3_hour 13 ([some (xo (xW r)), some (xi z), some (xi t), some (xi (nI k + 1)), x4], [], xup (xup M (xW r) (5 + 7 * k + 4) 0) (xW r) (5 + 7 * k + 5) 0) R
    rw [nI_1]
    refine ih (k + 1) _ (by omega) ⟨fun j hj => ?_, fun p hp w hw => ?_⟩ ((hF.u _ _).u _ _)
    · rw [xup_s, upd_n _ (by omega), xup_s, upd_n _ (by omega)]
      exact hR.1 j hj
    · rw [xup_s]
      by_cases e5 : 5 + 7 * p + w = 5 + 7 * k + 5
      · rw [e5, upd_s, if_pos (by omega)]
      · rw [upd_n _ e5, xup_s]
        by_cases e4 : 5 + 7 * p + w = 5 + 7 * k + 4
        · rw [e4, upd_s, if_pos (by omega)]
        · rw [upd_n _ e4, hR.2 p hp w hw]
          by_cases c : p < k ∧ (w = 4 ∨ w = 5)
          · rw [if_pos c, if_pos ⟨by omega, c.2⟩]
          · rw [if_neg c, if_neg (by omega)]
theorem l3_hour2 {M0 : xM} {h : xh} (z t : Int32) (hn : n ≤ 6) (ht : t ≠ 12) (x4 : Option xV) (hk : ∀ M, xRm M r n (hu h 5 9 (aSz t z h (h 5 9) n)) → xfw r M0 M → xWP pg_X3_hour 97 ([some (xo (xW r)), some (xi z), some (xi t), some (xi (nI n)), x4], [], M) R) : ∀ (d k : Nat) (M : xM), k + d = n → xRm M r n (hu h 5 9 (aSz t z h (h 5 9) k)) → xfw r M0 M → xWP pg_X3_hour 59 ([some (xo (xW r)), some (xi z), some (xi t), some (xi (nI k)), x4], [], M) R := by
  intro d
  induction d with
  | zero =>
    intro k M hkd hR hF
    have : k = n := by omega
    subst this
    refine xgo [97] 100 ⟨xin47 (k := 0) (by omega), ?_⟩
    rw [hR.g0]
    exact ⟨fun c => hk M hR hF, fun c => absurd (nI_le (Nat.le_refl _) (by omega)) c⟩
  | succ d ih =>
    intro k M hkd hR hF
    have hkn : k < n := by omega
    have a11 : hu h 5 9 (aSz t z h (h 5 9) k) 5 11 = h 5 11 := by rw [hu_s, upd_n _ (by omega)]
    have a9 : hu h 5 9 (aSz t z h (h 5 9) k) 5 9 = aSz t z h (h 5 9) k := by rw [hu_s, upd_s]
    have yes : ((¬ xbt (h 5 11) k ∧ aSH (h 0 k) (h 1 k) = t) ∨ xbt z k) → xWP pg_X3_hour 83 ([some (xo (xW r)), some (xi z), some (xi t), some (xi (nI k)), x4], [], M) R := by
      intro c
      refine xgo [59] 100 ⟨rfl, c3_of k 4 ⟨xof_in (by omega) (by omega), ?_⟩⟩
      rw [xof_cl (by omega) (by omega)]
      show xWP pg_X3_hour 59 ([some (xo (xW r)), some (xi z), some (xi t), some (xi (nI k + 1)), x4], [], xup M (xW r) (5 + 7 * k + 4) 1) R
      rw [nI_1]
      refine ih (k + 1) _ (by omega) ?_ (hF.u _ _)
      have := hR.uSpoke hn hkn
      rw [a9, hu_hu] at this
      unfold aSz
      rw [if_pos c]
      exact this
    refine xgo [59, 83] 100 ⟨xin47 (k := 0) (by omega), ?_⟩
    rw [hR.g0]
    refine ⟨fun c => absurd c (nI_ge hkn (by omega)), fun _ => ⟨rfl, c3_speaksIn k hR hkn hn ?_⟩⟩
    rw [a11, show hu h 5 9 (aSz t z h (h 5 9) k) 0 = h 0 from rfl, show hu h 5 9 (aSz t z h (h 5 9) k) 1 = h 1 from rfl]
    refine ⟨fun c => yes (Or.inl ?_), fun c => ⟨rfl, c3_has z k (fun q => ?_) (fun q => ?_)⟩⟩
    · by_cases hh : xbt (h 5 11) k
      · rw [if_pos hh] at c
        exact absurd c.symm ht
      · rw [if_neg hh] at c
        exact ⟨hh, c⟩
    · exact ⟨fun z => absurd z (by decide), fun _ => yes (Or.inr q)⟩
    · refine ⟨fun _ => ?_, fun z => absurd rfl z⟩
      show xWP pg_X3_hour 59 ([some (xo (xW r)), some (xi z), some (xi t), some (xi (nI k + 1)), x4], [], M) R
      rw [nI_1]
      refine ih (k + 1) M (by omega) ?_ hF
      unfold aSz
      rw [if_neg]
      · exact hR
      · intro c2
        rcases c2 with ⟨c2, c3⟩ | c2
        · rw [if_neg c2] at c
          exact c c3
        · exact q c2
theorem l3_hour3 {M0 : xM} {h : xh} (z t : Int32) (hB : aBd n h) (x4 : Option xV) (hk : ∀ M, xRm M r n (aDraws n h n) → xfw r M0 M → xWP pg_X3_hour 117 ([some (xo (xW r)), some (xi z), some (xi t), some (xi (nI n)), x4], [], M) R) : ∀ (d k : Nat) (M : xM), k + d = n → xRm M r n (aDraws n h k) → xfw r M0 M → xWP pg_X3_hour 99 ([some (xo (xW r)), some (xi z), some (xi t), some (xi (nI k)), x4], [], M) R := by
  have hn := hB.1
  intro d
  induction d with
  | zero =>
    intro k M hkd hR hF
    have : k = n := by omega
    subst this
    refine xgo [117] 100 ⟨xin47 (k := 0) (by omega), ?_⟩
    rw [hR.g0]
    exact ⟨fun c => hk M hR hF, fun c => absurd (nI_le (Nat.le_refl _) (by omega)) c⟩
  | succ d ih =>
    intro k M hkd hR hF
    have hkn : k < n := by omega
    refine xgo [99] 100 ⟨xin47 (k := 0) (by omega), ?_⟩
    rw [hR.g0]
    refine ⟨fun c => absurd c (nI_ge hkn (by omega)), fun _ => ⟨rfl, c3_draws k (aBd_draws hB k (by omega)) hR hkn (fun M1 hR1 hF1 => ?_)⟩⟩
    show xWP pg_X3_hour 99 ([some (xo (xW r)), some (xi z), some (xi t), some (xi (nI k + 1)), x4], [], M1) R
    rw [nI_1]
    exact ih (k + 1) M1 (by omega) hR1 (hF.tr hF1)
theorem xmx_c (v : Int32) : xmx 0 v = if 0 ≤ v then v else 0 := by
  unfold xmx
  by_cases h : 0 < v
  · rw [if_pos h, if_pos (Int32.le_of_lt h)]
  · rw [if_neg h]
    by_cases h2 : 0 ≤ v
    · rw [if_pos h2]
      exact Int32.le_antisymm h2 (Int32.not_lt.mp h)
    · rw [if_neg h2]
theorem l3_hour4 {M0 : xM} {h : xh} (z : Int32) (hn : n ≤ 6) (hk : ∀ M x4, xRm M r n (aDrk h n) → xfw r M0 M → xWP pg_X3_hour 176 ([some (xo (xW r)), some (xi z), some (xi 11), some (xi (nI n)), x4], [], M) R) : ∀ (d k : Nat) (M : xM) (x4 : Option xV), k + d = n → xRm M r n (aDrk h k) → xfw r M0 M → xWP pg_X3_hour 119 ([some (xo (xW r)), some (xi z), some (xi 11), some (xi (nI k)), x4], [], M) R := by
  intro d
  induction d with
  | zero =>
    intro k M x4 hkd hR hF
    have : k = n := by omega
    subst this
    refine xgo [176] 100 ⟨xin47 (k := 0) (by omega), ?_⟩
    rw [hR.g0]
    exact ⟨fun c => hk M x4 hR hF, fun c => absurd (nI_le (Nat.le_refl _) (by omega)) c⟩
  | succ d ih =>
    intro k M x4 hkd hR hF
    have hkn : k < n := by omega
    have e3 : aV (aDrk h k) k 3 = aDrk h k 3 k := rfl
    have e0 : aV (aDrk h k) k 0 = aDrk h k 0 k := rfl
    refine xgo [152] 100 ⟨xin47 (k := 0) (by omega), ?_⟩
    rw [hR.g0]
    refine ⟨fun c => absurd c (nI_ge hkn (by omega)), fun _ => ⟨fun _ => ⟨rfl, c3_of k 3 ⟨xof_in (by omega) (by omega), rfl, c3_of k 0 ⟨xof_in (by omega) (by omega), rfl, ?_⟩⟩⟩, fun c => absurd rfl c⟩⟩
    rw [hR.v hkn hn 3 (by omega), hR.v hkn hn 0 (by omega), e3, e0]
    refine c3_drinksBy _ ?_
    show xWP pg_X3_hour 152 ([some (xo (xW r)), some (xi z), some (xi 11), some (xi (nI k)), some (xi (aDrk h k 3 k - aDr (aDrk h k 0 k)))], [], M) R
    have fin : xWP pg_X3_hour 119 ([some (xo (xW r)), some (xi z), some (xi 11), some (xi (nI (k + 1))), some (xi (aDrk h k 3 k - aDr (aDrk h k 0 k)))], [], xup M (xW r) (5 + 7 * k + 3) (xmx 0 (aDrk h k 3 k - aDr (aDrk h k 0 k)))) R := ih (k + 1) _ _ (by omega) (hR.uHas hn hkn _) (hF.u _ _)
    rw [xmx_c, ← nI_1] at fin
    generalize aDrk h k 3 k - aDr (aDrk h k 0 k) = v at fin ⊢
    refine xgo [119] 100 ⟨rfl, c3_of k 3 ⟨fun c => ⟨xof_in (by omega) (by omega), ?_⟩, fun c => ⟨xof_in (by omega) (by omega), ?_⟩⟩⟩
    · rw [if_pos c] at fin
      rw [xof_cl (by omega) (by omega)]
      exact fin
    · rw [if_neg c] at fin
      rw [xof_cl (by omega) (by omega)]
      exact fin
def aTm (h : xh) : Prop := ∃ t, t < 100000 ∧ h 5 8 = nI t
theorem aT_ne {h : xh} (H : aTm h) : aT h ≠ 12 := by
  obtain ⟨t, ht, e⟩ := H
  unfold aT
  rw [e]
  show nI t - nI t / nI 12 * nI 12 ≠ nI 12
  rw [pk_rem (by omega) (by omega) (by omega)]
  intro q
  have := (nI_eq (by omega) (by omega)).mp q
  omega
theorem c3_hour {M : xM} {h : xh} (z : Int32) (hz : aZok n z) (hB : aBd n h) (hT : aTm h) (hR : xRm M r n h) (hk : ∀ M', xRm M' r n (aHr n h z) → xfw r M M' → R none M') : xWP pg_X3_hour 0 ([some (xo (xW r)), some (xi z), none, none, none], [], M) R := by
  have hn := hB.1
  have fin : ∀ M5 x4 x3, xRm M5 r n (aH5 n h z) → xfw r M M5 → xWP pg_X3_hour 176 ([some (xo (xW r)), some (xi z), some (xi (aT h)), x3, x4], [], M5) R := by
    intro M5 x4 x3 hR5 hF5
    refine xgo [] 100 ⟨xin47 (k := 1) (by omega), xin47 (k := 1) (by omega), trivial, ?_⟩
    rw [hR5.g1]
    exact hk _ (hR5.uHour _) (hF5.u _ _)
  have k2 : ∀ M1 x3, xRm M1 r n (aH1 h) → xfw r M M1 → xWP pg_X3_hour 57 ([some (xo (xW r)), some (xi z), some (xi (aT h)), x3, none], [], M1) R := by
    intro M1 x3 hR1 hF1
    refine xgo [59] 100 ?_
    show xWP pg_X3_hour 59 ([some (xo (xW r)), some (xi z), some (xi (aT h)), some (xi (nI 0)), none], [], M1) R
    refine l3_hour2 z (aT h) hn (aT_ne hT) none (fun M3 hR3 hF3 => ?_) n 0 M1 (by omega) (by unfold aSz; rw [hu_id]; exact hR1) hF1
    rw [← aH3_eq h hn hz] at hR3
    refine xgo [99] 100 ?_
    show xWP pg_X3_hour 99 ([some (xo (xW r)), some (xi z), some (xi (aT h)), some (xi (nI 0)), none], [], M3) R
    refine l3_hour3 z (aT h) (aBd_h3 hB z) none (fun M4 hR4 hF4 => ?_) n 0 M3 (by omega) hR3 hF3
    refine xgo [119] 100 ?_
    show xWP pg_X3_hour 119 ([some (xo (xW r)), some (xi z), some (xi (aT h)), some (xi (nI 0)), none], [], M4) R
    by_cases c : aT h = 11
    · rw [c]
      refine l3_hour4 z hn (fun M5 x4 hR5 hF5 => ?_) n 0 M4 none (by omega) hR4 hF4
      have := fin M5 x4 (some (xi (nI n))) (by unfold aH5; rw [if_pos c]; exact hR5) hF5
      rw [c] at this
      exact this
    · have hR5 : xRm M4 r n (aH5 n h z) := by unfold aH5; rw [if_neg c]; exact hR4
      refine xgo [176] 100 ⟨xin47 (k := 0) (by omega), ?_⟩
      exact ⟨fun _ => fin M4 _ _ hR5 hF4, fun _ => ⟨fun c2 => absurd c2 c, fun _ => fin M4 _ _ hR5 hF4⟩⟩
  refine xgo [7] 100 ⟨xin47 (k := 1) (by omega), by decide, ?_⟩
  rw [hR.g1]
  show xWP pg_X3_hour 7 ([some (xo (xW r)), some (xi z), some (xi (aT h)), none, none], [], M) R
  refine xgo [13, 57] 100 ⟨fun c => ?_, fun c => k2 M none (by unfold aH1; rw [if_neg c]; exact hR) xfw.rf⟩
  show xWP pg_X3_hour 13 ([some (xo (xW r)), some (xi z), some (xi (aT h)), some (xi (nI 0)), none], [], M) R
  refine l3_hour1 (h := h) z (aT h) hn none (fun M1 hR1 hF1 => ?_) n 0 M (by omega) ⟨hR.1, fun p hp w hw => by rw [if_neg (by omega)]; exact hR.2 p hp w hw⟩ xfw.rf
  refine xgo [57] 100 ⟨xin47 (k := 2) (by omega), xin47 (k := 3) (by omega), rfl, ?_⟩
  rw [hR1.g2, hR1.g3]
  refine c3_least _ _ ⟨xin47 (k := 2) (by omega), ?_⟩
  have a6 : hu (hu h 5 9 0) 5 10 0 5 6 = h 5 6 := by rw [hu_s, upd_n _ (by omega), hu_s, upd_n _ (by omega)]
  have a7 : hu (hu h 5 9 0) 5 10 0 5 7 = h 5 7 := by rw [hu_s, upd_n _ (by omega), hu_s, upd_n _ (by omega)]
  rw [a6, a7]
  refine k2 _ _ ?_ (hF1.u _ _)
  unfold aH1
  rw [if_pos c]
  exact hR1.uWater _
end X3D
