/-! ===== sneezes ===== -/
def aSn (n : Nat) (h : xh) (p j : Nat) : Nat → xh
  | 0 => h
  | k + 1 => aHr n (aSn n h p j k) (if xbt (nI j) k then 1 <<< (nI p &&& 31) else 0)
def zc (j : Nat) : Nat → Nat
  | 0 => 0
  | k + 1 => if xbt (nI j) k then zc j k else zc j k + 1
theorem zc_eq : ∀ n, n < 8 → ∀ j, j < 2 ^ n → nI n - xbc (nI j) = nI (zc j n) := by decide +kernel
theorem zc_le (j : Nat) : ∀ k, zc j k ≤ k
  | 0 => Nat.le_refl 0
  | k + 1 => by
    have := zc_le j k
    unfold zc
    split <;> omega
theorem on8 : ∀ n, n < 8 → (1 : Int32) <<< (nI n &&& 31) = nI (2 ^ n) := by decide +kernel
theorem aSn_4 (n : Nat) (h : xh) (p j : Nat) : ∀ k, aSn n h p j k 4 = h 4
  | 0 => rfl
  | k + 1 => (aHr_4 n _ _).trans (aSn_4 n h p j k)
theorem aSn_8 (n : Nat) (h : xh) (p j : Nat) : ∀ k, aSn n h p j k 5 8 = h 5 8 + nI k
  | 0 => (Int32.add_zero _).symm
  | k + 1 => by
    show aHr n _ _ 5 8 = _
    rw [aHr_8, aSn_8 n h p j k, Int32.add_assoc, nI_1]
theorem aBd_sn {n : Nat} {h : xh} (H : aBd n h) (p j : Nat) : ∀ k, aBd n (aSn n h p j k)
  | 0 => H
  | k + 1 => aBd_hr (aBd_sn H p j k) _
def aAb (s : xS) (p n T v : Nat) : Nat → Nat
  | 0 => 0
  | j + 1 => if aSn (sn s) (sh s) p j n 3 p < nI v then aAb s p n T v j else aAb s p n T v j + T ^ zc j n
theorem aAb_le (s : xS) (p n T v : Nat) (hT : T ≤ 19) (hn : n ≤ 7) : ∀ j, aAb s p n T v j ≤ j * 893871739
  | 0 => by unfold aAb; omega
  | j + 1 => by
    have ih := aAb_le s p n T v hT hn j
    have h1 : T ^ zc j n ≤ 19 ^ zc j n := Nat.pow_le_pow_left hT _
    have h2 : 19 ^ zc j n ≤ 19 ^ 7 := Nat.pow_le_pow_right (by omega) (Nat.le_trans (zc_le j n) hn)
    have h3 : (19 : Nat) ^ 7 = 893871739 := by decide
    have h4 : T ^ zc j n ≤ 893871739 := Nat.le_trans h1 (Nat.le_trans h2 (Nat.le_of_eq h3))
    unfold aAb
    rw [Nat.add_mul, Nat.one_mul]
    split
    · exact Nat.le_trans ih (Nat.le_add_right _ _)
    · exact Nat.add_le_add ih h4
section XSN
variable {s : xS} {R : xR}
theorem l2_hbs {M0 : xM} (p n j : Nat) (hp : p < sn s) (hn7 : n ≤ 7) (hV : xIv s) (hk : ∀ M', xfr 1 M0 M' → R (some (xi (aSn (sn s) (sh s) p j n 3 p))) M') : ∀ d k (M : xM) (x6 : Option xV), k + d = n → xRc M 1 (sn s) (aSn (sn s) (sh s) p j k) → xfr 1 M0 M → xWP pg_X2_hasBehindSneezes 9 ([some (xo (xN 0)), some (xi (nI p)), some (xi (nI n)), some (xi (nI j)), some (xo (xH 1)), some (xi (nI k)), x6], [], M) R := by
  have hn := hV.1.1.1
  intro d
  induction d with
  | zero =>
    intro k M x6 hkd hR hF
    have : k = n := by omega
    subst this
    refine xgo [] 100 ⟨fun _ => ⟨xin6 hp hn, trivial, ?_⟩, fun c => absurd (nI_le (Nat.le_refl _) (by omega)) c⟩
    rw [xcl hp hn, hR.a3 hp]
    exact hk M hF
  | succ d ih =>
    intro k M x6 hkd hR hF
    have hO : aOk (sn s) (aSn (sn s) (sh s) p j k) := hV.1.1.ok.of (aSn_4 _ _ _ _ k)
    have nxt : ∀ M1 x6, xRc M1 1 (sn s) (aSn (sn s) (sh s) p j (k + 1)) → xfr 1 M M1 → xWP pg_X2_hasBehindSneezes 49 ([some (xo (xN 0)), some (xi (nI p)), some (xi (nI n)), some (xi (nI j)), some (xo (xH 1)), some (xi (nI k)), x6], [], M1) R := by
      intro M1 x6 hR1 hF1
      refine xgo [9] 100 ?_
      show xWP pg_X2_hasBehindSneezes 9 ([some (xo (xN 0)), some (xi (nI p)), some (xi (nI n)), some (xi (nI j)), some (xo (xH 1)), some (xi (nI k + 1)), x6], [], M1) R
      rw [nI_1]
      exact ih (k + 1) M1 x6 (by omega) hR1 (hF.tr hF1)
    refine xgo [49] 100 ⟨fun c => absurd c (nI_ge (by omega) (by omega)), fun _ => ⟨fun c => ⟨fun z => absurd z (by decide), fun _ => ⟨rfl, c0_passHour _ hO hR (fun M1 hR1 hF1 => ?_)⟩⟩, fun c => ⟨fun _ => ⟨rfl, c0_passHour _ hO hR (fun M1 hR1 hF1 => ?_)⟩, fun z => absurd rfl z⟩⟩⟩
    · refine nxt M1 _ ?_ hF1
      have e : aSn (sn s) (sh s) p j (k + 1) = aHr (sn s) (aSn (sn s) (sh s) p j k) (1 <<< (nI p &&& 31)) := congrArg _ (if_pos c)
      rw [e]; exact hR1
    · refine nxt M1 _ ?_ hF1
      have e : aSn (sn s) (sh s) p j (k + 1) = aHr (sn s) (aSn (sn s) (sh s) p j k) 0 := congrArg _ (if_neg c)
      rw [e]; exact hR1
theorem c2_hbs {M : xM} (p n j : Nat) (hp : p < sn s) (hn7 : n ≤ 7) (hC : xIc M s) (hV : xIv s) (hk : ∀ M', xfr 1 M M' → R (some (xi (aSn (sn s) (sh s) p j n 3 p))) M') : xWP pg_X2_hasBehindSneezes 0 ([some (xo (xN 0)), some (xi (nI p)), some (xi (nI n)), some (xi (nI j)), none, none, none], [], M) R :=
  xgo [9] 100 ⟨rfl, c2_thoughtOfNow hC hV.1.1.1 (fun M1 hR1 hF1 => l2_hbs p n j hp hn7 hV hk n 0 M1 none (by omega) hR1 hF1)⟩
theorem l2_sneeze {M0 : xM} (p n T v u : Nat) (hp : p < sn s) (hn7 : n ≤ 7) (hT : T ≤ 19) (hu' : u ≤ 1) (hV : xIv s) (hk : ∀ M', xfr 1 M0 M' → R (some (xl (lN (aPo (aAb s p n T v (2 ^ n)) ((T + 1) ^ n) u)))) M') : ∀ d j (M : xM), j + d = 2 ^ n → xIc M s → xfr 1 M0 M → xWP pg_X2_sneeze 31 ([some (xo (xN 0)), some (xi (nI p)), some (xi (nI n)), some (xi (nI (T + 1))), some (xi (nI v)), some (xi (nI u)), some (xi 0), some (xl (lN (aAb s p n T v j))), none, some (xi (nI j))], [], M) R := by
  have hn := hV.1.1.1
  have h128 : 2 ^ n ≤ 2 ^ 7 := Nat.pow_le_pow_right (by omega) hn7
  have h7 : (2 : Nat) ^ 7 = 128 := by decide
  intro d
  induction d with
  | zero =>
    intro j M hjd hC hF
    have : j = 2 ^ n := by omega
    subst this
    have hA := aAb_le s p n T v hT hn7 (2 ^ n)
    have hp1 : (T + 1) ^ n ≤ 20 ^ n := Nat.pow_le_pow_left (by omega) _
    have hp2 : (20 : Nat) ^ n ≤ 20 ^ 7 := Nat.pow_le_pow_right (by omega) hn7
    have hp3 : (20 : Nat) ^ 7 = 1280000000 := by decide
    have hp0 : 0 < (T + 1) ^ n := Nat.pow_pos (by omega)
    exact xgo [] 100 ⟨fun _ => ⟨rfl, c2_power (T + 1) n (by omega) (by omega) ⟨rfl, c2_partOf _ _ u (by omega) (by omega) hp0 hu' ⟨trivial, hk M hF⟩⟩⟩, fun c => absurd (by rw [on8 n (by omega)]; exact nI_le (Nat.le_refl _) (by omega)) c⟩
  | succ d ih =>
    intro j M hjd hC hF
    have nxt : ∀ a M1, aAb s p n T v (j + 1) = a → xfr 1 M M1 → xWP pg_X2_sneeze 70 ([some (xo (xN 0)), some (xi (nI p)), some (xi (nI n)), some (xi (nI (T + 1))), some (xi (nI v)), some (xi (nI u)), some (xi 0), some (xl (lN a)), none, some (xi (nI j))], [], M1) R := by
      intro a M1 e hF1
      refine xgo [31] 100 ?_
      show xWP pg_X2_sneeze 31 ([some (xo (xN 0)), some (xi (nI p)), some (xi (nI n)), some (xi (nI (T + 1))), some (xi (nI v)), some (xi (nI u)), some (xi 0), some (xl (lN a)), none, some (xi (nI j + 1))], [], M1) R
      rw [nI_1, ← e]
      exact ih (j + 1) M1 (by omega) (hC.th hF1) (hF.tr hF1)
    refine xgo [70, 63] 100 ⟨fun c => absurd c (by rw [on8 n (by omega)]; exact nI_ge (by omega) (by omega)), fun _ => ⟨rfl, c2_hbs p n j hp hn7 hC hV (fun M1 hF1 => ⟨fun c => nxt _ M1 (if_pos c) hF1, fun c => ⟨rfl, c_bitCount (nI j) ?_⟩⟩)⟩⟩
    show xWP pg_X2_sneeze 63 ([some (xo (xN 0)), some (xi (nI p)), some (xi (nI n)), some (xi (nI (T + 1))), some (xi (nI v)), some (xi (nI u)), some (xi 0), some (xl (lN (aAb s p n T v j))), none, some (xi (nI j))], [xi (xbc (nI j)), xi (nI n), xi (nI (T + 1) - 1), xl (lN (aAb s p n T v j))], M1) R
    rw [nI_pred]
    refine xgo [64] 100 ?_
    show xWP pg_X2_sneeze 64 ([some (xo (xN 0)), some (xi (nI p)), some (xi (nI n)), some (xi (nI (T + 1))), some (xi (nI v)), some (xi (nI u)), some (xi 0), some (xl (lN (aAb s p n T v j))), none, some (xi (nI j))], [xi (nI n - xbc (nI j)), xi (nI T), xl (lN (aAb s p n T v j))], M1) R
    rw [zc_eq n (by omega) j (by omega)]
    have hz := zc_le j n
    refine xgo [70] 100 ⟨rfl, c2_power T (zc j n) (by omega) (by omega) ?_⟩
    show xWP pg_X2_sneeze 70 ([some (xo (xN 0)), some (xi (nI p)), some (xi (nI n)), some (xi (nI (T + 1))), some (xi (nI v)), some (xi (nI u)), some (xi 0), some (xl (lN (aAb s p n T v j) + lN (T ^ zc j n))), none, some (xi (nI j))], [], M1) R
    rw [lN_add]
    exact nxt _ M1 (if_neg c) hF1
/-! the other side -/
theorem l3_sn1 {M : xM} (p n T v u : Nat) (hn7 : n ≤ 7) (hT : T ≤ 19) (hk : xWP pg_X3_sneeze 106 ([some (xo (xN 2)), some (xi (nI p)), some (xi (nI n)), some (xi (nI (T + 1))), some (xi (nI v)), some (xi (nI u)), some (xl 0), none, some (xl (lN ((T + 1) ^ n))), none, some (xi (nI n)), none, none, none], [], M) R) : ∀ d k, k + d = n → xWP pg_X3_sneeze 87 ([some (xo (xN 2)), some (xi (nI p)), some (xi (nI n)), some (xi (nI (T + 1))), some (xi (nI v)), some (xi (nI u)), some (xl 0), none, some (xl (lN ((T + 1) ^ k))), none, some (xi (nI k)), none, none, none], [], M) R := by
  intro d
  induction d with
  | zero =>
    intro k hkd
    have : k = n := by omega
    subst this
    exact xgo [106] 100 ⟨fun _ => hk, fun c => absurd (nI_le (Nat.le_refl _) (by omega)) c⟩
  | succ d ih =>
    intro k hkd
    refine xgo [87] 100 ⟨fun c => absurd c (nI_ge (by omega) (by omega)), fun _ => ?_⟩
    show xWP pg_X3_sneeze 87 ([some (xo (xN 2)), some (xi (nI p)), some (xi (nI n)), some (xi (nI (T + 1))), some (xi (nI v)), some (xi (nI u)), some (xl 0), none, some (xl (lN ((T + 1) ^ k) * (nI (T + 1)).toInt64)), none, some (xi (nI k + 1)), none, none, none], [], M) R
    rw [nI_1, nI_l (by omega), lN_mul, ← Nat.pow_succ]
    exact ih (k + 1) (by omega)
theorem l3_sn2 {M0 : xM} (p n T v u j : Nat) (hp : p < sn s) (hn7 : n ≤ 7) (hT : T ≤ 19) (hV : xIv s) (A B : Int64) (hk : ∀ M', xRm M' 1 (sn s) (aSn (sn s) (sh s) p j n) → xfw 1 M0 M' → xWP pg_X3_sneeze 193 ([some (xo (xN 2)), some (xi (nI p)), some (xi (nI n)), some (xi (nI (T + 1))), some (xi (nI v)), some (xi (nI u)), some (xl A), none, some (xl B), none, some (xi (nI j)), some (xl (lN (T ^ zc j n))), none, some (xi (nI n))], [], M') R) : ∀ d k (M : xM), k + d = n → xRm M 1 (sn s) (aSn (sn s) (sh s) p j k) → xfw 1 M0 M → xWP pg_X3_sneeze 134 ([some (xo (xN 2)), some (xi (nI p)), some (xi (nI n)), some (xi (nI (T + 1))), some (xi (nI v)), some (xi (nI u)), some (xl A), none, some (xl B), none, some (xi (nI j)), some (xl (lN (T ^ zc j k))), none, some (xi (nI k))], [], M) R := by
  have hn := hV.1.1.1
  intro d
  induction d with
  | zero =>
    intro k M hkd hR hF
    have : k = n := by omega
    subst this
    exact xgo [193] 100 ⟨fun _ => hk M hR hF, fun c => absurd (nI_le (Nat.le_refl _) (by omega)) c⟩
  | succ d ih =>
    intro k M hkd hR hF
    have hB := aBd_sn hV.1.1 p j k
    have hTm : aTm (aSn (sn s) (sh s) p j k) := by
      obtain ⟨t, ht, et⟩ := hV.1.2.1
      exact ⟨t + k, by omega, by rw [aSn_8, et, nI_add]⟩
    have nxt : ∀ M1, xRm M1 1 (sn s) (aSn (sn s) (sh s) p j (k + 1)) → xfw 1 M M1 → xWP pg_X3_sneeze 187 ([some (xo (xN 2)), some (xi (nI p)), some (xi (nI n)), some (xi (nI (T + 1))), some (xi (nI v)), some (xi (nI u)), some (xl A), none, some (xl B), none, some (xi (nI j)), some (xl (lN (T ^ zc j (k + 1)))), none, some (xi (nI k))], [], M1) R := by
      intro M1 hR1 hF1
      refine xgo [134] 100 ?_
      show xWP pg_X3_sneeze 134 ([some (xo (xN 2)), some (xi (nI p)), some (xi (nI n)), some (xi (nI (T + 1))), some (xi (nI v)), some (xi (nI u)), some (xl A), none, some (xl B), none, some (xi (nI j)), some (xl (lN (T ^ zc j (k + 1)))), none, some (xi (nI k + 1))], [], M1) R
      rw [nI_1]
      exact ih (k + 1) M1 (by omega) hR1 (hF.tr hF1)
    refine xgo [163] 100 ⟨fun c => absurd c (nI_ge (by omega) (by omega)), fun _ => ⟨rfl, c3_has (nI j) k (fun c => ⟨fun z => absurd z (by decide), fun _ => ?_⟩) (fun c => ⟨fun _ => ?_, fun z => absurd rfl z⟩)⟩⟩
    · show xWP pg_X3_sneeze 163 ([some (xo (xN 2)), some (xi (nI p)), some (xi (nI n)), some (xi (nI (T + 1))), some (xi (nI v)), some (xi (nI u)), some (xl A), none, some (xl B), none, some (xi (nI j)), some (xl (lN (T ^ zc j k) * 1)), none, some (xi (nI k))], [], M) R
      have ez : zc j (k + 1) = zc j k := if_pos c
      have es : aSn (sn s) (sh s) p j (k + 1) = aHr (sn s) (aSn (sn s) (sh s) p j k) (1 <<< (nI p &&& 31)) := congrArg _ (if_pos c)
      rw [Int64.mul_one, ← ez]
      refine xgo [187] 100 ⟨rfl, c3_has (nI j) k (fun _ => ⟨fun z => absurd z (by decide), fun _ => ⟨rfl, c3_hour _ (Or.inr ⟨p, hp, rfl⟩) hB hTm hR (fun M1 hR1 hF1 => nxt M1 (by rw [es]; exact hR1) hF1)⟩⟩) (fun z => absurd c z)⟩
    · show xWP pg_X3_sneeze 163 ([some (xo (xN 2)), some (xi (nI p)), some (xi (nI n)), some (xi (nI (T + 1))), some (xi (nI v)), some (xi (nI u)), some (xl A), none, some (xl B), none, some (xi (nI j)), some (xl (lN (T ^ zc j k) * (nI (T + 1) - 1).toInt64)), none, some (xi (nI k))], [], M) R
      have ez : zc j (k + 1) = zc j k + 1 := if_neg c
      have es : aSn (sn s) (sh s) p j (k + 1) = aHr (sn s) (aSn (sn s) (sh s) p j k) 0 := congrArg _ (if_neg c)
      have ep : T ^ zc j k * T = T ^ zc j (k + 1) := by rw [ez]; rfl
      rw [nI_pred, nI_l (by omega), lN_mul, ep]
      refine xgo [187] 100 ⟨rfl, c3_has (nI j) k (fun z => absurd z c) (fun _ => ⟨fun _ => ⟨rfl, c3_hour _ (Or.inl rfl) hB hTm hR (fun M1 hR1 hF1 => nxt M1 (by rw [es]; exact hR1) hF1)⟩, fun z => absurd rfl z⟩)⟩
theorem l3_sneeze {M0 : xM} (p n T v u : Nat) (hp : p < sn s) (hn7 : n ≤ 7) (hT : T ≤ 19) (hu' : u ≤ 1) (hV : xIv s) (hk : ∀ M', xfw 1 M0 M' → R (some (xl (lN (aPo (aAb s p n T v (2 ^ n)) ((T + 1) ^ n) u)))) M') : ∀ d j (M : xM) (x11 x13 : Option xV), j + d = 2 ^ n → xIm M s → xfw 1 M0 M → xWP pg_X3_sneeze 109 ([some (xo (xN 2)), some (xi (nI p)), some (xi (nI n)), some (xi (nI (T + 1))), some (xi (nI v)), some (xi (nI u)), some (xl (lN (aAb s p n T v j))), none, some (xl (lN ((T + 1) ^ n))), none, some (xi (nI j)), x11, none, x13], [], M) R := by
  have hn := hV.1.1.1
  have h128 : 2 ^ n ≤ 2 ^ 7 := Nat.pow_le_pow_right (by omega) hn7
  have h7 : (2 : Nat) ^ 7 = 128 := by decide
  intro d
  induction d with
  | zero =>
    intro j M x11 x13 hjd hM hF
    have : j = 2 ^ n := by omega
    subst this
    have hA := aAb_le s p n T v hT hn7 (2 ^ n)
    have hp1 : (T + 1) ^ n ≤ 20 ^ n := Nat.pow_le_pow_left (by omega) _
    have hp2 : (20 : Nat) ^ n ≤ 20 ^ 7 := Nat.pow_le_pow_right (by omega) hn7
    have hp3 : (20 : Nat) ^ 7 = 1280000000 := by decide
    have hp0 : 0 < (T + 1) ^ n := Nat.pow_pos (by omega)
    refine xgo [] 100 ⟨fun _ => ⟨rfl, c3_partOf _ _ u (by omega) (by omega) hu' ⟨trivial, ?_⟩⟩, fun c => absurd (by rw [on8 n (by omega)]; exact nI_le (Nat.le_refl _) (by omega)) c⟩
    have e : (if aAb s p n T v (2 ^ n) = 0 then u else aPo (aAb s p n T v (2 ^ n)) ((T + 1) ^ n) u) = aPo (aAb s p n T v (2 ^ n)) ((T + 1) ^ n) u := by
      by_cases e0 : aAb s p n T v (2 ^ n) = 0
      · rw [if_pos e0, e0, aPo_0 _ u hp0 hu']
      · rw [if_neg e0]
    rw [e]
    exact hk M hF
  | succ d ih =>
    intro j M x11 x13 hjd hM hF
    refine xgo [134] 100 ⟨fun c => absurd c (by rw [on8 n (by omega)]; exact nI_ge (by omega) (by omega)), fun _ => ⟨rfl, c3_copies (r := 0) (r' := 1) (by decide) hn hM.1 (fun M1 hR1 hF1 => ?_)⟩⟩
    refine l3_sn2 (M0 := M) p n T v u j hp hn7 hT hV _ _ (fun M2 hR2 hF2 => ?_) n 0 M1 (by omega) hR1 hF1
    have fin : ∀ a x11, aAb s p n T v (j + 1) = a → xWP pg_X3_sneeze 219 ([some (xo (xN 2)), some (xi (nI p)), some (xi (nI n)), some (xi (nI (T + 1))), some (xi (nI v)), some (xi (nI u)), some (xl (lN a)), none, some (xl (lN ((T + 1) ^ n))), none, some (xi (nI j)), x11, none, some (xi (nI n))], [], M2) R := by
      intro a x11 e
      refine xgo [109] 100 ?_
      show xWP pg_X3_sneeze 109 ([some (xo (xN 2)), some (xi (nI p)), some (xi (nI n)), some (xi (nI (T + 1))), some (xi (nI v)), some (xi (nI u)), some (xl (lN a)), none, some (xl (lN ((T + 1) ^ n))), none, some (xi (nI j + 1)), x11, none, some (xi (nI n))], [], M2) R
      rw [nI_1, ← e]
      exact ih (j + 1) M2 _ _ (by omega) (hM.th hF2) (hF.tr hF2)
    refine xgo [219] 100 ⟨rfl, c3_of p 3 ⟨xof_in (by omega) (by omega), ?_⟩⟩
    rw [hR2.v hp hn 3 (by omega)]
    refine ⟨fun c => ?_, fun c => ?_⟩
    · show xWP pg_X3_sneeze 219 ([some (xo (xN 2)), some (xi (nI p)), some (xi (nI n)), some (xi (nI (T + 1))), some (xi (nI v)), some (xi (nI u)), some (xl (lN (aAb s p n T v j) + 0)), none, some (xl (lN ((T + 1) ^ n))), none, some (xi (nI j)), some (xl (lN (T ^ zc j n))), none, some (xi (nI n))], [], M2) R
      rw [Int64.add_zero]
      exact fin _ _ (if_pos c)
    · show xWP pg_X3_sneeze 219 ([some (xo (xN 2)), some (xi (nI p)), some (xi (nI n)), some (xi (nI (T + 1))), some (xi (nI v)), some (xi (nI u)), some (xl (lN (aAb s p n T v j) + lN (T ^ zc j n))), none, some (xl (lN ((T + 1) ^ n))), none, some (xi (nI j)), some (xl (lN (T ^ zc j n))), none, some (xi (nI n))], [], M2) R
      rw [lN_add]
      exact fin _ _ (if_neg c)
theorem c2_sneezeRefusal {M : xM} (p n t v u : Int32) (hC : xIc M s) (h1 : ¬ (0 ≤ p ∧ p < nI (sn s)) → R (some (xi (-1))) M) (h4 : 0 ≤ p ∧ p < nI (sn s) → (n < 0 ∨ v < 0 ∨ ¬ 2 ≤ t) → R (some (xi (-4))) M) (h6 : 0 ≤ p ∧ p < nI (sn s) → (¬ n < 0 ∧ ¬ v < 0 ∧ 2 ≤ t) → (7 < n ∨ 20 < t ∨ ¬ v ≤ 99) → R (some (xi (-6))) M) (h2 : 0 ≤ p ∧ p < nI (sn s) → (¬ n < 0 ∧ ¬ v < 0 ∧ 2 ≤ t) → (¬ 7 < n ∧ ¬ 20 < t ∧ v ≤ 99) → ¬ (0 ≤ u ∧ u ≤ 1) → R (some (xi (-2))) M) (h0 : 0 ≤ p ∧ p < nI (sn s) → (¬ n < 0 ∧ ¬ v < 0 ∧ 2 ≤ t) → (¬ 7 < n ∧ ¬ 20 < t ∧ v ≤ 99) → (0 ≤ u ∧ u ≤ 1) → R (some (xi 0)) M) : xWP pg_X2_sneezeRefusal 0 ([some (xo (xN 0)), some (xi p), some (xi n), some (xi t), some (xi v), some (xi u)], [], M) R := by
  refine xgo [27, 30] 100 ⟨rfl, c0_isThere p hC.1 (fun a => ⟨fun z => absurd z (by decide), fun _ => ?_⟩) (fun a => ⟨fun _ => ⟨trivial, h1 a⟩, fun z => absurd rfl z⟩)⟩
  have r4 : (n < 0 ∨ v < 0 ∨ ¬ 2 ≤ t) → xWP pg_X2_sneezeRefusal 27 ([some (xo (xN 0)), some (xi p), some (xi n), some (xi t), some (xi v), some (xi u)], [], M) R := fun c => xgo [] 100 ⟨trivial, h4 a c⟩
  refine ⟨fun c => r4 (Or.inl c), fun c => ⟨fun d => r4 (Or.inr (Or.inl d)), fun d => ⟨fun e => ?_, fun e => r4 (Or.inr (Or.inr e))⟩⟩⟩
  have r6 : (7 < n ∨ 20 < t ∨ ¬ v ≤ 99) → xWP pg_X2_sneezeRefusal 49 ([some (xo (xN 0)), some (xi p), some (xi n), some (xi t), some (xi v), some (xi u)], [], M) R := fun c' => xgo [] 100 ⟨trivial, h6 a ⟨c, d, e⟩ c'⟩
  refine xgo [49] 100 ⟨fun c' => r6 (Or.inl c'), fun c' => ⟨fun d' => r6 (Or.inr (Or.inl d')), fun d' => ⟨fun e' => ⟨rfl, c2_whatRefusal u 1 (fun a1 a2 => ⟨trivial, h0 a ⟨c, d, e⟩ ⟨c', d', e'⟩ ⟨a1, a2⟩⟩) (fun a1 => ⟨trivial, h2 a ⟨c, d, e⟩ ⟨c', d', e'⟩ a1⟩)⟩, fun e' => r6 (Or.inr (Or.inr e'))⟩⟩⟩
end XSN
abbrev xm14 (p n t v u : Int32) : List (Option xV) := [some (xo (xN 2)), some (xi p), some (xi n), some (xi t), some (xi v), some (xi u), none, none, none, none, none, none, none, none]
theorem j_sneeze (p n t v u : Int32) : xJl pg_X2_sneeze pg_X3_sneeze [some (xo (xN 0)), some (xi p), some (xi n), some (xi t), some (xi v), some (xi u), none, none, none, none] [some (xo (xN 2)), some (xi p), some (xi n), some (xi t), some (xi v), some (xi u), none, none, none, none, none, none, none, none] := by
  intro M s K hC hM hV hk
  have hn := hV.1.1.1
  refine xgo [31] 100 ⟨rfl, c2_sneezeRefusal p n t v u hC (fun a => ?_) (fun a b => ?_) (fun a b c => ?_) (fun a b c d => ?_) (fun a b c d => ?_)⟩
  · refine ⟨fun z => absurd z (by decide), fun _ => ⟨rfl, c2_refusedLong 1 (by omega) (by omega) hC (fun M1 I1 F1 => ⟨trivial, ?_⟩)⟩⟩
    have hM1 := hM.fc F1
    exact xgo [] 100 ⟨rfl, c3_isPerson p hn hM1.1 (fun z => absurd z a) (fun _ => ⟨fun _ => ⟨rfl, c3_noWide 1 (by omega) (by omega) hM1 (fun M2 I2 F2 => ⟨trivial, hk _ M2 _ (I1.fm F2) I2 hV⟩)⟩, fun z => absurd rfl z⟩)⟩
  · refine ⟨fun z => absurd z (by decide), fun _ => ⟨rfl, c2_refusedLong 4 (by omega) (by omega) hC (fun M1 I1 F1 => ⟨trivial, ?_⟩)⟩⟩
    have hM1 := hM.fc F1
    have fin : xWP pg_X3_sneeze 28 (xm14 p n t v u, [], M1) (fun v2 M2 => K (some (xl (4000000000000000000 - (-(nI 4)).toInt64))) v2 M2) := xgo [] 100 ⟨rfl, c3_noWide 4 (by omega) (by omega) hM1 (fun M2 I2 F2 => ⟨trivial, hk _ M2 _ (I1.fm F2) I2 hV⟩)⟩
    exact xgo [28, 35] 100 ⟨rfl, c3_isPerson p hn hM1.1 (fun _ => ⟨fun z => absurd z (by decide), fun _ => ⟨fun _ => fin, fun c => ⟨fun _ => fin, fun d => ⟨fun e => absurd b (fun z => z.elim c (fun z => z.elim d (fun z => z e))), fun _ => fin⟩⟩⟩⟩) (fun z => absurd a z)⟩
  · refine ⟨fun z => absurd z (by decide), fun _ => ⟨rfl, c2_refusedLong 6 (by omega) (by omega) hC (fun M1 I1 F1 => ⟨trivial, ?_⟩)⟩⟩
    have hM1 := hM.fc F1
    have fin : xWP pg_X3_sneeze 54 (xm14 p n t v u, [], M1) (fun v2 M2 => K (some (xl (4000000000000000000 - (-(nI 6)).toInt64))) v2 M2) := xgo [] 100 ⟨rfl, c3_noWide 6 (by omega) (by omega) hM1 (fun M2 I2 F2 => ⟨trivial, hk _ M2 _ (I1.fm F2) I2 hV⟩)⟩
    exact xgo [28, 54, 61] 100 ⟨rfl, c3_isPerson p hn hM1.1 (fun _ => ⟨fun z => absurd z (by decide), fun _ => ⟨fun z => absurd z b.1, fun _ => ⟨fun z => absurd z b.2.1, fun _ => ⟨fun _ => ⟨fun _ => fin, fun c' => ⟨fun _ => fin, fun d' => ⟨fun e' => absurd c (fun z => z.elim c' (fun z => z.elim d' (fun z => z e'))), fun _ => fin⟩⟩⟩, fun z => absurd b.2.2 z⟩⟩⟩⟩) (fun z => absurd a z)⟩
  · refine ⟨fun z => absurd z (by decide), fun _ => ⟨rfl, c2_refusedLong 2 (by omega) (by omega) hC (fun M1 I1 F1 => ⟨trivial, ?_⟩)⟩⟩
    have hM1 := hM.fc F1
    refine xgo [28, 54, 61] 100 ⟨rfl, c3_isPerson p hn hM1.1 (fun _ => ⟨fun z => absurd z (by decide), fun _ => ⟨fun z => absurd z b.1, fun _ => ⟨fun z => absurd z b.2.1, fun _ => ⟨fun _ => ⟨fun z => absurd z c.1, fun _ => ⟨fun z => absurd z c.2.1, fun _ => ⟨fun _ => ?_, fun z => absurd c.2.2 z⟩⟩⟩, fun z => absurd b.2.2 z⟩⟩⟩⟩) (fun z => absurd a z)⟩
    show xWP pg_X3_sneeze 61 (xm14 p n t v u, [], M1) _
    exact xgo [] 100 ⟨rfl, c3_isIn u 0 1 (fun z => absurd z d) (fun _ => ⟨fun _ => ⟨rfl, c3_noWide 2 (by omega) (by omega) hM1 (fun M2 I2 F2 => ⟨trivial, hk _ M2 _ (I1.fm F2) I2 hV⟩)⟩, fun z => absurd rfl z⟩)⟩
  · refine ⟨fun _ => ?_, fun z => absurd rfl z⟩
    have b0 := b
    have c0 := c
    have d0 := d
    have a0 := a
    obtain ⟨P, hP, rfl⟩ := xper hn a
    obtain ⟨N, hN, rfl⟩ := xrng (b := 7) (by omega) (Int32.not_lt.mp b.1) (Int32.not_lt.mp c.1)
    obtain ⟨V, hVV, rfl⟩ := xrng (b := 99) (by omega) (Int32.not_lt.mp b.2.1) c.2.2
    obtain ⟨U, hU, rfl⟩ := xrng (b := 1) (by omega) d.1 d.2
    obtain ⟨t1, ht1, rfl⟩ := xrng (b := 20) (by omega) (Int32.le_trans (by decide) b.2.2) (Int32.not_lt.mp c.2.1)
    have h2t : 2 ≤ t1 := nI_le_of b.2.2
    obtain ⟨T, rfl⟩ : ∃ T, t1 = T + 1 := ⟨t1 - 1, by omega⟩
    refine l2_sneeze (M0 := M) P N T V U hP hN (by omega) hU hV (fun M1 hF1 => ?_) (2 ^ N) 0 M (by omega) hC xfr.rf
    have hM1 := hM.fc hF1.c
    refine xgo [28, 54, 61] 100 ⟨rfl, c3_isPerson (nI P) hn hM1.1 (fun _ => ⟨fun z => absurd z (by decide), fun _ => ⟨fun z => absurd z b0.1, fun _ => ⟨fun z => absurd z b0.2.1, fun _ => ⟨fun _ => ⟨fun z => absurd z c0.1, fun _ => ⟨fun z => absurd z c0.2.1, fun _ => ⟨fun _ => ?_, fun z => absurd c0.2.2 z⟩⟩⟩, fun z => absurd b0.2.2 z⟩⟩⟩⟩) (fun z => absurd a0 z)⟩
    show xWP pg_X3_sneeze 61 (xm14 (nI P) (nI N) (nI (T + 1)) (nI V) (nI U), [], M1) _
    refine xgo [87] 100 ⟨rfl, c3_isIn (nI U) 0 1 (fun _ => ⟨fun z => absurd z (by decide), fun _ => ?_⟩) (fun z => absurd d0 z)⟩
    refine l3_sn1 P N T V U hN (by omega) ?_ N 0 (by omega)
    refine xgo [109] 100 ?_
    exact l3_sneeze (M0 := M1) P N T V U hP hN (by omega) hU hV (fun M2 hF2 => hk _ M2 s ((hC.th hF1).fm hF2.m) (hM1.th hF2) hV) (2 ^ N) 0 M1 none none (by omega) hM1 xfw.rf
