/-! ===== sums and sets over the people ===== -/
def aAll (h : xh) : Nat → Int32
  | 0 => 0
  | p + 1 => aAll h p + h 3 p
def aDry (h : xh) : Nat → Int32
  | 0 => 0
  | p + 1 => if h 3 p = 0 then aDry h p ||| 1 <<< (nI p &&& 31) else aDry h p
def aLh (h : xh) : Nat → Int32
  | 0 => 99
  | p + 1 => xmn (aLh h p) (h 3 p)
def aLm (h : xh) : Nat → Int32
  | 0 => 1000000000
  | p + 1 => xmn (aLm h p) (h 3 p)
def aFg (s : Int32) : Nat → Int32
  | 0 => 0
  | p + 1 => aFg s p ||| aFl s p <<< (nI p &&& 31)
def xbc (a : Int32) : Int32 :=
  let b := a - ((a.toUInt32 >>> ((1 : Int32).toUInt32 &&& Int32.toUInt32 31)).toInt32 &&& 1431655765)
  let c := (b &&& 858993459) + ((b.toUInt32 >>> ((2 : Int32).toUInt32 &&& Int32.toUInt32 31)).toInt32 &&& 858993459)
  let d := (c + (c.toUInt32 >>> ((4 : Int32).toUInt32 &&& Int32.toUInt32 31)).toInt32) &&& 252645135
  let e := d + (d.toUInt32 >>> ((8 : Int32).toUInt32 &&& Int32.toUInt32 31)).toInt32
  let f := e + (e.toUInt32 >>> ((16 : Int32).toUInt32 &&& Int32.toUInt32 31)).toInt32
  f &&& 63
def xbs (a : Int32) : Nat → Int32
  | 0 => 0
  | k + 1 => xbs a k + ((a >>> (nI k &&& 31)) &&& 1)
def aBk (n : Nat) (s : Int32) : Prop := ∃ k, k < 2 ^ n ∧ s = nI k
theorem xbc_bs : ∀ k, k < 64 → xbc (nI k) = xbs (nI k) 6 := by decide +kernel
theorem aFg_k : ∀ n, n < 7 → ∀ k, k < 2 ^ n → aFg (nI k) n = nI k := by decide +kernel
theorem aFg_eq {n : Nat} {s : Int32} (hn : n ≤ 6) (h : aBk n s) : aFg s n = s := by
  obtain ⟨k, hk, rfl⟩ := h
  exact aFg_k n (by omega) k hk
theorem p2_le {n : Nat} (hn : n ≤ 6) : 2 ^ n ≤ 64 := Nat.pow_le_pow_right (by omega) hn
theorem one_sh : ∀ p, p < 6 → (1 : Int32) <<< (nI p &&& 31) = nI (2 ^ p) := by decide +kernel
theorem nI_or (a b : Nat) : nI a ||| nI b = nI (a ||| b) := by
  apply Int32.toBitVec_inj.1
  show BitVec.ofNat 32 a ||| BitVec.ofNat 32 b = BitVec.ofNat 32 (a ||| b)
  apply BitVec.eq_of_getLsbD_eq
  intro i hi
  simp [hi]
theorem aBk_or {n p : Nat} {s : Int32} (hn : n ≤ 6) (hp : p < n) (h : aBk n s) : aBk n (s ||| 1 <<< (nI p &&& 31)) := by
  obtain ⟨k, hk, rfl⟩ := h
  exact ⟨k ||| 2 ^ p, Nat.or_lt_two_pow hk (Nat.pow_lt_pow_right (by omega) hp), by rw [one_sh p (by omega), nI_or]⟩
theorem aBk_0 (n : Nat) : aBk n 0 := ⟨0, Nat.two_pow_pos n, rfl⟩
theorem aBk_z {n : Nat} {s z : Int32} (hn : n ≤ 6) (hz : aZok n z) (h : aBk n s) : aBk n (s ||| z) := by
  rcases hz with rfl | ⟨q, hq, rfl⟩
  · rw [ior_0]; exact h
  · exact aBk_or hn hq h
theorem aBk_say {n : Nat} (t : Int32) (h : xh) {s : Int32} (hn : n ≤ 6) (hs : aBk n s) : ∀ k, k ≤ n → aBk n (aSay t h s k)
  | 0, _ => hs
  | k + 1, hk => by
    unfold aSay
    split
    · exact aBk_or hn (by omega) (aBk_say t h hn hs k (by omega))
    · exact aBk_say t h hn hs k (by omega)
theorem aDry_k {n : Nat} (hn : n ≤ 6) (h : xh) : ∀ k, k ≤ n → aBk n (aDry h k)
  | 0, _ => aBk_0 n
  | k + 1, hk => by
    unfold aDry
    split
    · exact aBk_or hn (by omega) (aDry_k hn h k (by omega))
    · exact aDry_k hn h k (by omega)
/-! what an hour keeps of the scalars -/
theorem aDraw_5 (n : Nat) (h : xh) (p k : Nat) (h6 : k ≠ 6) (h10 : k ≠ 10) : aDraw n h p 5 k = h 5 k := by
  have e1 : ∀ d, aD1 h p d 5 k = h 5 k := by
    intro d
    unfold aD1
    rw [hu_s, upd_n _ h10, hu_n (by omega), hu_s, upd_n _ h6]
  unfold aDraw
  split
  · split
    · unfold aD2
      rw [hu_n (by omega), hu_n (by omega), e1]
    · rw [e1]
  · rfl
theorem aDraws_5 (n : Nat) (h : xh) (k : Nat) (h6 : k ≠ 6) (h10 : k ≠ 10) : ∀ p, aDraws n h p 5 k = h 5 k
  | 0 => rfl
  | p + 1 => by
    unfold aDraws
    split
    · rw [aDraw_5 n _ p k h6 h10]; exact aDraws_5 n h k h6 h10 p
    · exact aDraws_5 n h k h6 h10 p
theorem aDrk_5 (h : xh) : ∀ p, aDrk h p 5 = h 5
  | 0 => rfl
  | p + 1 => by
    unfold aDrk
    rw [hu_n (by omega)]
    exact aDrk_5 h p
theorem aH5_5 (n : Nat) (h : xh) (z : Int32) (k : Nat) (h6 : k ≠ 6) (h10 : k ≠ 10) : aH5 n h z 5 k = aH3 n h z 5 k := by
  unfold aH5
  split
  · rw [aDrk_5]
    exact aDraws_5 n _ k h6 h10 n
  · exact aDraws_5 n _ k h6 h10 n
theorem aH1_5 (h : xh) (k : Nat) (h6 : k ≠ 6) (h9 : k ≠ 9) (h10 : k ≠ 10) : aH1 h 5 k = h 5 k := by
  unfold aH1
  split
  · unfold aDawn
    rw [hu_s, upd_n _ h6, hu_s, upd_n _ h10, hu_s, upd_n _ h9]
  · rfl
theorem aHr_8 (n : Nat) (h : xh) (z : Int32) : aHr n h z 5 8 = h 5 8 + 1 := by
  unfold aHr
  rw [hu_s, upd_s, aH5_5 n h z 8 (by omega) (by omega)]
  unfold aH3
  rw [hu_s, upd_n _ (by omega)]
  unfold aH2
  rw [hu_s, upd_n _ (by omega), aH1_5 h 8 (by omega) (by omega) (by omega)]
theorem aHr_11 (n : Nat) (h : xh) (z : Int32) : aHr n h z 5 11 = h 5 11 := by
  unfold aHr
  rw [hu_s, upd_n _ (by omega), aH5_5 n h z 11 (by omega) (by omega)]
  unfold aH3
  rw [hu_s, upd_n _ (by omega)]
  unfold aH2
  rw [hu_s, upd_n _ (by omega), aH1_5 h 11 (by omega) (by omega) (by omega)]
theorem aHrs_8 (n : Nat) (h : xh) : ∀ k, aHrs n h k 5 8 = h 5 8 + nI k
  | 0 => by
    show h 5 8 = h 5 8 + 0
    simp
  | k + 1 => by
    unfold aHrs
    rw [aHr_8, aHrs_8 n h k, ← nI_1, Int32.add_assoc]
theorem aHrs_11 (n : Nat) (h : xh) : ∀ k, aHrs n h k 5 11 = h 5 11
  | 0 => rfl
  | k + 1 => by
    unfold aHrs
    rw [aHr_11, aHrs_11 n h k]
/-- the bits of those who spoke, who drew -/
def aBs (n : Nat) (h : xh) : Prop := aBk n (h 5 9) ∧ aBk n (h 5 10)
theorem aBs_draw {n : Nat} {h : xh} (hn : n ≤ 6) (H : aBs n h) {p : Nat} (hp : p < n) : aBs n (aDraw n h p) := by
  refine ⟨by rw [aDraw_5 n h p 9 (by omega) (by omega)]; exact H.1, ?_⟩
  have e1 : ∀ d, aD1 h p d 5 10 = h 5 10 ||| 1 <<< (nI p &&& 31) := by
    intro d
    unfold aD1
    rw [hu_s, upd_s]
  unfold aDraw
  split
  · split
    · unfold aD2
      rw [hu_n (by omega), hu_n (by omega), e1]
      exact aBk_or hn hp H.2
    · rw [e1]
      exact aBk_or hn hp H.2
  · exact H.2
theorem aBs_draws {n : Nat} {h : xh} (hn : n ≤ 6) (H : aBs n h) : ∀ k, k ≤ n → aBs n (aDraws n h k)
  | 0, _ => H
  | k + 1, hk => by
    unfold aDraws
    split
    · exact aBs_draw hn (aBs_draws hn H k (by omega)) (by omega)
    · exact aBs_draws hn H k (by omega)
theorem aBs_hr {n : Nat} {h : xh} {z : Int32} (hn : n ≤ 6) (hz : aZok n z) (H : aBs n h) : aBs n (aHr n h z) := by
  have h1 : aBs n (aH1 h) := by
    unfold aH1
    split
    · have e9 : aDawn h 5 9 = 0 := by unfold aDawn; rw [hu_s, upd_n _ (by omega), hu_s, upd_n _ (by omega), hu_s, upd_s]
      have e10 : aDawn h 5 10 = 0 := by unfold aDawn; rw [hu_s, upd_n _ (by omega), hu_s, upd_s]
      exact ⟨by rw [e9]; exact aBk_0 n, by rw [e10]; exact aBk_0 n⟩
    · exact H
  have h3 : aBs n (aH3 n h z) := by
    have e9 : aH3 n h z 5 9 = aSay (aT h) (aH2 h z) (aH2 h z 5 9) n := by unfold aH3; rw [hu_s, upd_s]
    have e2 : aH2 h z 5 9 = aH1 h 5 9 ||| z := by unfold aH2; rw [hu_s, upd_s]
    have e10 : aH3 n h z 5 10 = aH1 h 5 10 := by unfold aH3; rw [hu_s, upd_n _ (by omega)]; unfold aH2; rw [hu_s, upd_n _ (by omega)]
    refine ⟨?_, by rw [e10]; exact h1.2⟩
    rw [e9, e2]
    exact aBk_say _ _ hn (aBk_z hn hz h1.1) n (Nat.le_refl n)
  have h4 : aBs n (aH4 n h z) := aBs_draws hn h3 n (Nat.le_refl n)
  have h5 : aBs n (aH5 n h z) := by
    unfold aH5
    split
    · unfold aBs
      rw [aDrk_5]
      exact h4
    · exact h4
  unfold aHr aBs
  rw [hu_s, upd_n _ (by omega), upd_n _ (by omega)]
  exact h5
theorem aBs_hrs {n : Nat} {h : xh} (hn : n ≤ 6) (H : aBs n h) : ∀ k, aBs n (aHrs n h k)
  | 0 => H
  | k + 1 => aBs_hr hn (Or.inl rfl) (aBs_hrs hn H k)
/-- what holds of what there is -/
def aNow (n : Nat) (h : xh) : Prop := aBd n h ∧ (∃ t, t ≤ 999 ∧ h 5 8 = nI t) ∧ aBs n h ∧ h 5 11 = 0
theorem aTm_of {n : Nat} {h : xh} (H : ∃ t, t ≤ 999 ∧ h 5 8 = nI t) (k : Nat) (hk : k ≤ 1000) : aTm (aHrs n h k) := by
  obtain ⟨t, ht, e⟩ := H
  exact ⟨t + k, by omega, by rw [aHrs_8, e, nI_add]⟩
theorem aLm_eq {n : Nat} {h : xh} (hB : aBd n h) (h0 : 0 < n) : aLm h n = aLh h n := by
  have key : ∀ k, k < n → aLm h (k + 1) = aLh h (k + 1) := by
    intro k
    induction k with
    | zero =>
      intro hk
      obtain ⟨-, ⟨a, ha, ea⟩, -⟩ := hB.2.2.2 0 hk
      show xmn (nI 1000000000) (h 3 0) = xmn (nI 99) (h 3 0)
      rw [ea, xmn_nI (by omega) (by omega), xmn_nI (by omega) (by omega)]
      rw [Nat.min_eq_right (by omega), Nat.min_eq_right (by omega)]
    | succ k ih =>
      intro hk
      unfold aLm aLh
      rw [ih (by omega)]
  obtain ⟨m, rfl⟩ : ∃ m, n = m + 1 := ⟨n - 1, by omega⟩
  exact key m (by omega)
