/-! an hour of the hill -/
def aSay (t : Int32) (h : xh) (s : Int32) : Nat → Int32
  | 0 => s
  | p + 1 => if ¬ xbt (h 5 11) p ∧ aSH (h 0 p) (h 1 p) = t then aSay t h s p ||| 1 <<< (nI p &&& 31) else aSay t h s p
def aDraws (n : Nat) (h : xh) : Nat → xh
  | 0 => h
  | p + 1 => if aMay (aDraws n h p) p then aDraw n (aDraws n h p) p else aDraws n h p
def aDrk (h : xh) : Nat → xh
  | 0 => h
  | p + 1 => hu (aDrk h p) 3 p (xmx 0 (aDrk h p 3 p - aDr (aDrk h p 0 p)))
def aDawn (h : xh) : xh := hu (hu (hu h 5 9 0) 5 10 0) 5 6 (xmn 99 (h 5 6 + h 5 7))
def aT (h : xh) : Int32 := h 5 8 - h 5 8 / 12 * 12
def aH1 (h : xh) : xh := if aT h = 0 then aDawn h else h
def aH2 (h : xh) (z : Int32) : xh := hu (aH1 h) 5 9 (aH1 h 5 9 ||| z)
def aH3 (n : Nat) (h : xh) (z : Int32) : xh := hu (aH2 h z) 5 9 (aSay (aT h) (aH2 h z) (aH2 h z 5 9) n)
def aH4 (n : Nat) (h : xh) (z : Int32) : xh := aDraws n (aH3 n h z) n
def aH5 (n : Nat) (h : xh) (z : Int32) : xh := if aT h = 11 then aDrk (aH4 n h z) n else aH4 n h z
def aHr (n : Nat) (h : xh) (z : Int32) : xh := hu (aH5 n h z) 5 8 (aH5 n h z 5 8 + 1)
def aHrs (n : Nat) (h : xh) : Nat → xh
  | 0 => h
  | k + 1 => aHr n (aHrs n h k) 0
/-- the friends are numbers 0 .. 5, the people six at most -/
def aOk (n : Nat) (h : xh) : Prop := n ≤ 6 ∧ ∀ p, p < n → h 4 p = nI (aFr h p) ∧ aFr h p ≤ 5
theorem hu_hu (h : xh) (j p : Nat) (v w : Int32) : hu (hu h j p v) j p w = hu h j p w := by
  funext j' p'
  by_cases hj : j' = j
  · subst hj
    rw [hu_s, hu_s, hu_s]
    by_cases hp : p' = p
    · subst hp
      rw [upd_s, upd_s]
    · rw [upd_n _ hp, upd_n _ hp, upd_n _ hp]
  · rw [hu_n hj, hu_n hj, hu_n hj]
theorem hu_id (h : xh) (j p : Nat) : hu h j p (h j p) = h := by
  funext j' p'
  by_cases hj : j' = j
  · subst hj
    rw [hu_s]
    by_cases hp : p' = p
    · subst hp
      rw [upd_s]
    · rw [upd_n _ hp]
  · rw [hu_n hj]
theorem aDraw_4 (n : Nat) (h : xh) (p : Nat) : aDraw n h p 4 = h 4 := by
  unfold aDraw
  split
  · split <;> rfl
  · rfl
theorem aDraw_0 (n : Nat) (h : xh) (p : Nat) : aDraw n h p 0 = h 0 := by
  unfold aDraw
  split
  · split <;> rfl
  · rfl
theorem aDraws_4 (n : Nat) (h : xh) : ∀ p, aDraws n h p 4 = h 4
  | 0 => rfl
  | p + 1 => by
    unfold aDraws
    split
    · rw [aDraw_4]; exact aDraws_4 n h p
    · exact aDraws_4 n h p
theorem aDrk_4 (h : xh) : ∀ p, aDrk h p 4 = h 4
  | 0 => rfl
  | p + 1 => by
    unfold aDrk
    rw [hu_n (by omega)]
    exact aDrk_4 h p
theorem aOk.of {n : Nat} {h h' : xh} (H : aOk n h) (e : h' 4 = h 4) : aOk n h' := ⟨H.1, fun p hp => by
  unfold aFr
  rw [e]
  exact H.2 p hp⟩
theorem aH1_4 (h : xh) : aH1 h 4 = h 4 := by
  unfold aH1
  split <;> rfl
theorem aH3_4 (n : Nat) (h : xh) (z : Int32) : aH3 n h z 4 = h 4 := aH1_4 h
theorem aHr_4 (n : Nat) (h : xh) (z : Int32) : aHr n h z 4 = h 4 := by
  unfold aHr
  rw [hu_n (by omega)]
  unfold aH5
  split
  · rw [aDrk_4]
    unfold aH4
    rw [aDraws_4]
    exact aH3_4 n h z
  · unfold aH4
    rw [aDraws_4]
    exact aH3_4 n h z
theorem aHrs_4 (n : Nat) (h : xh) : ∀ k, aHrs n h k 4 = h 4
  | 0 => rfl
  | k + 1 => by
    unfold aHrs
    rw [aHr_4]
    exact aHrs_4 n h k
section X0C
variable {M : xM} {i : Fin 3} {n : Nat} {h : xh} {R : xR}
theorem c0_beginDay (hR : xRc M i n h) (hk : ∀ M', xRc M' i n (aDawn h) → xfr i M M' → R none M') : xWP pg_X0_beginDay 0 ([some (xo (xH i))], [], M) R := by
  refine xgo [] 100 ⟨trivial, ?_⟩
  have e6 : xup (xup M (xH i) 9 0) (xH i) 10 0 (xH i) 6 = h 5 6 := by rw [xup_s, upd_n _ (by omega), xup_s, upd_n _ (by omega)]; exact hR.s6
  have e7 : xup (xup M (xH i) 9 0) (xH i) 10 0 (xH i) 7 = h 5 7 := by rw [xup_s, upd_n _ (by omega), xup_s, upd_n _ (by omega)]; exact hR.s7
  rw [e6, e7]
  exact hk _ (((hR.us 9 (by omega) 0).us 10 (by omega) 0).us 6 (by omega) _) (((xfr.rf.us 9 _).us 10 _).us 6 _)
theorem l0_letSpeakAt (t : Int32) {M0 : xM} (hn : n ≤ 6) (hk : ∀ M', xRc M' i n (hu h 5 9 (aSay t h (h 5 9) n)) → xfr i M0 M' → R none M') : ∀ (d k : Nat) (M : xM), k + d = n → xRc M i n (hu h 5 9 (aSay t h (h 5 9) k)) → xfr i M0 M → xWP pg_X0_letSpeakAt 2 ([some (xo (xH i)), some (xi t), some (xi (nI k))], [], M) R := by
  intro d
  induction d with
  | zero =>
    intro k M hkd hR hF
    have : k = n := by omega
    subst this
    refine xgo [] 100 ⟨fun c => ⟨trivial, hk M hR hF⟩, fun c => absurd (by rw [hR.s5]; exact nI_le (Nat.le_refl _) (by omega)) c⟩
  | succ d ih =>
    intro k M hkd hR hF
    have hkn : k < n := by omega
    refine xgo [2] 100 ⟨fun c => absurd c (by rw [hR.s5]; exact nI_ge hkn (by omega)), fun _ => ⟨rfl, c0_isHushed k hR (fun q => ?_) (fun q => ?_)⟩⟩
    · refine ⟨fun z => absurd z (by decide), fun _ => ?_⟩
      show xWP pg_X0_letSpeakAt 2 ([some (xo (xH i)), some (xi t), some (xi (nI k + 1))], [], M) R
      rw [nI_1]
      refine ih (k + 1) M (by omega) ?_ hF
      unfold aSay
      rw [if_neg (fun z => z.1 q)]
      exact hR
    · refine ⟨fun _ => ⟨rfl, c0_speakingHour k hR hkn hn ?_⟩, fun z => absurd rfl z⟩
      refine ⟨fun c => ?_, fun c => ?_⟩
      · show xWP pg_X0_letSpeakAt 2 ([some (xo (xH i)), some (xi t), some (xi (nI k + 1))], [], xup M (xH i) 9 (M (xH i) 9 ||| 1 <<< (nI k &&& 31))) R
        rw [nI_1]
        refine ih (k + 1) _ (by omega) ?_ (hF.us 9 _)
        unfold aSay
        rw [if_pos ⟨q, c⟩]
        have := hR.us 9 (by omega) (M (xH i) 9 ||| 1 <<< (nI k &&& 31))
        rw [hu_hu] at this
        have e9 : M (xH i) 9 = aSay t h (h 5 9) k := hR.s9
        rw [e9] at this ⊢
        exact this
      · show xWP pg_X0_letSpeakAt 2 ([some (xo (xH i)), some (xi t), some (xi (nI k + 1))], [], M) R
        rw [nI_1]
        refine ih (k + 1) M (by omega) ?_ hF
        unfold aSay
        rw [if_neg (fun z => c z.2)]
        exact hR
theorem c0_letSpeakAt (t : Int32) (hn : n ≤ 6) (hR : xRc M i n h) (hk : ∀ M', xRc M' i n (hu h 5 9 (aSay t h (h 5 9) n)) → xfr i M M' → R none M') : xWP pg_X0_letSpeakAt 0 ([some (xo (xH i)), some (xi t), none], [], M) R := by
  refine xgo [2] 100 ?_
  exact l0_letSpeakAt t hn hk n 0 M (by omega) (by unfold aSay; rw [hu_id]; exact hR) xfr.rf
theorem l0_letDrink {M0 : xM} (hn : n ≤ 6) (hk : ∀ M', xRc M' i n (aDrk h n) → xfr i M0 M' → R none M') : ∀ (d k : Nat) (M : xM), k + d = n → xRc M i n (aDrk h k) → xfr i M0 M → xWP pg_X0_letDrink 2 ([some (xo (xH i)), some (xi (nI k))], [], M) R := by
  intro d
  induction d with
  | zero =>
    intro k M hkd hR hF
    have : k = n := by omega
    subst this
    refine xgo [] 100 ⟨fun c => ⟨trivial, hk M hR hF⟩, fun c => absurd (by rw [hR.s5]; exact nI_le (Nat.le_refl _) (by omega)) c⟩
  | succ d ih =>
    intro k M hkd hR hF
    have hkn : k < n := by omega
    refine xgo [2] 100 ⟨fun c => absurd c (by rw [hR.s5]; exact nI_ge hkn (by omega)), fun _ => ⟨xin6 hkn hn, rfl, c0_drinkOf k hR hkn hn ?_⟩⟩
    refine ⟨xin6 hkn hn, ?_⟩
    show xWP pg_X0_letDrink 2 ([some (xo (xH i)), some (xi (nI k + 1))], [], xup M (xA 3 i) (nI k).toNatClampNeg (xmx 0 (M (xA 3 i) (nI k).toNatClampNeg - aDr (aDrk h k 0 k)))) R
    rw [nI_1, xcl hkn hn, hR.a3 hkn]
    exact ih (k + 1) _ (by omega) (hR.ua 3 k _) (hF.ua 3 k _)
theorem c0_letDrink (hn : n ≤ 6) (hR : xRc M i n h) (hk : ∀ M', xRc M' i n (aDrk h n) → xfr i M M' → R none M') : xWP pg_X0_letDrink 0 ([some (xo (xH i)), none], [], M) R := by
  refine xgo [2] 100 ?_
  exact l0_letDrink hn hk n 0 M (by omega) hR xfr.rf
theorem l0_passHour (t z : Int32) {M0 : xM} {h : xh} (hO : aOk n h) (hk : ∀ M, xRc M i n (aDraws n h n) → xfr i M0 M → xWP pg_X0_passHour 60 ([some (xo (xH i)), some (xi z), some (xi t), some (xi (nI n))], [], M) R) : ∀ (d k : Nat) (M : xM), k + d = n → xRc M i n (aDraws n h k) → xfr i M0 M → xWP pg_X0_passHour 33 ([some (xo (xH i)), some (xi z), some (xi t), some (xi (nI k))], [], M) R := by
  intro d
  have hn := hO.1
  induction d with
  | zero =>
    intro k M hkd hR hF
    have : k = n := by omega
    subst this
    exact xgo [60] 100 ⟨fun c => hk M hR hF, fun c => absurd (by rw [hR.s5]; exact nI_le (Nat.le_refl _) (by omega)) c⟩
  | succ d ih =>
    intro k M hkd hR hF
    have hkn : k < n := by omega
    have hO' := hO.of (aDraws_4 n h k)
    refine xgo [33] 100 ⟨fun c => absurd c (by rw [hR.s5]; exact nI_ge hkn (by omega)), fun _ => ⟨rfl, c0_mayDraw k hR hkn hn (fun q => ?_) (fun q => ?_)⟩⟩
    · refine ⟨fun z => absurd z (by decide), fun _ => ⟨rfl, c0_letDraw k hR hkn hn (hO'.2 k hkn).1 (hO'.2 k hkn).2 (fun M1 hR1 hF1 => ?_)⟩⟩
      show xWP pg_X0_passHour 33 ([some (xo (xH i)), some (xi z), some (xi t), some (xi (nI k + 1))], [], M1) R
      rw [nI_1]
      refine ih (k + 1) M1 (by omega) ?_ (hF.tr hF1)
      unfold aDraws
      rw [if_pos q]
      exact hR1
    · refine ⟨fun _ => ?_, fun z => absurd rfl z⟩
      show xWP pg_X0_passHour 33 ([some (xo (xH i)), some (xi z), some (xi t), some (xi (nI k + 1))], [], M) R
      rw [nI_1]
      refine ih (k + 1) M (by omega) ?_ hF
      unfold aDraws
      rw [if_neg q]
      exact hR
theorem c0_passHour (z : Int32) (hO : aOk n h) (hR : xRc M i n h) (hk : ∀ M', xRc M' i n (aHr n h z) → xfr i M M' → R none M') : xWP pg_X0_passHour 0 ([some (xo (xH i)), some (xi z), none, none], [], M) R := by
  have hn := hO.1
  have k2 : ∀ M1, xRc M1 i n (aH1 h) → xfr i M M1 → xWP pg_X0_passHour 16 ([some (xo (xH i)), some (xi z), some (xi (aT h)), none], [], M1) R := by
    intro M1 hR1 hF1
    refine xgo [33] 100 ⟨rfl, ?_⟩
    have e9 : M1 (xH i) 9 = aH1 h 5 9 := hR1.s9
    rw [e9]
    have hR2 : xRc (xup M1 (xH i) 9 (aH1 h 5 9 ||| z)) i n (aH2 h z) := hR1.us 9 (by omega) _
    refine c0_letSpeakAt (aT h) hn hR2 (fun M3 hR3 hF3 => ?_)
    show xWP pg_X0_passHour 33 ([some (xo (xH i)), some (xi z), some (xi (aT h)), some (xi (nI 0))], [], M3) R
    have hF3' : xfr i M M3 := (hF1.us 9 _).tr hF3
    refine l0_passHour (aT h) z (hO.of (aH3_4 n h z)) (fun M4 hR4 hF4 => ?_) n 0 M3 (by omega) hR3 hF3'
    refine xgo [70] 100 ⟨fun c => ⟨rfl, c0_letDrink hn hR4 (fun M5 hR5 hF5 => ?_)⟩, fun c => ?_⟩
    · refine xgo [] 100 ⟨trivial, ?_⟩
      have hR6 : xRc M5 i n (aH5 n h z) := by unfold aH5; rw [if_pos c]; exact hR5
      rw [hR6.s8]
      exact hk _ (hR6.us 8 (by omega) _) ((hF4.tr hF5).us 8 _)
    · refine xgo [] 100 ⟨trivial, ?_⟩
      have hR6 : xRc M4 i n (aH5 n h z) := by unfold aH5; rw [if_neg c]; exact hR4
      rw [hR6.s8]
      exact hk _ (hR6.us 8 (by omega) _) (hF4.us 8 _)
  refine xgo [8] 100 ⟨by decide, ?_⟩
  show xWP pg_X0_passHour 8 ([some (xo (xH i)), some (xi z), some (xi (M (xH i) 8 - M (xH i) 8 / 12 * 12)), none], [], M) R
  rw [hR.s8]
  refine xgo [16] 100 ⟨fun c => ⟨rfl, c0_beginDay hR (fun M1 hR1 hF1 => ?_)⟩, fun c => ?_⟩
  · exact k2 M1 (by unfold aH1; rw [if_pos (show aT h = 0 from c)]; exact hR1) hF1
  · exact k2 M (by unfold aH1; rw [if_neg (show ¬ aT h = 0 from c)]; exact hR) xfr.rf
theorem l0_passHours (m : Nat) (hm : m < 1000) {M0 : xM} (hO : aOk n h) (hk : ∀ M', xRc M' i n (aHrs n h m) → xfr i M0 M' → R none M') : ∀ (d k : Nat) (M : xM), k + d = m → xRc M i n (aHrs n h k) → xfr i M0 M → xWP pg_X0_passHours 2 ([some (xo (xH i)), some (xi (nI m)), some (xi (nI k))], [], M) R := by
  intro d
  induction d with
  | zero =>
    intro k M hkd hR hF
    have : k = m := by omega
    subst this
    exact xgo [] 100 ⟨fun c => ⟨trivial, hk M hR hF⟩, fun c => absurd (nI_le (Nat.le_refl _) (by omega)) c⟩
  | succ d ih =>
    intro k M hkd hR hF
    refine xgo [2] 100 ⟨fun c => absurd c (nI_ge (by omega) (by omega)), fun _ => ⟨rfl, c0_passHour 0 (hO.of (aHrs_4 n h k)) hR (fun M1 hR1 hF1 => ?_)⟩⟩
    show xWP pg_X0_passHours 2 ([some (xo (xH i)), some (xi (nI m)), some (xi (nI k + 1))], [], M1) R
    rw [nI_1]
    exact ih (k + 1) M1 (by omega) hR1 (hF.tr hF1)
theorem c0_passHours (m : Nat) (hm : m < 1000) (hO : aOk n h) (hR : xRc M i n h) (hk : ∀ M', xRc M' i n (aHrs n h m) → xfr i M M' → R none M') : xWP pg_X0_passHours 0 ([some (xo (xH i)), some (xi (nI m)), none], [], M) R := by
  refine xgo [2] 100 ?_
  exact l0_passHours m hm hO hk m 0 M (by omega) hR xfr.rf
end X0C
