/-! ===== the hill's further methods ===== -/
theorem xNh_of {i j : Fin 3} (hij : j ≠ i) : xNh i (xH j) ∧ ∀ a, xNh i (xA a j) := by
  refine ⟨⟨fun e => hij (Sum.inl.inj e), fun k e => (by cases e)⟩, fun a => ⟨fun e => (by cases e), fun k e => ?_⟩⟩
  have := Sum.inl.inj (Sum.inr.inj e)
  exact hij (congrArg Prod.snd this)
theorem xRc.fr {M M' : xM} {i j : Fin 3} {n : Nat} {h : xh} (hR : xRc M j n h) (hF : xfr i M M') (hij : j ≠ i) : xRc M' j n h := by
  obtain ⟨h1, h2⟩ := xNh_of hij
  refine ⟨by rw [hF _ h1]; exact hR.1, fun k a b => by rw [hF _ h1]; exact hR.2.1 k a b, fun k p hp => by rw [hF _ (h2 k)]; exact hR.2.2 k p hp⟩
theorem xRc_mk {M : xM} {i : Fin 3} {n : Nat} {h : xh} (H : ∀ (a : Fin 5) (q : Nat), q < n → M (xA a i) q = h a.val q) : xRc (xup (xup (xup (xup (xup (xup (xup M (xH i) 5 (nI n)) (xH i) 6 (h 5 6)) (xH i) 7 (h 5 7)) (xH i) 8 (h 5 8)) (xH i) 9 (h 5 9)) (xH i) 10 (h 5 10)) (xH i) 11 (h 5 11)) i n h := by
  refine ⟨?_, fun k h1 h2 => ?_, fun k p hp => ?_⟩
  · rw [xup_s, upd_n _ (by omega), xup_s, upd_n _ (by omega), xup_s, upd_n _ (by omega), xup_s, upd_n _ (by omega), xup_s, upd_n _ (by omega), xup_s, upd_n _ (by omega), xup_s, upd_s]
  · have hk : k = 6 ∨ k = 7 ∨ k = 8 ∨ k = 9 ∨ k = 10 ∨ k = 11 := by omega
    rcases hk with rfl | rfl | rfl | rfl | rfl | rfl
    · rw [xup_s, upd_n _ (by omega), xup_s, upd_n _ (by omega), xup_s, upd_n _ (by omega), xup_s, upd_n _ (by omega), xup_s, upd_n _ (by omega), xup_s, upd_s]
    · rw [xup_s, upd_n _ (by omega), xup_s, upd_n _ (by omega), xup_s, upd_n _ (by omega), xup_s, upd_n _ (by omega), xup_s, upd_s]
    · rw [xup_s, upd_n _ (by omega), xup_s, upd_n _ (by omega), xup_s, upd_n _ (by omega), xup_s, upd_s]
    · rw [xup_s, upd_n _ (by omega), xup_s, upd_n _ (by omega), xup_s, upd_s]
    · rw [xup_s, upd_n _ (by omega), xup_s, upd_s]
    · rw [xup_s, upd_s]
  · have hne : xA k i ≠ xH i := fun e => by cases e
    rw [xup_n hne, xup_n hne, xup_n hne, xup_n hne, xup_n hne, xup_n hne, xup_n hne]
    exact H k p hp
section X0D
variable {M : xM} {i j : Fin 3} {n : Nat} {h : xh} {R : xR}
theorem l0_copyFrom {M0 : xM} (hij : j ≠ i) (hn : n ≤ 6) (hR0 : xRc M0 j n h) (hk : ∀ M', xRc M' i n h → xfr i M0 M' → R none M') : ∀ (d k : Nat) (M : xM), k + d = n → (∀ (a : Fin 5) (q : Nat), q < k → M (xA a i) q = h a.val q) → xfr i M0 M → xWP pg_X0_copyFrom 2 ([some (xo (xH i)), some (xo (xH j)), some (xi (nI k))], [], M) R := by
  intro d
  induction d with
  | zero =>
    intro k M hkd hA hF
    have : k = n := by omega
    subst this
    have hRj := hR0.fr hF hij
    have hne : xH j ≠ xH i := fun e => hij (Sum.inl.inj e)
    refine xgo [] 200 ⟨fun _ => ⟨trivial, ?_⟩, fun c => absurd (by rw [hRj.s5]; exact nI_le (Nat.le_refl _) (by omega)) c⟩
    simp only [xup_n hne]
    rw [hRj.s5, hRj.s6, hRj.s7, hRj.s8, hRj.s9, hRj.s10, hRj.s11]
    exact hk _ (xRc_mk hA) (((((((hF.us 5 _).us 6 _).us 7 _).us 8 _).us 9 _).us 10 _).us 11 _)
  | succ d ih =>
    intro k M hkd hA hF
    have hkn : k < n := by omega
    have hRj := hR0.fr hF hij
    have hne : ∀ a b, xA a j ≠ xA b i := fun a b e => hij (congrArg Prod.snd (Sum.inl.inj (Sum.inr.inj e)))
    refine xgo [2] 200 ⟨fun c => absurd c (by rw [hRj.s5]; exact nI_ge hkn (by omega)), fun _ => ⟨xin6 hkn hn, xin6 hkn hn, xin6 hkn hn, xin6 hkn hn, xin6 hkn hn, xin6 hkn hn, xin6 hkn hn, xin6 hkn hn, xin6 hkn hn, xin6 hkn hn, ?_⟩⟩
    simp only [xup_n (hne _ _)]
    rw [xcl hkn hn, hRj.a0 hkn, hRj.a1 hkn, hRj.a2 hkn, hRj.a3 hkn, hRj.a4 hkn]
    show xWP pg_X0_copyFrom 2 ([some (xo (xH i)), some (xo (xH j)), some (xi (nI k + 1))], [], xup (xup (xup (xup (xup M (xA 0 i) k (h 0 k)) (xA 1 i) k (h 1 k)) (xA 2 i) k (h 2 k)) (xA 3 i) k (h 3 k)) (xA 4 i) k (h 4 k)) R
    rw [nI_1]
    refine ih (k + 1) _ (by omega) (fun a q hq => ?_) (((((hF.ua 0 k _).ua 1 k _).ua 2 k _).ua 3 k _).ua 4 k _)
    have ha : a = 0 ∨ a = 1 ∨ a = 2 ∨ a = 3 ∨ a = 4 := by
      have := a.isLt
      have h5 : a.val = 0 ∨ a.val = 1 ∨ a.val = 2 ∨ a.val = 3 ∨ a.val = 4 := by omega
      rcases h5 with e | e | e | e | e
      · exact Or.inl (Fin.ext e)
      · exact Or.inr (Or.inl (Fin.ext e))
      · exact Or.inr (Or.inr (Or.inl (Fin.ext e)))
      · exact Or.inr (Or.inr (Or.inr (Or.inl (Fin.ext e))))
      · exact Or.inr (Or.inr (Or.inr (Or.inr (Fin.ext e))))
    have nA : ∀ a b : Fin 5, a ≠ b → xA a i ≠ xA b i := fun a b hab e => hab (congrArg Prod.fst (Sum.inl.inj (Sum.inr.inj e)))
    by_cases hqk : q = k
    · subst hqk
      rcases ha with rfl | rfl | rfl | rfl | rfl
      · rw [xup_n (nA _ _ (by decide)), xup_n (nA _ _ (by decide)), xup_n (nA _ _ (by decide)), xup_n (nA _ _ (by decide)), xup_s, upd_s]; rfl
      · rw [xup_n (nA _ _ (by decide)), xup_n (nA _ _ (by decide)), xup_n (nA _ _ (by decide)), xup_s, upd_s]; rfl
      · rw [xup_n (nA _ _ (by decide)), xup_n (nA _ _ (by decide)), xup_s, upd_s]; rfl
      · rw [xup_n (nA _ _ (by decide)), xup_s, upd_s]; rfl
      · rw [xup_s, upd_s]; rfl
    · have hA' := hA a q (by omega)
      rcases ha with rfl | rfl | rfl | rfl | rfl
      · rw [xup_n (nA _ _ (by decide)), xup_n (nA _ _ (by decide)), xup_n (nA _ _ (by decide)), xup_n (nA _ _ (by decide)), xup_s, upd_n _ hqk]; exact hA'
      · rw [xup_n (nA _ _ (by decide)), xup_n (nA _ _ (by decide)), xup_n (nA _ _ (by decide)), xup_s, upd_n _ hqk, xup_n (nA _ _ (by decide))]; exact hA'
      · rw [xup_n (nA _ _ (by decide)), xup_n (nA _ _ (by decide)), xup_s, upd_n _ hqk, xup_n (nA _ _ (by decide)), xup_n (nA _ _ (by decide))]; exact hA'
      · rw [xup_n (nA _ _ (by decide)), xup_s, upd_n _ hqk, xup_n (nA _ _ (by decide)), xup_n (nA _ _ (by decide)), xup_n (nA _ _ (by decide))]; exact hA'
      · rw [xup_s, upd_n _ hqk, xup_n (nA _ _ (by decide)), xup_n (nA _ _ (by decide)), xup_n (nA _ _ (by decide)), xup_n (nA _ _ (by decide))]; exact hA'
theorem c0_copyFrom (hij : j ≠ i) (hn : n ≤ 6) (hR : xRc M j n h) (hk : ∀ M', xRc M' i n h → xfr i M M' → R none M') : xWP pg_X0_copyFrom 0 ([some (xo (xH i)), some (xo (xH j)), none], [], M) R := by
  refine xgo [2] 100 ?_
  exact l0_copyFrom hij hn hR hk n 0 M (by omega) (fun a q hq => by omega) xfr.rf
theorem l0_together (hn : n ≤ 6) (hR : xRc M i n h) (hk : R (some (xi (aAll h n))) M) : ∀ (d k : Nat), k + d = n → xWP pg_X0_together 4 ([some (xo (xH i)), some (xi (aAll h k)), some (xi (nI k))], [], M) R := by
  intro d
  induction d with
  | zero =>
    intro k hkd
    have : k = n := by omega
    subst this
    exact xgo [] 100 ⟨fun _ => ⟨trivial, hk⟩, fun c => absurd (by rw [hR.s5]; exact nI_le (Nat.le_refl _) (by omega)) c⟩
  | succ d ih =>
    intro k hkd
    have hkn : k < n := by omega
    refine xgo [4] 100 ⟨fun c => absurd c (by rw [hR.s5]; exact nI_ge hkn (by omega)), fun _ => ⟨xin6 hkn hn, ?_⟩⟩
    rw [xcl hkn hn, hR.a3 hkn]
    show xWP pg_X0_together 4 ([some (xo (xH i)), some (xi (aAll h (k + 1))), some (xi (nI k + 1))], [], M) R
    rw [nI_1]
    exact ih (k + 1) (by omega)
theorem c0_together (hn : n ≤ 6) (hR : xRc M i n h) (hk : R (some (xi (aAll h n))) M) : xWP pg_X0_together 0 ([some (xo (xH i)), none, none], [], M) R :=
  xgo [4] 100 (l0_together hn hR hk n 0 (by omega))
theorem l0_leastHas (hn : n ≤ 6) (hR : xRc M i n h) (hk : R (some (xi (aLh h n))) M) : ∀ (d k : Nat), k + d = n → xWP pg_X0_leastHas 5 ([some (xo (xH i)), some (xi (aLh h k)), some (xi (nI k))], [], M) R := by
  intro d
  induction d with
  | zero =>
    intro k hkd
    have : k = n := by omega
    subst this
    exact xgo [] 100 ⟨fun _ => ⟨trivial, hk⟩, fun c => absurd (by rw [hR.s5]; exact nI_le (Nat.le_refl _) (by omega)) c⟩
  | succ d ih =>
    intro k hkd
    have hkn : k < n := by omega
    refine xgo [5] 100 ⟨fun c => absurd c (by rw [hR.s5]; exact nI_ge hkn (by omega)), fun _ => ⟨xin6 hkn hn, ?_⟩⟩
    rw [xcl hkn hn, hR.a3 hkn]
    show xWP pg_X0_leastHas 5 ([some (xo (xH i)), some (xi (aLh h (k + 1))), some (xi (nI k + 1))], [], M) R
    rw [nI_1]
    exact ih (k + 1) (by omega)
theorem c0_leastHas (hn : n ≤ 6) (hR : xRc M i n h) (hk : R (some (xi (aLh h n))) M) : xWP pg_X0_leastHas 0 ([some (xo (xH i)), none, none], [], M) R :=
  xgo [5] 100 (l0_leastHas hn hR hk n 0 (by omega))
theorem l0_dryPeople (hn : n ≤ 6) (hR : xRc M i n h) (hk : R (some (xi (aDry h n))) M) : ∀ (d k : Nat), k + d = n → xWP pg_X0_dryPeople 4 ([some (xo (xH i)), some (xi (aDry h k)), some (xi (nI k))], [], M) R := by
  intro d
  induction d with
  | zero =>
    intro k hkd
    have : k = n := by omega
    subst this
    exact xgo [] 100 ⟨fun _ => ⟨trivial, hk⟩, fun c => absurd (by rw [hR.s5]; exact nI_le (Nat.le_refl _) (by omega)) c⟩
  | succ d ih =>
    intro k hkd
    have hkn : k < n := by omega
    have := ih (k + 1) (by omega)
    unfold aDry at this
    refine xgo [4] 100 ⟨fun c => absurd c (by rw [hR.s5]; exact nI_ge hkn (by omega)), fun _ => ⟨xin6 hkn hn, ?_⟩⟩
    rw [xcl hkn hn, hR.a3 hkn]
    refine ⟨fun c => ?_, fun c => ?_⟩
    · rw [if_pos c] at this
      show xWP pg_X0_dryPeople 4 ([some (xo (xH i)), some (xi (aDry h k ||| 1 <<< (nI k &&& 31))), some (xi (nI k + 1))], [], M) R
      rw [nI_1]
      exact this
    · rw [if_neg c] at this
      show xWP pg_X0_dryPeople 4 ([some (xo (xH i)), some (xi (aDry h k)), some (xi (nI k + 1))], [], M) R
      rw [nI_1]
      exact this
theorem c0_dryPeople (hn : n ≤ 6) (hR : xRc M i n h) (hk : R (some (xi (aDry h n))) M) : xWP pg_X0_dryPeople 0 ([some (xo (xH i)), none, none], [], M) R :=
  xgo [4] 100 (l0_dryPeople hn hR hk n 0 (by omega))
theorem c_bitCount (a : Int32) (hk : R (some (xi (xbc a))) M) : xWP pg_J6_bitCount_0f7a4 0 ([some (xi a)], [], M) R :=
  xgo [] 100 ⟨trivial, hk⟩
theorem c0_countDry (hn : n ≤ 6) (hR : xRc M i n h) (hk : R (some (xi (xbc (aDry h n)))) M) : xWP pg_X0_countDry 0 ([some (xo (xH i))], [], M) R :=
  xgo [] 100 ⟨rfl, c0_dryPeople hn hR ⟨rfl, c_bitCount _ ⟨trivial, hk⟩⟩⟩
theorem c0_everybody (hR : xRc M i n h) (hk : R (some (xi (1 <<< (nI n &&& 31) - 1))) M) : xWP pg_X0_everybody 0 ([some (xo (xH i))], [], M) R := by
  rw [← hR.s5] at hk
  exact xgo [] 100 ⟨trivial, hk⟩
/-- nobody of 'some' is dry behind 0 .. m hours -/
def aWet (n : Nat) (h : xh) (w : Int32) (m : Nat) : Prop := ∀ k, k ≤ m → aDry (aHrs n h k) n &&& w = 0
theorem l0_staysWet {M0 : xM} (w : Int32) (m : Nat) (hm : m < 1000) (hO : aOk n h) (h1 : aWet n h w m → ∀ M', xfr i M0 M' → R (some (xi 1)) M') (h2 : ¬ aWet n h w m → ∀ M', xfr i M0 M' → R (some (xi 0)) M') : ∀ (d k : Nat) (M : xM), k + d = m + 1 → (∀ q, q < k → aDry (aHrs n h q) n &&& w = 0) → xRc M i n (aHrs n h k) → xfr i M0 M → xWP pg_X0_staysWet 2 ([some (xo (xH i)), some (xi w), some (xi (nI m)), some (xi (nI k))], [], M) R := by
  intro d
  induction d with
  | zero =>
    intro k M hkd hq hR hF
    have : k = m + 1 := by omega
    subst this
    exact xgo [] 100 ⟨fun _ => ⟨Or.inr rfl, h1 (fun q hq' => hq q (by omega)) M hF⟩, fun c => absurd (nI_lt (by omega) (by omega)) c⟩
  | succ d ih =>
    intro k M hkd hq hR hF
    have hn := hO.1
    refine xgo [2] 100 ⟨fun c => absurd c (nI_nlt (by omega) (by omega)), fun _ => ⟨rfl, c0_dryPeople hn hR ⟨fun c => ⟨rfl, ?_⟩, fun c => ⟨Or.inl rfl, h2 (fun z => c (z k (by omega))) M hF⟩⟩⟩⟩
    refine c0_passHour 0 (hO.of (aHrs_4 n h k)) hR (fun M1 hR1 hF1 => ?_)
    show xWP pg_X0_staysWet 2 ([some (xo (xH i)), some (xi w), some (xi (nI m)), some (xi (nI k + 1))], [], M1) R
    rw [nI_1]
    refine ih (k + 1) M1 (by omega) (fun q hq' => ?_) hR1 (hF.tr hF1)
    by_cases e : q = k
    · subst e; exact c
    · exact hq q (by omega)
theorem c0_staysWet (w : Int32) (m : Nat) (hm : m < 1000) (hO : aOk n h) (hR : xRc M i n h) (h1 : aWet n h w m → ∀ M', xfr i M M' → R (some (xi 1)) M') (h2 : ¬ aWet n h w m → ∀ M', xfr i M M' → R (some (xi 0)) M') : xWP pg_X0_staysWet 0 ([some (xo (xH i)), some (xi w), some (xi (nI m)), none], [], M) R :=
  xgo [2] 100 (l0_staysWet w m hm hO h1 h2 (m + 1) 0 M (by omega) (fun q hq => by omega) hR xfr.rf)
def aGiv (h : xh) (p : Nat) : xh := hu (hu h 5 6 (xmn 99 (h 5 6 + h 3 p))) 3 p 0
theorem c0_giveToWell (p : Nat) (hn : n ≤ 6) (hp : p < n) (hR : xRc M i n h) (hk : ∀ M', xRc M' i n (aGiv h p) → xfr i M M' → R none M') : xWP pg_X0_giveToWell 0 ([some (xo (xH i)), some (xi (nI p))], [], M) R := by
  refine xgo [] 100 ⟨xin6 hp hn, xin6 hp hn, trivial, ?_⟩
  rw [xcl hp hn, hR.a3 hp, hR.s6]
  exact hk _ ((hR.us 6 (by omega) _).ua 3 p 0) ((xfr.rf.us 6 _).ua 3 p _)
def aSpo (h : xh) (p : Nat) : xh := hu h 5 9 (h 5 9 ||| 1 <<< (nI p &&& 31))
theorem c0_letSpeak (p : Nat) (hn : n ≤ 6) (hp : p < n) (hR : xRc M i n h) (hk : ∀ M', xRc M' i n (aSpo h p) → xfr i M M' → R (some (xi 1)) M') : xWP pg_X0_letSpeak 0 ([some (xo (xH i)), some (xi (nI p))], [], M) R := by
  refine xgo [] 100 ⟨rfl, c0_isThere (nI p) hR (fun q => ?_) (fun q => absurd ⟨nI_pos' (by omega), nI_lt hp (by omega)⟩ q)⟩
  refine ⟨fun z => absurd z (by decide), fun _ => ⟨Or.inr rfl, ?_⟩⟩
  rw [hR.s9]
  exact hk _ (hR.us 9 (by omega) _) (xfr.rf.us 9 _)
theorem c0_passHourForDrawers (hO : aOk n h) (hR : xRc M i n h) (hk : ∀ M', xfr i M M' → R (some (xi (aHr n h 0 5 10 &&& ((if aT h = 0 then 0 else h 5 10) ^^^ (-1))))) M') : xWP pg_X0_passHourForDrawers 0 ([some (xo (xH i)), none], [], M) R := by
  have key : ∀ b, xWP pg_X0_passHourForDrawers 19 ([some (xo (xH i)), some (xi b)], [], M) R ∨ b ≠ (if aT h = 0 then 0 else h 5 10) := by
    intro b
    by_cases e : b = (if aT h = 0 then 0 else h 5 10)
    · refine Or.inl (xgo [] 100 ⟨rfl, c0_passHour 0 hO hR (fun M1 hR1 hF1 => ⟨trivial, ?_⟩)⟩)
      rw [hR1.s10, e]
      exact hk M1 hF1
    · exact Or.inr e
  refine xgo [] 100 ⟨by decide, ?_⟩
  rw [hR.s8]
  refine ⟨fun c => ?_, fun c => ?_⟩
  · refine ⟨rfl, c0_passHour 0 hO hR (fun M1 hR1 hF1 => ⟨trivial, ?_⟩)⟩
    rw [hR1.s10]
    have := hk M1 hF1
    rw [if_pos (show aT h = 0 from c)] at this
    exact this
  · refine ⟨rfl, ?_⟩
    rw [hR.s10]
    refine c0_passHour 0 hO hR (fun M1 hR1 hF1 => ⟨trivial, ?_⟩)
    rw [hR1.s10]
    have := hk M1 hF1
    rw [if_neg (show ¬ aT h = 0 from c)] at this
    exact this
end X0D
/-! ===== the model's further methods ===== -/
section X3E
variable {M : xM} {r : Fin 4} {n : Nat} {h : xh} {R : xR}
theorem l3_hoursOn (m : Nat) (hm : m ≤ 100) {M0 : xM} (hB : aBd n h) (hT : ∃ t, t ≤ 999 ∧ h 5 8 = nI t) (hk : ∀ M', xRm M' r n (aHrs n h m) → xfw r M0 M' → R none M') : ∀ (d k : Nat) (M : xM), k + d = m → xRm M r n (aHrs n h k) → xfw r M0 M → xWP pg_X3_hoursOn 2 ([some (xo (xW r)), some (xi (nI m)), some (xi (nI k))], [], M) R := by
  intro d
  induction d with
  | zero =>
    intro k M hkd hR hF
    have : k = m := by omega
    subst this
    exact xgo [] 100 ⟨fun c => ⟨trivial, hk M hR hF⟩, fun c => absurd (nI_le (Nat.le_refl _) (by omega)) c⟩
  | succ d ih =>
    intro k M hkd hR hF
    refine xgo [2] 100 ⟨fun c => absurd c (nI_ge (by omega) (by omega)), fun _ => ⟨rfl, c3_hour 0 (Or.inl rfl) (aBd_hrs hB k) (aTm_of hT k (by omega)) hR (fun M1 hR1 hF1 => ?_)⟩⟩
    show xWP pg_X3_hoursOn 2 ([some (xo (xW r)), some (xi (nI m)), some (xi (nI k + 1))], [], M1) R
    rw [nI_1]
    exact ih (k + 1) M1 (by omega) hR1 (hF.tr hF1)
theorem c3_hoursOn (m : Nat) (hm : m ≤ 100) (hB : aBd n h) (hT : ∃ t, t ≤ 999 ∧ h 5 8 = nI t) (hR : xRm M r n h) (hk : ∀ M', xRm M' r n (aHrs n h m) → xfw r M M' → R none M') : xWP pg_X3_hoursOn 0 ([some (xo (xW r)), some (xi (nI m)), none], [], M) R :=
  xgo [2] 100 (l3_hoursOn m hm hB hT hk m 0 M (by omega) hR xfw.rf)
theorem l3_allHave (hn : n ≤ 6) (hR : xRm M r n h) (hk : R (some (xi (aAll h n))) M) : ∀ (d k : Nat), k + d = n → xWP pg_X3_allHave 4 ([some (xo (xW r)), some (xi (aAll h k)), some (xi (nI k))], [], M) R := by
  intro d
  induction d with
  | zero =>
    intro k hkd
    have : k = n := by omega
    subst this
    refine xgo [] 100 ⟨xin47 (k := 0) (by omega), ?_⟩
    rw [hR.g0]
    exact ⟨fun _ => ⟨trivial, hk⟩, fun c => absurd (nI_le (Nat.le_refl _) (by omega)) c⟩
  | succ d ih =>
    intro k hkd
    have hkn : k < n := by omega
    refine xgo [4] 100 ⟨xin47 (k := 0) (by omega), ?_⟩
    rw [hR.g0]
    refine ⟨fun c => absurd c (nI_ge hkn (by omega)), fun _ => ⟨rfl, c3_of k 3 ⟨xof_in (by omega) (by omega), ?_⟩⟩⟩
    rw [hR.v hkn hn 3 (by omega)]
    show xWP pg_X3_allHave 4 ([some (xo (xW r)), some (xi (aAll h (k + 1))), some (xi (nI k + 1))], [], M) R
    rw [nI_1]
    exact ih (k + 1) (by omega)
theorem c3_allHave (hn : n ≤ 6) (hR : xRm M r n h) (hk : R (some (xi (aAll h n))) M) : xWP pg_X3_allHave 0 ([some (xo (xW r)), none, none], [], M) R :=
  xgo [4] 100 (l3_allHave hn hR hk n 0 (by omega))
theorem l3_leastHas (hn : n ≤ 6) (hR : xRm M r n h) (hk : R (some (xi (aLm h n))) M) : ∀ (d k : Nat), k + d = n → xWP pg_X3_leastHas 5 ([some (xo (xW r)), some (xi (aLm h k)), some (xi (nI k))], [], M) R := by
  intro d
  induction d with
  | zero =>
    intro k hkd
    have : k = n := by omega
    subst this
    refine xgo [] 100 ⟨xin47 (k := 0) (by omega), ?_⟩
    rw [hR.g0]
    exact ⟨fun _ => ⟨trivial, hk⟩, fun c => absurd (nI_le (Nat.le_refl _) (by omega)) c⟩
  | succ d ih =>
    intro k hkd
    have hkn : k < n := by omega
    refine xgo [5] 100 ⟨xin47 (k := 0) (by omega), ?_⟩
    rw [hR.g0]
    refine ⟨fun c => absurd c (nI_ge hkn (by omega)), fun _ => ⟨rfl, c3_of k 3 ⟨xof_in (by omega) (by omega), rfl, ?_⟩⟩⟩
    rw [hR.v hkn hn 3 (by omega)]
    refine c3_least _ _ ?_
    show xWP pg_X3_leastHas 5 ([some (xo (xW r)), some (xi (aLm h (k + 1))), some (xi (nI k + 1))], [], M) R
    rw [nI_1]
    exact ih (k + 1) (by omega)
theorem c3_leastHas (hn : n ≤ 6) (hR : xRm M r n h) (hk : R (some (xi (aLm h n))) M) : xWP pg_X3_leastHas 0 ([some (xo (xW r)), none, none], [], M) R :=
  xgo [5] 100 (l3_leastHas hn hR hk n 0 (by omega))
theorem l3_flagged (w : Nat) (s : Int32) (hw : w = 4 ∨ w = 5) (hs : ∀ p, aV h p w = aFl s p) (hn : n ≤ 6) (hR : xRm M r n h) (hk : R (some (xi (aFg s n))) M) : ∀ (d k : Nat), k + d = n → xWP pg_X3_flagged 4 ([some (xo (xW r)), some (xi (nI w)), some (xi (aFg s k)), some (xi (nI k))], [], M) R := by
  intro d
  induction d with
  | zero =>
    intro k hkd
    have : k = n := by omega
    subst this
    refine xgo [] 100 ⟨xin47 (k := 0) (by omega), ?_⟩
    rw [hR.g0]
    exact ⟨fun _ => ⟨trivial, hk⟩, fun c => absurd (nI_le (Nat.le_refl _) (by omega)) c⟩
  | succ d ih =>
    intro k hkd
    have hkn : k < n := by omega
    refine xgo [4] 100 ⟨xin47 (k := 0) (by omega), ?_⟩
    rw [hR.g0]
    refine ⟨fun c => absurd c (nI_ge hkn (by omega)), fun _ => ⟨rfl, c3_of k w ⟨xof_in (by omega) (by omega), ?_⟩⟩⟩
    rw [hR.v hkn hn w (by omega), hs]
    show xWP pg_X3_flagged 4 ([some (xo (xW r)), some (xi (nI w)), some (xi (aFg s (k + 1))), some (xi (nI k + 1))], [], M) R
    rw [nI_1]
    exact ih (k + 1) (by omega)
theorem c3_flagged4 (hn : n ≤ 6) (hS : aBk n (h 5 9)) (hR : xRm M r n h) (hk : R (some (xi (h 5 9))) M) : xWP pg_X3_flagged 0 ([some (xo (xW r)), some (xi 4), none, none], [], M) R :=
  xgo [4] 100 (l3_flagged 4 (h 5 9) (Or.inl rfl) (fun _ => rfl) hn hR (by rw [aFg_eq hn hS]; exact hk) n 0 (by omega))
theorem c3_flagged5 (hn : n ≤ 6) (hS : aBk n (h 5 10)) (hR : xRm M r n h) (hk : R (some (xi (h 5 10))) M) : xWP pg_X3_flagged 0 ([some (xo (xW r)), some (xi 5), none, none], [], M) R :=
  xgo [4] 100 (l3_flagged 5 (h 5 10) (Or.inr rfl) (fun _ => rfl) hn hR (by rw [aFg_eq hn hS]; exact hk) n 0 (by omega))
theorem l3_dryOnes (hn : n ≤ 6) (hR : xRm M r n h) (hk : R (some (xi (aDry h n))) M) : ∀ (d k : Nat), k + d = n → xWP pg_X3_dryOnes 4 ([some (xo (xW r)), some (xi (aDry h k)), some (xi (nI k))], [], M) R := by
  intro d
  induction d with
  | zero =>
    intro k hkd
    have : k = n := by omega
    subst this
    refine xgo [] 100 ⟨xin47 (k := 0) (by omega), ?_⟩
    rw [hR.g0]
    exact ⟨fun _ => ⟨trivial, hk⟩, fun c => absurd (nI_le (Nat.le_refl _) (by omega)) c⟩
  | succ d ih =>
    intro k hkd
    have hkn : k < n := by omega
    have := ih (k + 1) (by omega)
    unfold aDry at this
    refine xgo [4] 100 ⟨xin47 (k := 0) (by omega), ?_⟩
    rw [hR.g0]
    refine ⟨fun c => absurd c (nI_ge hkn (by omega)), fun _ => ⟨rfl, c3_of k 3 ⟨xof_in (by omega) (by omega), ?_⟩⟩⟩
    rw [hR.v hkn hn 3 (by omega), show aV h k 3 = h 3 k from rfl]
    refine ⟨fun c => ?_, fun c => ?_⟩
    · rw [if_pos c] at this
      show xWP pg_X3_dryOnes 4 ([some (xo (xW r)), some (xi (aDry h k ||| 1 <<< (nI k &&& 31))), some (xi (nI k + 1))], [], M) R
      rw [nI_1]
      exact this
    · rw [if_neg c] at this
      show xWP pg_X3_dryOnes 4 ([some (xo (xW r)), some (xi (aDry h k ||| 0)), some (xi (nI k + 1))], [], M) R
      rw [nI_1, ior_0]
      exact this
theorem c3_dryOnes (hn : n ≤ 6) (hR : xRm M r n h) (hk : R (some (xi (aDry h n))) M) : xWP pg_X3_dryOnes 0 ([some (xo (xW r)), none, none], [], M) R :=
  xgo [4] 100 (l3_dryOnes hn hR hk n 0 (by omega))
theorem l3_bits (a : Int32) (hk : R (some (xi (xbs a 6))) M) : ∀ (d k : Nat), k + d = 6 → xWP pg_X3_bits 4 ([some (xi a), some (xi (xbs a k)), some (xi (nI k))], [], M) R := by
  intro d
  induction d with
  | zero =>
    intro k hkd
    have : k = 6 := by omega
    subst this
    exact xgo [] 100 ⟨fun _ => ⟨trivial, hk⟩, fun c => absurd (nI_le (a := 6) (b := 6) (Nat.le_refl _) (by omega)) c⟩
  | succ d ih =>
    intro k hkd
    refine xgo [4] 100 ⟨fun c => absurd c (nI_ge (a := k) (b := 6) (by omega) (by omega)), fun _ => ?_⟩
    show xWP pg_X3_bits 4 ([some (xi a), some (xi (xbs a (k + 1))), some (xi (nI k + 1))], [], M) R
    rw [nI_1]
    exact ih (k + 1) (by omega)
theorem c3_bits (a : Int32) (hk : R (some (xi (xbs a 6))) M) : xWP pg_X3_bits 0 ([some (xi a), none, none], [], M) R :=
  xgo [4] 100 (l3_bits a hk 6 0 (by omega))
theorem l3_copies {r' : Fin 4} (hrr : r ≠ r') {M0 : xM} (hk : ∀ M', (∀ j, j < 47 → M' (xW r') j = M0 (xW r) j) → xfw r' M0 M' → R none M') : ∀ (d k : Nat) (M : xM), k + d = 47 → (∀ j, j < k → M (xW r') j = M0 (xW r) j) → xfw r' M0 M → xWP pg_X3_copies 2 ([some (xo (xW r)), some (xo (xW r')), some (xi (nI k))], [], M) R := by
  have hne : xW r ≠ xW r' := fun e => hrr (Sum.inl.inj (Sum.inr.inj (Sum.inr.inj e)))
  intro d
  induction d with
  | zero =>
    intro k M hkd hA hF
    have : k = 47 := by omega
    subst this
    exact xgo [] 100 ⟨fun _ => ⟨trivial, hk M hA hF⟩, fun c => absurd (nI_le (a := 47) (b := 47) (Nat.le_refl _) (by omega)) c⟩
  | succ d ih =>
    intro k M hkd hA hF
    have hc : (nI k).toNatClampNeg = k := nI_clamp (by omega)
    refine xgo [2] 100 ⟨fun c => absurd c (nI_ge (a := k) (b := 47) (by omega) (by omega)), fun _ => ⟨xin47 (by omega), xin47 (by omega), ?_⟩⟩
    rw [hc, hF _ hne]
    show xWP pg_X3_copies 2 ([some (xo (xW r)), some (xo (xW r')), some (xi (nI k + 1))], [], xup M (xW r') k (M0 (xW r) k)) R
    rw [nI_1]
    refine ih (k + 1) _ (by omega) (fun j hj => ?_) (hF.u _ _)
    rw [xup_s]
    by_cases e : j = k
    · subst e; rw [upd_s]
    · rw [upd_n _ e]; exact hA j (by omega)
theorem c3_copies {r' : Fin 4} (hrr : r ≠ r') (hn : n ≤ 6) (hR : xRm M r n h) (hk : ∀ M', xRm M' r' n h → xfw r' M M' → R none M') : xWP pg_X3_copies 0 ([some (xo (xW r)), some (xo (xW r')), none], [], M) R := by
  refine xgo [2] 100 (l3_copies hrr (fun M' hA hF => hk M' ⟨fun k hk => ?_, fun p hp w hw => ?_⟩ hF) 47 0 M (by omega) (fun j hj => by omega) xfw.rf)
  · rw [hA k (by omega)]
    exact hR.1 k hk
  · rw [hA _ (by omega)]
    exact hR.2 p hp w hw
theorem xRm.fr {M M' : xM} {r r' : Fin 4} {n : Nat} {h : xh} (hR : xRm M r n h) (hF : xfw r' M M') (hrr : r ≠ r') : xRm M' r n h := by
  have hne : xW r ≠ xW r' := fun e => hrr (Sum.inl.inj (Sum.inr.inj (Sum.inr.inj e)))
  refine ⟨fun k hk => by rw [hF _ hne]; exact hR.1 k hk, fun p hp w hw => by rw [hF _ hne]; exact hR.2 p hp w hw⟩
end X3E
