/-! ===== a person is added ===== -/
def aAdd (n : Nat) (h : xh) (k f c : Int32) : xh := fun j => match j with
  | 0 => upd (h 0) n k
  | 1 => upd (h 1) n f
  | 2 => upd (h 2) n c
  | 3 => upd (h 3) n 5
  | 4 => upd (h 4) n (nI n)
  | j => h j
theorem fl_n : ∀ n, n < 6 → ∀ k, k < 2 ^ n → aFl (nI k) n = 0 := by decide +kernel
theorem aNow_add {n : Nat} {h : xh} (H : aNow n h) (hn : n < 6) (k f : Int32) {c : Nat} (hc : c ≤ 9) : aNow (n + 1) (aAdd n h k f (nI c)) := by
  obtain ⟨⟨h0, h1, h2, h3⟩, h4, ⟨⟨a, ha, ea⟩, b, hb, eb⟩, h6⟩ := H
  have hp : 2 ^ n ≤ 2 ^ (n + 1) := Nat.pow_le_pow_right (by omega) (by omega)
  refine ⟨⟨by omega, h1, h2, fun p hp => ?_⟩, h4, ⟨⟨a, by omega, ea⟩, b, by omega, eb⟩, h6⟩
  by_cases e : p = n
  · subst e
    refine ⟨⟨c, hc, upd_s _ _ _⟩, ⟨5, by omega, upd_s _ _ _⟩, ?_, ?_⟩
    · show upd (h 4) p (nI p) p = nI (upd (h 4) p (nI p) p).toNatClampNeg
      rw [upd_s, nI_clamp (by omega)]
    · show (upd (h 4) p (nI p) p).toNatClampNeg ≤ 5
      rw [upd_s, nI_clamp (by omega)]; omega
  · obtain ⟨g1, g2, g3, g4⟩ := h3 p (by omega)
    refine ⟨?_, ?_, ?_, ?_⟩
    · obtain ⟨x, hx, ex⟩ := g1
      exact ⟨x, hx, (upd_n _ e _).trans ex⟩
    · obtain ⟨x, hx, ex⟩ := g2
      exact ⟨x, hx, (upd_n _ e _).trans ex⟩
    · show upd (h 4) n (nI n) p = nI (upd (h 4) n (nI n) p).toNatClampNeg
      rw [upd_n _ e]; exact g3
    · show (upd (h 4) n (nI n) p).toNatClampNeg ≤ 5
      rw [upd_n _ e]; exact g4
theorem xA_ne {a b : Fin 5} {i : Fin 3} (h : a ≠ b) : xA a i ≠ xA b i := fun e => h (Prod.mk.inj (Sum.inl.inj (Sum.inr.inj e))).1
theorem xHA {a : Fin 5} {i : Fin 3} : xH i ≠ xA a i := fun e => by cases e
theorem xAH {a : Fin 5} {i : Fin 3} : xA a i ≠ xH i := fun e => by cases e
section XAD
variable {M : xM} {i : Fin 3} {n : Nat} {h : xh} {R : xR}
theorem xRc_add (hR : xRc M i n h) (k f c : Int32) : xRc (xup (xup (xup (xup (xup (xup M (xA 0 i) n k) (xA 1 i) n f) (xA 2 i) n c) (xA 3 i) n 5) (xA 4 i) n (nI n)) (xH i) 5 (nI (n + 1))) i (n + 1) (aAdd n h k f c) := by
  refine ⟨by rw [xup_s, upd_s], fun q h6 h11 => ?_, fun a p hp => ?_⟩
  · rw [xup_s, upd_n _ (by omega), xup_n xHA, xup_n xHA, xup_n xHA, xup_n xHA, xup_n xHA]
    exact hR.2.1 q h6 h11
  · rw [xup_n xAH]
    have key : ∀ (b : Fin 5), (∀ q, q < n → M (xA b i) q = h b.val q) → ∀ v, upd (M (xA b i)) n v p = upd (h b.val) n v p := by
      intro b hb v
      by_cases e : p = n
      · subst e; rw [upd_s, upd_s]
      · rw [upd_n _ e, upd_n _ e]; exact hb p (by omega)
    have a5 : a = 0 ∨ a = 1 ∨ a = 2 ∨ a = 3 ∨ a = 4 := by
      have : ∀ a : Fin 5, a = 0 ∨ a = 1 ∨ a = 2 ∨ a = 3 ∨ a = 4 := by decide
      exact this a
    rcases a5 with rfl | rfl | rfl | rfl | rfl
    · rw [xup_n (xA_ne (by decide)), xup_n (xA_ne (by decide)), xup_n (xA_ne (by decide)), xup_n (xA_ne (by decide)), xup_s]
      exact key 0 (hR.2.2 0) k
    · rw [xup_n (xA_ne (by decide)), xup_n (xA_ne (by decide)), xup_n (xA_ne (by decide)), xup_s, xup_n (xA_ne (by decide))]
      exact key 1 (hR.2.2 1) f
    · rw [xup_n (xA_ne (by decide)), xup_n (xA_ne (by decide)), xup_s, xup_n (xA_ne (by decide)), xup_n (xA_ne (by decide))]
      exact key 2 (hR.2.2 2) c
    · rw [xup_n (xA_ne (by decide)), xup_s, xup_n (xA_ne (by decide)), xup_n (xA_ne (by decide)), xup_n (xA_ne (by decide))]
      exact key 3 (hR.2.2 3) 5
    · rw [xup_s, xup_n (xA_ne (by decide)), xup_n (xA_ne (by decide)), xup_n (xA_ne (by decide)), xup_n (xA_ne (by decide))]
      exact key 4 (hR.2.2 4) (nI n)
theorem c0_addPerson (k f c : Int32) (hn : n ≤ 6) (hR : xRc M i n h) (h1 : n < 6 → ∀ M', xRc M' i (n + 1) (aAdd n h k f c) → xfr i M M' → R (some (xi 1)) M') (h0 : ¬ n < 6 → R (some (xi 0)) M) : xWP pg_X0_addPerson 0 ([some (xo (xH i)), some (xi k), some (xi f), some (xi c)], [], M) R := by
  have s5 := hR.s5
  refine xgo [11] 100 ⟨fun z => ?_, fun z => ⟨Or.inl rfl, h0 (fun w => z ?_)⟩⟩
  · rw [s5] at z
    have hlt : n < 6 := (nI_ltI (b := 6) (by omega) (by omega)).mp z
    have hin := vp_in_nI hlt (by omega)
    have hcl : (nI n).toNatClampNeg = n := nI_clamp (by omega)
    refine xgo [21] 100 ⟨by rw [s5]; exact hin, ?_⟩
    show xWP pg_X0_addPerson 21 ([some (xo (xH i)), some (xi k), some (xi f), some (xi c)], [], xup M (xA 0 i) (M (xH i) 5).toNatClampNeg k) R
    rw [s5, hcl]
    have e1 : xup M (xA 0 i) n k (xH i) 5 = nI n := by rw [xup_n xHA]; exact s5
    refine xgo [31] 100 ⟨by rw [e1]; exact hin, ?_⟩
    show xWP pg_X0_addPerson 31 ([some (xo (xH i)), some (xi k), some (xi f), some (xi c)], [], xup (xup M (xA 0 i) n k) (xA 1 i) (xup M (xA 0 i) n k (xH i) 5).toNatClampNeg f) R
    rw [e1, hcl]
    have e2 : xup (xup M (xA 0 i) n k) (xA 1 i) n f (xH i) 5 = nI n := by rw [xup_n xHA]; exact e1
    refine xgo [41] 100 ⟨by rw [e2]; exact hin, ?_⟩
    show xWP pg_X0_addPerson 41 ([some (xo (xH i)), some (xi k), some (xi f), some (xi c)], [], xup (xup (xup M (xA 0 i) n k) (xA 1 i) n f) (xA 2 i) (xup (xup M (xA 0 i) n k) (xA 1 i) n f (xH i) 5).toNatClampNeg c) R
    rw [e2, hcl]
    have e3 : xup (xup (xup M (xA 0 i) n k) (xA 1 i) n f) (xA 2 i) n c (xH i) 5 = nI n := by rw [xup_n xHA]; exact e2
    refine xgo [51] 100 ⟨by rw [e3]; exact hin, ?_⟩
    show xWP pg_X0_addPerson 51 ([some (xo (xH i)), some (xi k), some (xi f), some (xi c)], [], xup (xup (xup (xup M (xA 0 i) n k) (xA 1 i) n f) (xA 2 i) n c) (xA 3 i) (xup (xup (xup M (xA 0 i) n k) (xA 1 i) n f) (xA 2 i) n c (xH i) 5).toNatClampNeg 5) R
    rw [e3, hcl]
    have e4 : xup (xup (xup (xup M (xA 0 i) n k) (xA 1 i) n f) (xA 2 i) n c) (xA 3 i) n 5 (xH i) 5 = nI n := by rw [xup_n xHA]; exact e3
    refine xgo [64] 100 ⟨by rw [e4]; exact hin, ?_⟩
    show xWP pg_X0_addPerson 64 ([some (xo (xH i)), some (xi k), some (xi f), some (xi c)], [], xup (xup (xup (xup (xup M (xA 0 i) n k) (xA 1 i) n f) (xA 2 i) n c) (xA 3 i) n 5) (xA 4 i) (xup (xup (xup (xup M (xA 0 i) n k) (xA 1 i) n f) (xA 2 i) n c) (xA 3 i) n 5 (xH i) 5).toNatClampNeg (xup (xup (xup (xup M (xA 0 i) n k) (xA 1 i) n f) (xA 2 i) n c) (xA 3 i) n 5 (xH i) 5)) R
    rw [e4, hcl]
    have e5 : xup (xup (xup (xup (xup M (xA 0 i) n k) (xA 1 i) n f) (xA 2 i) n c) (xA 3 i) n 5) (xA 4 i) n (nI n) (xH i) 5 = nI n := by rw [xup_n xHA]; exact e4
    refine xgo [74] 100 ?_
    show xWP pg_X0_addPerson 74 ([some (xo (xH i)), some (xi k), some (xi f), some (xi c)], [], xup (xup (xup (xup (xup (xup M (xA 0 i) n k) (xA 1 i) n f) (xA 2 i) n c) (xA 3 i) n 5) (xA 4 i) n (nI n)) (xH i) 5 (xup (xup (xup (xup (xup M (xA 0 i) n k) (xA 1 i) n f) (xA 2 i) n c) (xA 3 i) n 5) (xA 4 i) n (nI n) (xH i) 5 + 1)) R
    rw [e5, nI_1]
    exact xgo [] 100 ⟨Or.inr rfl, h1 hlt _ (xRc_add hR k f c) ((((((xfr.rf.ua 0 _ _).ua 1 _ _).ua 2 _ _).ua 3 _ _).ua 4 _ _).us 5 _)⟩
  · rw [s5]; exact nI_lt (b := 6) w (by omega)
end XAD
/-! the model's row -/
section XAM
variable {M : xM} {n : Nat} {h : xh} {R : xR}
theorem xRm_add (hR : xRm M 0 n h) (hn : n < 6) (hs : aBk n (h 5 9)) (hd : aBk n (h 5 10)) (k f c : Int32) : xRm (xup (xup (xup (xup (xup (xup (xup (xup M (xW 0) (5 + 7 * n + 0) k) (xW 0) (5 + 7 * n + 1) f) (xW 0) (5 + 7 * n + 2) c) (xW 0) (5 + 7 * n + 3) 5) (xW 0) (5 + 7 * n + 4) 0) (xW 0) (5 + 7 * n + 5) 0) (xW 0) (5 + 7 * n + 6) (nI n)) (xW 0) 0 (nI (n + 1))) 0 (n + 1) (aAdd n h k f c) := by
  obtain ⟨a, ha, ea⟩ := hs
  obtain ⟨b, hb, eb⟩ := hd
  constructor
  · intro q hq
    simp only [xup_s]
    rcases xw5 hq with rfl | rfl | rfl | rfl | rfl
    · rw [upd_s]; rfl
    · rw [upd_n _ (by omega), upd_n _ (by omega), upd_n _ (by omega), upd_n _ (by omega), upd_n _ (by omega), upd_n _ (by omega), upd_n _ (by omega), upd_n _ (by omega)]; exact hR.1 1 hq
    · rw [upd_n _ (by omega), upd_n _ (by omega), upd_n _ (by omega), upd_n _ (by omega), upd_n _ (by omega), upd_n _ (by omega), upd_n _ (by omega), upd_n _ (by omega)]; exact hR.1 2 hq
    · rw [upd_n _ (by omega), upd_n _ (by omega), upd_n _ (by omega), upd_n _ (by omega), upd_n _ (by omega), upd_n _ (by omega), upd_n _ (by omega), upd_n _ (by omega)]; exact hR.1 3 hq
    · rw [upd_n _ (by omega), upd_n _ (by omega), upd_n _ (by omega), upd_n _ (by omega), upd_n _ (by omega), upd_n _ (by omega), upd_n _ (by omega), upd_n _ (by omega)]; exact hR.1 4 hq
  · intro p hp w hw
    simp only [xup_s]
    by_cases e : p = n
    · subst e
      rw [upd_n _ (by omega)]
      rcases xw7 hw with rfl | rfl | rfl | rfl | rfl | rfl | rfl
      · rw [upd_n _ (by omega), upd_n _ (by omega), upd_n _ (by omega), upd_n _ (by omega), upd_n _ (by omega), upd_n _ (by omega), upd_s]; exact (upd_s _ _ _).symm
      · rw [upd_n _ (by omega), upd_n _ (by omega), upd_n _ (by omega), upd_n _ (by omega), upd_n _ (by omega), upd_s]; exact (upd_s _ _ _).symm
      · rw [upd_n _ (by omega), upd_n _ (by omega), upd_n _ (by omega), upd_n _ (by omega), upd_s]; exact (upd_s _ _ _).symm
      · rw [upd_n _ (by omega), upd_n _ (by omega), upd_n _ (by omega), upd_s]; exact (upd_s _ _ _).symm
      · rw [upd_n _ (by omega), upd_n _ (by omega), upd_s]
        show 0 = aFl (h 5 9) p
        rw [ea, fl_n p hn a ha]
      · rw [upd_n _ (by omega), upd_s]
        show 0 = aFl (h 5 10) p
        rw [eb, fl_n p hn b hb]
      · rw [upd_s]; exact (upd_s _ _ _).symm
    · rw [upd_n _ (by omega), upd_n _ (by omega), upd_n _ (by omega), upd_n _ (by omega), upd_n _ (by omega), upd_n _ (by omega), upd_n _ (by omega), upd_n _ (by omega), hR.2 p (by omega) w hw]
      exact (aV_of (h := h) (h' := aAdd n h k f c) (q := p) hw (upd_n _ e _) (upd_n _ e _) (upd_n _ e _) (upd_n _ e _) (upd_n _ e _) (fun _ => rfl) (fun _ => rfl)).symm
theorem c3_addsPerson (hn : n ≤ 6) (hs : aBk n (h 5 9)) (hd : aBk n (h 5 10)) (hR : xRm M 0 n h) (h1 : n < 6 → ∀ M', xRm M' 0 (n + 1) (aAdd n h (M (xN 9) 0) (M (xN 9) 1) (M (xN 9) 2)) → xfw 0 M M' → R (some (xi 1)) M') (h0 : ¬ n < 6 → R (some (xi 0)) M) : xWP pg_X3_addsPerson 0 ([some (xo (xN 2)), none, none], [], M) R := by
  have N9 : ∀ (M1 : xM) j v, xup M1 (xW 0) j v (xN 9) = M1 (xN 9) := fun M1 j v => xup_n (xWN 9) _ _
  refine xgo [13] 100 ⟨xin47 (k := 0) (by omega), ?_⟩
  rw [hR.g0]
  refine ⟨fun z => ⟨Or.inl rfl, h0 (fun w => ?_)⟩, fun z => ?_⟩
  · have := (nI_eq (b := 6) (by omega) (by omega)).mp z
    omega
  have hlt : n < 6 := by
    by_cases e : n = 6
    · exact absurd (by rw [e]; rfl) z
    · omega
  refine xgo [22] 100 ⟨xin47 (k := 0) (by omega), ?_⟩
  rw [hR.g0]
  show xWP pg_X3_addsPerson 22 ([some (xo (xN 2)), some (xi (nI n)), some (xi (nI 0))], [], M) R
  refine xgo [22] 100 ⟨fun z => absurd z (by decide), fun _ => ⟨rfl, c3_of n 0 ⟨vp_in_nI (n := 0) (N := 3) (by omega) (by omega), xof_in (by omega) (by omega), ?_⟩⟩⟩
  rw [xof_cl (by omega) (by omega)]
  show xWP pg_X3_addsPerson 22 ([some (xo (xN 2)), some (xi (nI n)), some (xi (nI 1))], [], xup M (xW 0) (5 + 7 * n + 0) (M (xN 9) 0)) R
  refine xgo [22] 100 ⟨fun z => absurd z (by decide), fun _ => ⟨rfl, c3_of n 1 ⟨vp_in_nI (n := 1) (N := 3) (by omega) (by omega), xof_in (by omega) (by omega), ?_⟩⟩⟩
  rw [xof_cl (by omega) (by omega), N9]
  show xWP pg_X3_addsPerson 22 ([some (xo (xN 2)), some (xi (nI n)), some (xi (nI 2))], [], xup (xup M (xW 0) (5 + 7 * n + 0) (M (xN 9) 0)) (xW 0) (5 + 7 * n + 1) (M (xN 9) 1)) R
  refine xgo [22] 100 ⟨fun z => absurd z (by decide), fun _ => ⟨rfl, c3_of n 2 ⟨vp_in_nI (n := 2) (N := 3) (by omega) (by omega), xof_in (by omega) (by omega), ?_⟩⟩⟩
  rw [xof_cl (by omega) (by omega), N9, N9]
  show xWP pg_X3_addsPerson 22 ([some (xo (xN 2)), some (xi (nI n)), some (xi (nI 3))], [], xup (xup (xup M (xW 0) (5 + 7 * n + 0) (M (xN 9) 0)) (xW 0) (5 + 7 * n + 1) (M (xN 9) 1)) (xW 0) (5 + 7 * n + 2) (M (xN 9) 2)) R
  generalize hk : M (xN 9) 0 = k at *
  generalize hf : M (xN 9) 1 = f at *
  generalize hc : M (xN 9) 2 = c at *
  refine xgo [94] 100 ⟨fun _ => ⟨rfl, c3_of n 3 ⟨xof_in (by omega) (by omega), rfl, c3_of n 4 ⟨xof_in (by omega) (by omega), rfl, c3_of n 5 ⟨xof_in (by omega) (by omega), rfl, c3_of n 6 ⟨xof_in (by omega) (by omega), ?_⟩⟩⟩⟩⟩, fun z => absurd (by decide) z⟩
  rw [xof_cl (by omega) (by omega), xof_cl (by omega) (by omega), xof_cl (by omega) (by omega), xof_cl (by omega) (by omega)]
  have g0 : xup (xup (xup (xup (xup (xup (xup M (xW 0) (5 + 7 * n + 0) k) (xW 0) (5 + 7 * n + 1) f) (xW 0) (5 + 7 * n + 2) c) (xW 0) (5 + 7 * n + 3) 5) (xW 0) (5 + 7 * n + 4) 0) (xW 0) (5 + 7 * n + 5) 0) (xW 0) (5 + 7 * n + 6) (nI n) (xW 0) (Int32.toNatClampNeg 0) = nI n := by
    show xup _ _ _ _ (xW 0) 0 = _
    simp only [xup_s]
    rw [upd_n _ (by omega), upd_n _ (by omega), upd_n _ (by omega), upd_n _ (by omega), upd_n _ (by omega), upd_n _ (by omega), upd_n _ (by omega)]
    exact hR.1 0 (by omega)
  refine xgo [104] 100 ⟨xin47 (k := 0) (by omega), xin47 (k := 0) (by omega), ?_⟩
  rw [g0, show nI n + 1 = nI (n + 1) from nI_1 n]
  exact xgo [] 100 ⟨Or.inr rfl, h1 hlt _ (xRm_add hR hlt hs hd k f c) ((((((((xfw.rf.u _ _).u _ _).u _ _).u _ _).u _ _).u _ _).u _ _).u _ _)⟩
end XAM
