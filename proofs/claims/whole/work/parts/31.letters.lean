/-! ===== letters: the strings' methods, what a statement looks like ===== -/
def aAt (L : Nat) (le : Nat → Int32) (i : Nat) : Int32 := if i < L then le i else -1
def aKd (d c : Int32) : Int32 := if c = 112 then 0 else if c = 119 then 1 else if c = 115 then 2 else if c = 109 then 3 else if c = 116 then 4 else if c = 108 then 5 else d
def aShp (c : Int32) : Nat := if c = 112 then 0 else if c = 103 then 2 else if c = 115 then 3 else if c = 102 then 1 else if c = 104 then 1 else if c = 108 then 1 else if c = 119 then 1 else 4
abbrev aFt (g c : Int32) : Prop := if g = 107 then 0 ≤ aKd (-1) c else if g = 100 then 48 ≤ c ∧ c ≤ 57 else c = g
def aBy (q k : Nat) : Int32 := (xbyt.getD q []).getD k 0
def aLn (q : Nat) : Nat := xlen.getD q 0
def aRd (L : Nat) (le : Nat → Int32) (q : Nat) : Nat → Nat → Nat → Nat × Bool
  | 0, _, j => (j, true)
  | d + 1, k, j => if aFt (aBy q k) (aAt L le j) then aRd L le q d (k + 1) (j + 1) else (j, false)
def aSt (L : Nat) (le : Nat → Int32) (i : Nat) : Nat × Bool := if aShp (aAt L le i) = 4 then (i, false) else aRd L le (aShp (aAt L le i)) (aLn (aShp (aAt L le i))) 0 (i + 1)
abbrev isCh (c : Int32) : Prop := c = -1 ∨ ∃ b, b ≤ 255 ∧ c = nI b
theorem aAt_ch {L : Nat} {le : Nat → Int32} (H : ∀ j, j < L → ∃ c, c ≤ 255 ∧ le j = nI c) (i : Nat) : isCh (aAt L le i) := by
  unfold aAt
  by_cases h : i < L
  · rw [if_pos h]; exact Or.inr (H i h)
  · rw [if_neg h]; exact Or.inl rfl
theorem aShp_4 (c : Int32) : aShp c ≤ 4 := by
  unfold aShp
  repeat (first | omega | split)
theorem shr0 : ∀ n, n < 7 → nI n >>> (0 &&& 31) = nI n := by decide +kernel
theorem ch_b : ∀ b, b < 256 → (((nI b) &&& 255).toUInt32 % 65536).toInt32 = nI b := by decide +kernel
theorem ch_c : ∀ b, b < 256 → ((nI b).toUInt32 % 65536).toInt32 = nI b := by decide +kernel
section XST
variable {M : xM} {R : xR}
theorem c_coder (q : Nat) (hq : q < 6) (hk : R (some (xi 0)) M) : xWP pg_J0_coder_7d493 0 ([some (xo (xN (20 + q)))], [], M) R := by
  have h6 : q = 0 ∨ q = 1 ∨ q = 2 ∨ q = 3 ∨ q = 4 ∨ q = 5 := by omega
  rcases h6 with rfl | rfl | rfl | rfl | rfl | rfl <;> exact xgo [] 100 ⟨fun z => absurd z (by decide), fun _ => ⟨rfl, hk⟩⟩
theorem c_isLatin1 (q : Nat) (hq : q < 6) (hk : R (some (xi 1)) M) : xWP pg_J0_isLatin1_aae02 0 ([some (xo (xN (20 + q)))], [], M) R := by
  have h6 : q = 0 ∨ q = 1 ∨ q = 2 ∨ q = 3 ∨ q = 4 ∨ q = 5 := by omega
  rcases h6 with rfl | rfl | rfl | rfl | rfl | rfl <;> exact xgo [] 100 ⟨fun z => absurd z (by decide), fun _ => ⟨fun _ => ⟨Or.inr rfl, hk⟩, fun z => absurd rfl z⟩⟩
theorem c_length (q : Nat) (hq : q < 6) (hk : R (some (xi (nI (aLn q)))) M) : xWP pg_J0_length_8abf5 0 ([some (xo (xN (20 + q)))], [], M) R := by
  have h6 : q = 0 ∨ q = 1 ∨ q = 2 ∨ q = 3 ∨ q = 4 ∨ q = 5 := by omega
  rcases h6 with rfl | rfl | rfl | rfl | rfl | rfl
  · exact xgo [] 100 ⟨rfl, c_coder 0 (by omega) ⟨trivial, by rw [show Int32.ofNat (xlen.getD (40 - 40) 0) = nI 4 from rfl, shr0 4 (by omega)]; exact hk⟩⟩
  · exact xgo [] 100 ⟨rfl, c_coder 1 (by omega) ⟨trivial, by rw [show Int32.ofNat (xlen.getD (41 - 40) 0) = nI 3 from rfl, shr0 3 (by omega)]; exact hk⟩⟩
  · exact xgo [] 100 ⟨rfl, c_coder 2 (by omega) ⟨trivial, by rw [show Int32.ofNat (xlen.getD (42 - 40) 0) = nI 4 from rfl, shr0 4 (by omega)]; exact hk⟩⟩
  · exact xgo [] 100 ⟨rfl, c_coder 3 (by omega) ⟨trivial, by rw [show Int32.ofNat (xlen.getD (43 - 40) 0) = nI 2 from rfl, shr0 2 (by omega)]; exact hk⟩⟩
  · exact xgo [] 100 ⟨rfl, c_coder 4 (by omega) ⟨trivial, by rw [show Int32.ofNat (xlen.getD (44 - 40) 0) = nI 0 from rfl, shr0 0 (by omega)]; exact hk⟩⟩
  · exact xgo [] 100 ⟨rfl, c_coder 5 (by omega) ⟨trivial, by rw [show Int32.ofNat (xlen.getD (45 - 40) 0) = nI 6 from rfl, shr0 6 (by omega)]; exact hk⟩⟩
theorem c_isEmpty (q : Nat) (hq : q < 5) (h1 : q = 4 → R (some (xi 1)) M) (h2 : q ≠ 4 → R (some (xi 0)) M) : xWP pg_J0_isEmpty_aae02 0 ([some (xo (xN (20 + q)))], [], M) R := by
  have h6 : q = 0 ∨ q = 1 ∨ q = 2 ∨ q = 3 ∨ q = 4 := by omega
  rcases h6 with rfl | rfl | rfl | rfl | rfl
  · exact xgo [] 100 ⟨fun z => absurd z (by decide), fun _ => ⟨Or.inl rfl, h2 (by omega)⟩⟩
  · exact xgo [] 100 ⟨fun z => absurd z (by decide), fun _ => ⟨Or.inl rfl, h2 (by omega)⟩⟩
  · exact xgo [] 100 ⟨fun z => absurd z (by decide), fun _ => ⟨Or.inl rfl, h2 (by omega)⟩⟩
  · exact xgo [] 100 ⟨fun z => absurd z (by decide), fun _ => ⟨Or.inl rfl, h2 (by omega)⟩⟩
  · exact xgo [] 100 ⟨fun _ => ⟨Or.inr rfl, h1 rfl⟩, fun z => absurd rfl z⟩
theorem c_charAt_0_0 (hk : R (some (xi (nI 107))) M) : xWP pg_J0_charAt_5068e 0 ([some (xo (xN (20 + 0))), some (xi (nI 0))], [], M) R := by
  refine xgo [] 100 ⟨rfl, c_isLatin1 0 (by omega) ⟨fun z => absurd z (by decide), fun _ => ⟨rfl, ?_⟩⟩⟩
  refine xgo [14] 100 ⟨rfl, ⟨⟨(by decide), (by decide)⟩, vp_in_nI (n := 0) (N := 4) (by omega) (by omega), ?_⟩⟩
  show xWP pg_J1_charAt_3b067 14 ([some (xo (xN (40 + 0))), some (xi (nI 0))], [xi ((((nI 107) &&& 255).toUInt32 % 65536).toInt32)], M) _
  rw [ch_b 107 (by omega)]
  exact xgo [] 100 ⟨(pk_charN (q := 107) (by omega)).1, (pk_charN (q := 107) (by omega)).1, hk⟩
theorem c_charAt_0_1 (hk : R (some (xi (nI 100))) M) : xWP pg_J0_charAt_5068e 0 ([some (xo (xN (20 + 0))), some (xi (nI 1))], [], M) R := by
  refine xgo [] 100 ⟨rfl, c_isLatin1 0 (by omega) ⟨fun z => absurd z (by decide), fun _ => ⟨rfl, ?_⟩⟩⟩
  refine xgo [14] 100 ⟨rfl, ⟨⟨(by decide), (by decide)⟩, vp_in_nI (n := 1) (N := 4) (by omega) (by omega), ?_⟩⟩
  show xWP pg_J1_charAt_3b067 14 ([some (xo (xN (40 + 0))), some (xi (nI 1))], [xi ((((nI 100) &&& 255).toUInt32 % 65536).toInt32)], M) _
  rw [ch_b 100 (by omega)]
  exact xgo [] 100 ⟨(pk_charN (q := 100) (by omega)).1, (pk_charN (q := 100) (by omega)).1, hk⟩
theorem c_charAt_0_2 (hk : R (some (xi (nI 100))) M) : xWP pg_J0_charAt_5068e 0 ([some (xo (xN (20 + 0))), some (xi (nI 2))], [], M) R := by
  refine xgo [] 100 ⟨rfl, c_isLatin1 0 (by omega) ⟨fun z => absurd z (by decide), fun _ => ⟨rfl, ?_⟩⟩⟩
  refine xgo [14] 100 ⟨rfl, ⟨⟨(by decide), (by decide)⟩, vp_in_nI (n := 2) (N := 4) (by omega) (by omega), ?_⟩⟩
  show xWP pg_J1_charAt_3b067 14 ([some (xo (xN (40 + 0))), some (xi (nI 2))], [xi ((((nI 100) &&& 255).toUInt32 % 65536).toInt32)], M) _
  rw [ch_b 100 (by omega)]
  exact xgo [] 100 ⟨(pk_charN (q := 100) (by omega)).1, (pk_charN (q := 100) (by omega)).1, hk⟩
theorem c_charAt_0_3 (hk : R (some (xi (nI 59))) M) : xWP pg_J0_charAt_5068e 0 ([some (xo (xN (20 + 0))), some (xi (nI 3))], [], M) R := by
  refine xgo [] 100 ⟨rfl, c_isLatin1 0 (by omega) ⟨fun z => absurd z (by decide), fun _ => ⟨rfl, ?_⟩⟩⟩
  refine xgo [14] 100 ⟨rfl, ⟨⟨(by decide), (by decide)⟩, vp_in_nI (n := 3) (N := 4) (by omega) (by omega), ?_⟩⟩
  show xWP pg_J1_charAt_3b067 14 ([some (xo (xN (40 + 0))), some (xi (nI 3))], [xi ((((nI 59) &&& 255).toUInt32 % 65536).toInt32)], M) _
  rw [ch_b 59 (by omega)]
  exact xgo [] 100 ⟨(pk_charN (q := 59) (by omega)).1, (pk_charN (q := 59) (by omega)).1, hk⟩
theorem c_charAt_1_0 (hk : R (some (xi (nI 100))) M) : xWP pg_J0_charAt_5068e 0 ([some (xo (xN (20 + 1))), some (xi (nI 0))], [], M) R := by
  refine xgo [] 100 ⟨rfl, c_isLatin1 1 (by omega) ⟨fun z => absurd z (by decide), fun _ => ⟨rfl, ?_⟩⟩⟩
  refine xgo [14] 100 ⟨rfl, ⟨⟨(by decide), (by decide)⟩, vp_in_nI (n := 0) (N := 3) (by omega) (by omega), ?_⟩⟩
  show xWP pg_J1_charAt_3b067 14 ([some (xo (xN (40 + 1))), some (xi (nI 0))], [xi ((((nI 100) &&& 255).toUInt32 % 65536).toInt32)], M) _
  rw [ch_b 100 (by omega)]
  exact xgo [] 100 ⟨(pk_charN (q := 100) (by omega)).1, (pk_charN (q := 100) (by omega)).1, hk⟩
theorem c_charAt_1_1 (hk : R (some (xi (nI 100))) M) : xWP pg_J0_charAt_5068e 0 ([some (xo (xN (20 + 1))), some (xi (nI 1))], [], M) R := by
  refine xgo [] 100 ⟨rfl, c_isLatin1 1 (by omega) ⟨fun z => absurd z (by decide), fun _ => ⟨rfl, ?_⟩⟩⟩
  refine xgo [14] 100 ⟨rfl, ⟨⟨(by decide), (by decide)⟩, vp_in_nI (n := 1) (N := 3) (by omega) (by omega), ?_⟩⟩
  show xWP pg_J1_charAt_3b067 14 ([some (xo (xN (40 + 1))), some (xi (nI 1))], [xi ((((nI 100) &&& 255).toUInt32 % 65536).toInt32)], M) _
  rw [ch_b 100 (by omega)]
  exact xgo [] 100 ⟨(pk_charN (q := 100) (by omega)).1, (pk_charN (q := 100) (by omega)).1, hk⟩
theorem c_charAt_1_2 (hk : R (some (xi (nI 59))) M) : xWP pg_J0_charAt_5068e 0 ([some (xo (xN (20 + 1))), some (xi (nI 2))], [], M) R := by
  refine xgo [] 100 ⟨rfl, c_isLatin1 1 (by omega) ⟨fun z => absurd z (by decide), fun _ => ⟨rfl, ?_⟩⟩⟩
  refine xgo [14] 100 ⟨rfl, ⟨⟨(by decide), (by decide)⟩, vp_in_nI (n := 2) (N := 3) (by omega) (by omega), ?_⟩⟩
  show xWP pg_J1_charAt_3b067 14 ([some (xo (xN (40 + 1))), some (xi (nI 2))], [xi ((((nI 59) &&& 255).toUInt32 % 65536).toInt32)], M) _
  rw [ch_b 59 (by omega)]
  exact xgo [] 100 ⟨(pk_charN (q := 59) (by omega)).1, (pk_charN (q := 59) (by omega)).1, hk⟩
theorem c_charAt_2_0 (hk : R (some (xi (nI 100))) M) : xWP pg_J0_charAt_5068e 0 ([some (xo (xN (20 + 2))), some (xi (nI 0))], [], M) R := by
  refine xgo [] 100 ⟨rfl, c_isLatin1 2 (by omega) ⟨fun z => absurd z (by decide), fun _ => ⟨rfl, ?_⟩⟩⟩
  refine xgo [14] 100 ⟨rfl, ⟨⟨(by decide), (by decide)⟩, vp_in_nI (n := 0) (N := 4) (by omega) (by omega), ?_⟩⟩
  show xWP pg_J1_charAt_3b067 14 ([some (xo (xN (40 + 2))), some (xi (nI 0))], [xi ((((nI 100) &&& 255).toUInt32 % 65536).toInt32)], M) _
  rw [ch_b 100 (by omega)]
  exact xgo [] 100 ⟨(pk_charN (q := 100) (by omega)).1, (pk_charN (q := 100) (by omega)).1, hk⟩
theorem c_charAt_2_1 (hk : R (some (xi (nI 100))) M) : xWP pg_J0_charAt_5068e 0 ([some (xo (xN (20 + 2))), some (xi (nI 1))], [], M) R := by
  refine xgo [] 100 ⟨rfl, c_isLatin1 2 (by omega) ⟨fun z => absurd z (by decide), fun _ => ⟨rfl, ?_⟩⟩⟩
  refine xgo [14] 100 ⟨rfl, ⟨⟨(by decide), (by decide)⟩, vp_in_nI (n := 1) (N := 4) (by omega) (by omega), ?_⟩⟩
  show xWP pg_J1_charAt_3b067 14 ([some (xo (xN (40 + 2))), some (xi (nI 1))], [xi ((((nI 100) &&& 255).toUInt32 % 65536).toInt32)], M) _
  rw [ch_b 100 (by omega)]
  exact xgo [] 100 ⟨(pk_charN (q := 100) (by omega)).1, (pk_charN (q := 100) (by omega)).1, hk⟩
theorem c_charAt_2_2 (hk : R (some (xi (nI 100))) M) : xWP pg_J0_charAt_5068e 0 ([some (xo (xN (20 + 2))), some (xi (nI 2))], [], M) R := by
  refine xgo [] 100 ⟨rfl, c_isLatin1 2 (by omega) ⟨fun z => absurd z (by decide), fun _ => ⟨rfl, ?_⟩⟩⟩
  refine xgo [14] 100 ⟨rfl, ⟨⟨(by decide), (by decide)⟩, vp_in_nI (n := 2) (N := 4) (by omega) (by omega), ?_⟩⟩
  show xWP pg_J1_charAt_3b067 14 ([some (xo (xN (40 + 2))), some (xi (nI 2))], [xi ((((nI 100) &&& 255).toUInt32 % 65536).toInt32)], M) _
  rw [ch_b 100 (by omega)]
  exact xgo [] 100 ⟨(pk_charN (q := 100) (by omega)).1, (pk_charN (q := 100) (by omega)).1, hk⟩
theorem c_charAt_2_3 (hk : R (some (xi (nI 59))) M) : xWP pg_J0_charAt_5068e 0 ([some (xo (xN (20 + 2))), some (xi (nI 3))], [], M) R := by
  refine xgo [] 100 ⟨rfl, c_isLatin1 2 (by omega) ⟨fun z => absurd z (by decide), fun _ => ⟨rfl, ?_⟩⟩⟩
  refine xgo [14] 100 ⟨rfl, ⟨⟨(by decide), (by decide)⟩, vp_in_nI (n := 3) (N := 4) (by omega) (by omega), ?_⟩⟩
  show xWP pg_J1_charAt_3b067 14 ([some (xo (xN (40 + 2))), some (xi (nI 3))], [xi ((((nI 59) &&& 255).toUInt32 % 65536).toInt32)], M) _
  rw [ch_b 59 (by omega)]
  exact xgo [] 100 ⟨(pk_charN (q := 59) (by omega)).1, (pk_charN (q := 59) (by omega)).1, hk⟩
theorem c_charAt_3_0 (hk : R (some (xi (nI 100))) M) : xWP pg_J0_charAt_5068e 0 ([some (xo (xN (20 + 3))), some (xi (nI 0))], [], M) R := by
  refine xgo [] 100 ⟨rfl, c_isLatin1 3 (by omega) ⟨fun z => absurd z (by decide), fun _ => ⟨rfl, ?_⟩⟩⟩
  refine xgo [14] 100 ⟨rfl, ⟨⟨(by decide), (by decide)⟩, vp_in_nI (n := 0) (N := 2) (by omega) (by omega), ?_⟩⟩
  show xWP pg_J1_charAt_3b067 14 ([some (xo (xN (40 + 3))), some (xi (nI 0))], [xi ((((nI 100) &&& 255).toUInt32 % 65536).toInt32)], M) _
  rw [ch_b 100 (by omega)]
  exact xgo [] 100 ⟨(pk_charN (q := 100) (by omega)).1, (pk_charN (q := 100) (by omega)).1, hk⟩
theorem c_charAt_3_1 (hk : R (some (xi (nI 59))) M) : xWP pg_J0_charAt_5068e 0 ([some (xo (xN (20 + 3))), some (xi (nI 1))], [], M) R := by
  refine xgo [] 100 ⟨rfl, c_isLatin1 3 (by omega) ⟨fun z => absurd z (by decide), fun _ => ⟨rfl, ?_⟩⟩⟩
  refine xgo [14] 100 ⟨rfl, ⟨⟨(by decide), (by decide)⟩, vp_in_nI (n := 1) (N := 2) (by omega) (by omega), ?_⟩⟩
  show xWP pg_J1_charAt_3b067 14 ([some (xo (xN (40 + 3))), some (xi (nI 1))], [xi ((((nI 59) &&& 255).toUInt32 % 65536).toInt32)], M) _
  rw [ch_b 59 (by omega)]
  exact xgo [] 100 ⟨(pk_charN (q := 59) (by omega)).1, (pk_charN (q := 59) (by omega)).1, hk⟩
theorem c_charAt (q k : Nat) (hq : q < 4) (hkl : k < aLn q) (hk : R (some (xi (aBy q k))) M) : xWP pg_J0_charAt_5068e 0 ([some (xo (xN (20 + q))), some (xi (nI k))], [], M) R := by
  have h4 : q = 0 ∨ q = 1 ∨ q = 2 ∨ q = 3 := by omega
  rcases h4 with rfl | rfl | rfl | rfl
  · have hk4 : k = 0 ∨ k = 1 ∨ k = 2 ∨ k = 3 := by
      have : k < 4 := hkl
      omega
    rcases hk4 with rfl | rfl | rfl | rfl
    · exact c_charAt_0_0 hk
    · exact c_charAt_0_1 hk
    · exact c_charAt_0_2 hk
    · exact c_charAt_0_3 hk
  · have hk4 : k = 0 ∨ k = 1 ∨ k = 2 := by
      have : k < 3 := hkl
      omega
    rcases hk4 with rfl | rfl | rfl
    · exact c_charAt_1_0 hk
    · exact c_charAt_1_1 hk
    · exact c_charAt_1_2 hk
  · have hk4 : k = 0 ∨ k = 1 ∨ k = 2 ∨ k = 3 := by
      have : k < 4 := hkl
      omega
    rcases hk4 with rfl | rfl | rfl | rfl
    · exact c_charAt_2_0 hk
    · exact c_charAt_2_1 hk
    · exact c_charAt_2_2 hk
    · exact c_charAt_2_3 hk
  · have hk4 : k = 0 ∨ k = 1 := by
      have : k < 2 := hkl
      omega
    rcases hk4 with rfl | rfl
    · exact c_charAt_3_0 hk
    · exact c_charAt_3_1 hk
theorem by_eq : ∀ c, c < 256 → ∀ k, k < 6 → (aBy 5 k = (nI c).toInt8.toInt32 ↔ nI c = aBy 5 k) := by decide +kernel
theorem c_indexOfChar (c : Nat) (hc : c < 256) (hk : R (some (xi (aKd (-1) (nI c)))) M) : xWP pg_J1_indexOfChar_4cfef 0 ([some (xo (xN 45)), some (xi (nI c)), some (xi 0), some (xi 6), none, none], [], M) R := by
  have hb := by_eq c hc
  unfold aKd at hk
  have st : ∀ k, k < 6 → (aBy 5 k = (nI c).toInt8.toInt32 → R (some (xi (nI k))) M) → (¬ nI c = aBy 5 k → xWP pg_J1_indexOfChar_4cfef 7 ([some (xo (xN 45)), some (xi (nI c)), some (xi 0), some (xi 6), some (xi (nI c).toInt8.toInt32), some (xi (nI (k + 1)))], [], M) R) → xWP pg_J1_indexOfChar_4cfef 7 ([some (xo (xN 45)), some (xi (nI c)), some (xi 0), some (xi 6), some (xi (nI c).toInt8.toInt32), some (xi (nI k))], [], M) R := by
    intro k hk6 h1 h2
    refine xgo [7] 100 ⟨fun z => absurd z (nI_ge (b := 6) (by omega) (by omega)), fun _ => ⟨vp_in_nI (n := k) (N := 6) hk6 (by omega), ?_⟩⟩
    rw [nI_clamp (show k < 2 ^ 31 by omega)]
    refine ⟨fun e => ⟨trivial, h1 e⟩, fun e => ?_⟩
    show xWP pg_J1_indexOfChar_4cfef 7 ([some (xo (xN 45)), some (xi (nI c)), some (xi 0), some (xi 6), some (xi (nI c).toInt8.toInt32), some (xi (nI k + 1))], [], M) R
    rw [nI_1]
    exact h2 (fun z => e ((hb k hk6).mpr z))
  refine xgo [7] 100 ?_
  refine st 0 (by omega) (fun e => ?_) (fun e0 => ?_)
  · rw [if_pos (show nI c = 112 from (hb 0 (by omega)).mp e)] at hk; exact hk
  rw [if_neg (show ¬ nI c = 112 from e0)] at hk
  refine st 1 (by omega) (fun e => ?_) (fun e1 => ?_)
  · rw [if_pos (show nI c = 119 from (hb 1 (by omega)).mp e)] at hk; exact hk
  rw [if_neg (show ¬ nI c = 119 from e1)] at hk
  refine st 2 (by omega) (fun e => ?_) (fun e2 => ?_)
  · rw [if_pos (show nI c = 115 from (hb 2 (by omega)).mp e)] at hk; exact hk
  rw [if_neg (show ¬ nI c = 115 from e2)] at hk
  refine st 3 (by omega) (fun e => ?_) (fun e3 => ?_)
  · rw [if_pos (show nI c = 109 from (hb 3 (by omega)).mp e)] at hk; exact hk
  rw [if_neg (show ¬ nI c = 109 from e3)] at hk
  refine st 4 (by omega) (fun e => ?_) (fun e4 => ?_)
  · rw [if_pos (show nI c = 116 from (hb 4 (by omega)).mp e)] at hk; exact hk
  rw [if_neg (show ¬ nI c = 116 from e4)] at hk
  refine st 5 (by omega) (fun e => ?_) (fun e5 => ?_)
  · rw [if_pos (show nI c = 108 from (hb 5 (by omega)).mp e)] at hk; exact hk
  rw [if_neg (show ¬ nI c = 108 from e5)] at hk
  exact xgo [] 100 ⟨fun _ => ⟨trivial, hk⟩, fun z => absurd (nI_le (a := 6) (b := 6) (by omega) (by omega)) z⟩
theorem nI_255 : ∀ c, c < 256 → ¬ nI c < 0 ∧ ¬ (255 : Int32) < nI c := by decide +kernel
theorem c_indexOf (c : Nat) (hc : c < 256) (hk : R (some (xi (aKd (-1) (nI c)))) M) : xWP pg_J0_indexOf_0f7a4 0 ([some (xo (xN 25)), some (xi (nI c))], [], M) R := by
  refine xgo [] 100 ⟨rfl, ?_⟩
  refine xgo [] 100 ⟨rfl, c_isLatin1 5 (by omega) ⟨fun z => absurd z (by decide), fun _ => ⟨rfl, c_length 5 (by omega) ⟨rfl, ?_⟩⟩⟩⟩
  refine xgo [22] 100 ⟨rfl, ?_⟩
  refine xgo [] 100 ⟨fun z => absurd z (nI_255 c hc).1, fun _ => ⟨fun z => absurd z (nI_255 c hc).2, fun _ => ⟨Or.inr rfl, ⟨fun z => absurd z (by decide), fun _ => ?_⟩⟩⟩⟩
  show xWP pg_J1_indexOf_4cfef 22 ([some (xo (xN 45)), some (xi (nI c)), some (xi 0), some (xi 6)], [], M) _
  exact xgo [] 100 ⟨fun _ => ⟨rfl, c_indexOfChar c hc ⟨trivial, ⟨trivial, ⟨trivial, hk⟩⟩⟩⟩, fun z => absurd (by decide) z⟩
theorem aKd_m (d : Int32) : aKd d (-1) = d := rfl
theorem c1_kindOf (c : Int32) (hc : isCh c) (hk : R (some (xi (aKd (-1) c))) M) : xWP pg_X1_kindOf 0 ([some (xi c)], [], M) R := by
  rcases hc with rfl | ⟨b, hb, rfl⟩
  · exact xgo [] 100 ⟨fun z => absurd z (by decide), fun _ => ⟨trivial, hk⟩⟩
  · refine xgo [12] 100 ⟨fun _ => ?_, fun z => absurd (nI_le (a := 0) (by omega) (by omega)) z⟩
    show xWP pg_X1_kindOf 12 ([some (xi (nI b))], [xi ((nI b).toUInt32 % 65536).toInt32, xo (xN 25)], M) R
    rw [ch_c b (by omega)]
    exact xgo [] 100 ⟨rfl, c_indexOf b (by omega) ⟨trivial, hk⟩⟩
theorem c1_fits (g c : Int32) (hg : g = 107 ∨ g = 100 ∨ g = 59) (hc : isCh c) (h1 : aFt g c → R (some (xi 1)) M) (h2 : ¬ aFt g c → R (some (xi 0)) M) : xWP pg_X1_fits 0 ([some (xi g), some (xi c)], [], M) R := by
  rcases hg with rfl | rfl | rfl
  · rw [show aFt 107 c = (0 ≤ aKd (-1) c) from if_pos rfl] at h1 h2
    refine xgo [] 100 ⟨fun z => absurd z (by decide), fun _ => ⟨fun _ => ⟨rfl, c1_kindOf c hc ⟨fun e => ⟨Or.inl rfl, h2 (Int32.not_le.mpr e)⟩, fun e => ⟨Or.inr rfl, h1 (Int32.not_lt.mp e)⟩⟩⟩, fun z => absurd rfl z⟩⟩
  · rw [show aFt 100 c = (48 ≤ c ∧ c ≤ 57) from (if_neg (by decide)).trans (if_pos rfl)] at h1 h2
    refine xgo [] 100 ⟨fun _ => ⟨fun e => ⟨Or.inl rfl, h2 (fun z => absurd z.1 (Int32.not_le.mpr e))⟩, fun e => ⟨fun e' => ⟨Or.inl rfl, h2 (fun z => absurd z.2 (Int32.not_le.mpr e'))⟩, fun e' => ⟨Or.inr rfl, h1 ⟨Int32.not_lt.mp e, Int32.not_lt.mp e'⟩⟩⟩⟩, fun z => absurd rfl z⟩
  · rw [show aFt 59 c = (c = 59) from (if_neg (by decide)).trans (if_neg (by decide))] at h1 h2
    refine xgo [] 100 ⟨fun z => absurd z (by decide), fun _ => ⟨fun z => absurd z (by decide), fun _ => ⟨fun e => ⟨Or.inr rfl, h1 e⟩, fun e => ⟨Or.inl rfl, h2 e⟩⟩⟩⟩
theorem c1_shapeBehind (c : Int32) (hk : R (some (xo (xN (20 + aShp c)))) M) : xWP pg_X1_shapeBehind 0 ([some (xi c)], [], M) R :=
  xgo [] 100 ⟨fun e => ⟨trivial, by rw [e, show aShp 102 = 1 from by decide] at hk; exact hk⟩, fun n102 => ⟨fun e => ⟨trivial, by rw [e, show aShp 103 = 2 from by decide] at hk; exact hk⟩, fun n103 => ⟨fun e => ⟨trivial, by rw [e, show aShp 104 = 1 from by decide] at hk; exact hk⟩, fun n104 => ⟨fun e => ⟨trivial, by rw [e, show aShp 105 = 4 from by decide] at hk; exact hk⟩, fun n105 => ⟨fun e => ⟨trivial, by rw [e, show aShp 106 = 4 from by decide] at hk; exact hk⟩, fun n106 => ⟨fun e => ⟨trivial, by rw [e, show aShp 107 = 4 from by decide] at hk; exact hk⟩, fun n107 => ⟨fun e => ⟨trivial, by rw [e, show aShp 108 = 1 from by decide] at hk; exact hk⟩, fun n108 => ⟨fun e => ⟨trivial, by rw [e, show aShp 109 = 4 from by decide] at hk; exact hk⟩, fun n109 => ⟨fun e => ⟨trivial, by rw [e, show aShp 110 = 4 from by decide] at hk; exact hk⟩, fun n110 => ⟨fun e => ⟨trivial, by rw [e, show aShp 111 = 4 from by decide] at hk; exact hk⟩, fun n111 => ⟨fun e => ⟨trivial, by rw [e, show aShp 112 = 0 from by decide] at hk; exact hk⟩, fun n112 => ⟨fun e => ⟨trivial, by rw [e, show aShp 113 = 4 from by decide] at hk; exact hk⟩, fun n113 => ⟨fun e => ⟨trivial, by rw [e, show aShp 114 = 4 from by decide] at hk; exact hk⟩, fun n114 => ⟨fun e => ⟨trivial, by rw [e, show aShp 115 = 3 from by decide] at hk; exact hk⟩, fun n115 => ⟨fun e => ⟨trivial, by rw [e, show aShp 116 = 4 from by decide] at hk; exact hk⟩, fun n116 => ⟨fun e => ⟨trivial, by rw [e, show aShp 117 = 4 from by decide] at hk; exact hk⟩, fun n117 => ⟨fun e => ⟨trivial, by rw [e, show aShp 118 = 4 from by decide] at hk; exact hk⟩, fun n118 => ⟨fun e => ⟨trivial, by rw [e, show aShp 119 = 1 from by decide] at hk; exact hk⟩, fun n119 => ⟨trivial, by rw [show aShp c = 4 from by unfold aShp; rw [if_neg n112, if_neg n103, if_neg n115, if_neg n102, if_neg n104, if_neg n108, if_neg n119]] at hk; exact hk⟩⟩⟩⟩⟩⟩⟩⟩⟩⟩⟩⟩⟩⟩⟩⟩⟩⟩⟩
end XST
