/-! the hill's own methods that change it -/
abbrev aGv (n : Nat) (h : xh) (p f : Nat) : Prop := f ≠ p ∧ f < n ∧ xbt (h 5 9) f ∧ h 3 f < h 3 p
def aFr (h : xh) (p : Nat) : Nat := (h 4 p).toNatClampNeg
def aD1 (h : xh) (p : Nat) (d : Int32) : xh := hu (hu (hu h 5 6 (h 5 6 - d)) 3 p (h 3 p + d)) 5 10 (h 5 10 ||| 1 <<< (nI p &&& 31))
def aD2 (h : xh) (p f : Nat) (d : Int32) : xh := hu (hu h 3 p (h 3 p - d / 2)) 3 f (xmn 99 (hu h 3 p (h 3 p - d / 2) 3 f + d / 2))
def aDraw (n : Nat) (h : xh) (p : Nat) : xh :=
  if 0 < xmn (h 2 p) (h 5 6) then (if aGv n (aD1 h p (xmn (h 2 p) (h 5 6))) p (aFr h p) then aD2 (aD1 h p (xmn (h 2 p) (h 5 6))) p (aFr h p) (xmn (h 2 p) (h 5 6)) else aD1 h p (xmn (h 2 p) (h 5 6))) else h
abbrev aMay (h : xh) (p : Nat) : Prop := (¬ xbt (h 5 9) p ∨ (h 0 p = 5 ∧ ¬ xbt (h 5 11) p)) ∧ ¬ xbt (h 5 10) p ∧ h 3 p < 20
section X0B
variable {M : xM} {i : Fin 3} {n : Nat} {h : xh} {R : xR}
theorem c0_givesToFriend (p f : Nat) (hR : xRc M i n h) (hp : p < n) (hn : n ≤ 6) (hf : h 4 p = nI f) (hf5 : f ≤ 5) (h1 : aGv n h p f → R (some (xi 1)) M) (h2 : ¬ aGv n h p f → R (some (xi 0)) M) : xWP pg_X0_givesToFriend 0 ([some (xo (xH i)), some (xi (nI p)), none], [], M) R := by
  have e3 : M (xA 3 i) (nI p).toNatClampNeg = h 3 p := by rw [xcl hp hn]; exact hR.a3 hp
  have e4 : M (xA 4 i) (nI p).toNatClampNeg = nI f := by rw [xcl hp hn, hR.a4 hp, hf]
  refine xgo [7] 100 ⟨xin6 hp hn, ?_⟩
  show xWP pg_X0_givesToFriend 7 ([some (xo (xH i)), some (xi (nI p)), some (xi (M (xA 4 i) (nI p).toNatClampNeg))], [], M) R
  rw [e4]
  refine xgo [] 100 ⟨fun c => ?_, fun c => ⟨rfl, c0_isThere (nI f) hR (fun q => ?_) (fun q => ?_)⟩⟩
  · exact ⟨Or.inl rfl, h2 (fun z => z.1 ((nI_eq (by omega) (by omega)).mp c))⟩
  · have hfn : f < n := (nI_ltI (by omega) (by omega)).mp q.2
    have e5 : M (xA 3 i) (nI f).toNatClampNeg = h 3 f := by rw [xcl hfn hn]; exact hR.a3 hfn
    refine ⟨fun z => absurd z (by decide), fun _ => ⟨rfl, c0_hasSpoken f hR (fun q2 => ?_) (fun q2 => ?_)⟩⟩
    · refine ⟨fun z => absurd z (by decide), fun _ => ⟨xin6 hfn hn, xin6 hp hn, fun c2 => ?_, fun c2 => ?_⟩⟩
      · rw [e3, e5] at c2
        exact ⟨Or.inl rfl, h2 (fun z => absurd z.2.2.2 (Int32.not_lt.mpr c2))⟩
      · rw [e3, e5] at c2
        exact ⟨Or.inr rfl, h1 ⟨fun z => c (by rw [z]), hfn, q2, Int32.not_le.mp c2⟩⟩
    · exact ⟨fun _ => ⟨Or.inl rfl, h2 (fun z => q2 z.2.2.1)⟩, fun z => absurd rfl z⟩
  · exact ⟨fun _ => ⟨Or.inl rfl, h2 (fun z => q ⟨nI_pos' (by omega), (nI_ltI (by omega) (by omega)).mpr z.2.1⟩)⟩, fun z => absurd rfl z⟩
theorem c0_letDraw (p : Nat) (hR : xRc M i n h) (hp : p < n) (hn : n ≤ 6) (hf : h 4 p = nI (aFr h p)) (hf5 : aFr h p ≤ 5) (hk : ∀ M', xRc M' i n (aDraw n h p) → xfr i M M' → R none M') : xWP pg_X0_letDraw 0 ([some (xo (xH i)), some (xi (nI p)), none, none], [], M) R := by
  have e2 : M (xA 2 i) (nI p).toNatClampNeg = h 2 p := by rw [xcl hp hn]; exact hR.a2 hp
  have e3 : M (xA 3 i) (nI p).toNatClampNeg = h 3 p := by rw [xcl hp hn]; exact hR.a3 hp
  refine xgo [14] 100 ⟨xin6 hp hn, ?_⟩
  show xWP pg_X0_letDraw 14 ([some (xo (xH i)), some (xi (nI p)), some (xi (xmn (M (xA 2 i) (nI p).toNatClampNeg) (M (xH i) 6))), none], [], M) R
  rw [e2, hR.s6]
  unfold aDraw at hk
  generalize xmn (h 2 p) (h 5 6) = d at hk ⊢
  refine xgo [51] 100 ⟨fun c => ⟨xin6 hp hn, xin6 hp hn, ?_⟩, fun c => ⟨trivial, ?_⟩⟩
  · rw [if_pos c] at hk
    show xWP pg_X0_letDraw 51 ([some (xo (xH i)), some (xi (nI p)), some (xi d), none], [], xup (xup (xup M (xH i) 6 (M (xH i) 6 - d)) (xA 3 i) (nI p).toNatClampNeg (xup M (xH i) 6 (M (xH i) 6 - d) (xA 3 i) (nI p).toNatClampNeg + d)) (xH i) 10 (xup (xup M (xH i) 6 (M (xH i) 6 - d)) (xA 3 i) (nI p).toNatClampNeg (xup M (xH i) 6 (M (xH i) 6 - d) (xA 3 i) (nI p).toNatClampNeg + d) (xH i) 10 ||| 1 <<< (nI p &&& 31))) R
    rw [xcl hp hn]
    have hR1 := ((hR.us 6 (by omega) (h 5 6 - d)).ua 3 p (h 3 p + d)).us 10 (by omega) (h 5 10 ||| 1 <<< (nI p &&& 31))
    have eM : xup (xup (xup M (xH i) 6 (M (xH i) 6 - d)) (xA 3 i) p (xup M (xH i) 6 (M (xH i) 6 - d) (xA 3 i) p + d)) (xH i) 10 (xup (xup M (xH i) 6 (M (xH i) 6 - d)) (xA 3 i) p (xup M (xH i) 6 (M (xH i) 6 - d) (xA 3 i) p + d) (xH i) 10 ||| 1 <<< (nI p &&& 31)) = xup (xup (xup M (xH i) 6 (h 5 6 - d)) (xA 3 i) p (h 3 p + d)) (xH i) 10 (h 5 10 ||| 1 <<< (nI p &&& 31)) := by
      have a1 : xup M (xH i) 6 (M (xH i) 6 - d) (xA 3 i) p = h 3 p := by rw [xup_n (by simp)]; exact hR.a3 hp
      have a2 : ∀ v, xup (xup M (xH i) 6 (M (xH i) 6 - d)) (xA 3 i) p v (xH i) 10 = h 5 10 := by intro v; rw [xup_n (by simp), xup_s, upd_n _ (by omega)]; exact hR.s10
      rw [a1, a2, hR.s6]
    rw [eM]
    have hfr1 : xfr i M (xup (xup (xup M (xH i) 6 (h 5 6 - d)) (xA 3 i) p (h 3 p + d)) (xH i) 10 (h 5 10 ||| 1 <<< (nI p &&& 31))) := ((xfr.rf.us 6 _).ua 3 p _).us 10 _
    generalize xup (xup (xup M (xH i) 6 (h 5 6 - d)) (xA 3 i) p (h 3 p + d)) (xH i) 10 (h 5 10 ||| 1 <<< (nI p &&& 31)) = M1 at hR1 hfr1 ⊢
    have hR1 : xRc M1 i n (aD1 h p d) := hR1
    have hf1 : aD1 h p d 4 p = nI (aFr h p) := hf
    generalize aD1 h p d = h1 at hR1 hk hf1
    generalize aFr h p = f at hk hf1 hf5
    refine xgo [66] 100 ⟨rfl, c0_givesToFriend p f hR1 hp hn hf1 hf5 (fun g => ?_) (fun g => ?_)⟩
    · rw [if_pos g] at hk
      refine ⟨fun z => absurd z (by decide), fun _ => ⟨xin6 hp hn, ?_⟩⟩
      show xWP pg_X0_letDraw 66 ([some (xo (xH i)), some (xi (nI p)), some (xi d), some (xi (M1 (xA 4 i) (nI p).toNatClampNeg))], [], M1) R
      rw [xcl hp hn, hR1.a4 hp, hf1]
      refine xgo [] 100 ⟨xin6 hp hn, by decide, xin6 hp hn, xin6 g.2.1 hn, by decide, xin6 g.2.1 hn, trivial, ?_⟩
      rw [xcl hp hn, xcl g.2.1 hn]
      have e8 : M1 (xA 3 i) p = h1 3 p := hR1.a3 hp
      have hR2 := hR1.ua 3 p (h1 3 p - d / 2)
      have e9 : xup M1 (xA 3 i) p (h1 3 p - d / 2) (xA 3 i) f = hu h1 3 p (h1 3 p - d / 2) 3 f := hR2.a3 g.2.1
      have hR3 := hR2.ua 3 f (xmn 99 (hu h1 3 p (h1 3 p - d / 2) 3 f + d / 2))
      rw [e8, e9]
      exact hk _ hR3 (hfr1.tr ((xfr.rf.ua 3 p _).ua 3 f _))
    · rw [if_neg g] at hk
      exact ⟨fun _ => ⟨trivial, hk _ hR1 hfr1⟩, fun z => absurd rfl z⟩
  · rw [if_neg c] at hk
    exact hk M hR xfr.rf
end X0B
