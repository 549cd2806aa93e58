/-! ===== the pure side: a hill as numbers; helpers ===== -/
abbrev xh : Type := Nat → Nat → Int32
def hu (h : xh) (j p : Nat) (v : Int32) : xh := fun j' => if j' = j then upd (h j) p v else h j'
abbrev xbt (a : Int32) (p : Nat) : Prop := (a >>> (nI p &&& 31)) &&& 1 = 1
def xmn (a b : Int32) : Int32 := if b < a then b else a
def xmx (a b : Int32) : Int32 := if a < b then b else a
def aSH (k f : Int32) : Int32 := if k = 1 then xmn 12 (f / 2 + 1 + 3) else if k = 2 then 0 else if k = 3 then 12 else if k = 4 then xmn 12 (2 * xmn 12 (f / 2 + 1 + 3)) else if k = 5 then 0 else f / 2 + 1
def aDr (k : Int32) : Int32 := if k = 1 then 2 else if k = 2 then 4 else if k = 3 then 2 else if k = 4 then 1 else if k = 5 then 4 else 3
/-- a hill of the class's, of n people -/
def xRc (M : xM) (i : Fin 3) (n : Nat) (h : xh) : Prop :=
  M (xH i) 5 = nI n ∧ (∀ k, 6 ≤ k → k ≤ 11 → M (xH i) k = h 5 k) ∧ ∀ (k : Fin 5) (p : Nat), p < n → M (xA k i) p = h k.val p
/-- what is no part of hill i -/
def xNh (i : Fin 3) (o : xOb) : Prop := o ≠ xH i ∧ ∀ k, o ≠ xA k i
def xfr (i : Fin 3) (M M' : xM) : Prop := ∀ o, xNh i o → M' o = M o
theorem xfr.rf {i : Fin 3} {M : xM} : xfr i M M := fun _ _ => rfl
theorem xfr.tr {i : Fin 3} {M M1 M2 : xM} (h1 : xfr i M M1) (h2 : xfr i M1 M2) : xfr i M M2 := fun o ho => (h2 o ho).trans (h1 o ho)
theorem xfr.us {i : Fin 3} {M M1 : xM} (h : xfr i M M1) (k : Nat) (v : Int32) : xfr i M (xup M1 (xH i) k v) := fun o ho => by
  rw [← h o ho]
  unfold xup
  rw [if_neg ho.1]
theorem xfr.ua {i : Fin 3} {M M1 : xM} (h : xfr i M M1) (j : Fin 5) (k : Nat) (v : Int32) : xfr i M (xup M1 (xA j i) k v) := fun o ho => by
  rw [← h o ho]
  unfold xup
  rw [if_neg (ho.2 j)]
section XRC
variable {M : xM} {i : Fin 3} {n : Nat} {h : xh} {p : Nat}
theorem xRc.s5 (hR : xRc M i n h) : M (xH i) 5 = nI n := hR.1
theorem xRc.s6 (hR : xRc M i n h) : M (xH i) 6 = h 5 6 := hR.2.1 6 (by omega) (by omega)
theorem xRc.s7 (hR : xRc M i n h) : M (xH i) 7 = h 5 7 := hR.2.1 7 (by omega) (by omega)
theorem xRc.s8 (hR : xRc M i n h) : M (xH i) 8 = h 5 8 := hR.2.1 8 (by omega) (by omega)
theorem xRc.s9 (hR : xRc M i n h) : M (xH i) 9 = h 5 9 := hR.2.1 9 (by omega) (by omega)
theorem xRc.s10 (hR : xRc M i n h) : M (xH i) 10 = h 5 10 := hR.2.1 10 (by omega) (by omega)
theorem xRc.s11 (hR : xRc M i n h) : M (xH i) 11 = h 5 11 := hR.2.1 11 (by omega) (by omega)
theorem xRc.a0 (hR : xRc M i n h) (hp : p < n) : M (xA 0 i) p = h 0 p := hR.2.2 0 p hp
theorem xRc.a1 (hR : xRc M i n h) (hp : p < n) : M (xA 1 i) p = h 1 p := hR.2.2 1 p hp
theorem xRc.a2 (hR : xRc M i n h) (hp : p < n) : M (xA 2 i) p = h 2 p := hR.2.2 2 p hp
theorem xRc.a3 (hR : xRc M i n h) (hp : p < n) : M (xA 3 i) p = h 3 p := hR.2.2 3 p hp
theorem xRc.a4 (hR : xRc M i n h) (hp : p < n) : M (xA 4 i) p = h 4 p := hR.2.2 4 p hp
theorem xup_s (o : xOb) (k : Nat) (v : Int32) : xup M o k v o = upd (M o) k v := by
  unfold xup
  rw [if_pos rfl]
theorem xup_n {o o' : xOb} (ho : o' ≠ o) (k : Nat) (v : Int32) : xup M o k v o' = M o' := by
  unfold xup
  rw [if_neg ho]
theorem upd_s (g : Nat → Int32) (k : Nat) (v : Int32) : upd g k v k = v := by
  unfold upd
  rw [if_pos rfl]
theorem upd_n (g : Nat → Int32) {k j : Nat} (hj : j ≠ k) (v : Int32) : upd g k v j = g j := by
  unfold upd
  rw [if_neg hj]
theorem hu_s (j p : Nat) (v : Int32) : hu h j p v j = upd (h j) p v := by
  unfold hu
  rw [if_pos rfl]
theorem hu_n {j j' : Nat} (hj : j' ≠ j) (p : Nat) (v : Int32) : hu h j p v j' = h j' := by
  unfold hu
  rw [if_neg hj]
theorem xRc.us (hR : xRc M i n h) (k : Nat) (hk : 6 ≤ k) (v : Int32) : xRc (xup M (xH i) k v) i n (hu h 5 k v) := by
  refine ⟨?_, fun j h1 h2 => ?_, fun j p hp => ?_⟩
  · rw [xup_s, upd_n _ (by omega)]
    exact hR.1
  · rw [xup_s, hu_s]
    by_cases hj : j = k
    · subst hj
      rw [upd_s, upd_s]
    · rw [upd_n _ hj, upd_n _ hj]
      exact hR.2.1 j h1 h2
  · rw [xup_n (by simp), hu_n (by have := j.isLt; omega)]
    exact hR.2.2 j p hp
theorem xRc.ua (hR : xRc M i n h) (k : Fin 5) (q : Nat) (v : Int32) : xRc (xup M (xA k i) q v) i n (hu h k.val q v) := by
  refine ⟨?_, fun j h1 h2 => ?_, fun j p hp => ?_⟩
  · rw [xup_n (by simp)]
    exact hR.1
  · rw [xup_n (by simp), hu_n (by have := k.isLt; omega)]
    exact hR.2.1 j h1 h2
  · by_cases hj : j = k
    · subst hj
      rw [xup_s, hu_s]
      by_cases hq : p = q
      · subst hq
        rw [upd_s, upd_s]
      · rw [upd_n _ hq, upd_n _ hq]
        exact hR.2.2 j p hp
    · rw [xup_n (by simp [hj]), hu_n (fun e => hj (Fin.ext e))]
      exact hR.2.2 j p hp
end XRC
theorem xcl {p n : Nat} (hp : p < n) (hn : n ≤ 6) : (nI p).toNatClampNeg = p := nI_clamp (by omega)
theorem xin6 {p n : Nat} (hp : p < n) (hn : n ≤ 6) : vp_in (nI p) 6 := vp_in_nI (by omega) (by omega)
/-! the hill's own methods that only look -/
section X0A
variable {M : xM} {i : Fin 3} {n : Nat} {h : xh} {R : xR}
theorem c0_isThere (p : Int32) (hR : xRc M i n h) (h1 : 0 ≤ p ∧ p < nI n → R (some (xi 1)) M) (h2 : ¬ (0 ≤ p ∧ p < nI n) → R (some (xi 0)) M) : xWP pg_X0_isThere 0 ([some (xo (xH i)), some (xi p)], [], M) R := by
  refine xgo [] 100 ⟨fun c => ⟨Or.inl rfl, h2 (fun q => absurd c (Int32.not_lt.mpr q.1))⟩, fun c => ⟨fun c2 => ⟨Or.inl rfl, h2 (fun q => ?_)⟩, fun c2 => ⟨Or.inr rfl, h1 ⟨Int32.not_lt.mp c, ?_⟩⟩⟩⟩
  · rw [hR.s5] at c2
    exact absurd q.2 (Int32.not_lt.mpr c2)
  · rw [hR.s5] at c2
    exact Int32.not_le.mp c2
theorem c0_hasSpoken (p : Nat) (hR : xRc M i n h) (h1 : xbt (h 5 9) p → R (some (xi 1)) M) (h2 : ¬ xbt (h 5 9) p → R (some (xi 0)) M) : xWP pg_X0_hasSpoken 0 ([some (xo (xH i)), some (xi (nI p))], [], M) R := by
  rw [← hR.s9] at h1 h2
  exact xgo [] 100 ⟨fun c => ⟨Or.inr rfl, h1 c⟩, fun c => ⟨Or.inl rfl, h2 c⟩⟩
theorem c0_hasDrawn (p : Nat) (hR : xRc M i n h) (h1 : xbt (h 5 10) p → R (some (xi 1)) M) (h2 : ¬ xbt (h 5 10) p → R (some (xi 0)) M) : xWP pg_X0_hasDrawn 0 ([some (xo (xH i)), some (xi (nI p))], [], M) R := by
  rw [← hR.s10] at h1 h2
  exact xgo [] 100 ⟨fun c => ⟨Or.inr rfl, h1 c⟩, fun c => ⟨Or.inl rfl, h2 c⟩⟩
theorem c0_isHushed (p : Nat) (hR : xRc M i n h) (h1 : xbt (h 5 11) p → R (some (xi 1)) M) (h2 : ¬ xbt (h 5 11) p → R (some (xi 0)) M) : xWP pg_X0_isHushed 0 ([some (xo (xH i)), some (xi (nI p))], [], M) R := by
  rw [← hR.s11] at h1 h2
  exact xgo [] 100 ⟨fun c => ⟨Or.inr rfl, h1 c⟩, fun c => ⟨Or.inl rfl, h2 c⟩⟩
theorem c0_speakingHour (p : Nat) (hR : xRc M i n h) (hp : p < n) (hn : n ≤ 6) (h1 : R (some (xi (aSH (h 0 p) (h 1 p)))) M) : xWP pg_X0_speakingHour 0 ([some (xo (xH i)), some (xi (nI p)), none, none], [], M) R := by
  have e0 : M (xA 0 i) (nI p).toNatClampNeg = h 0 p := by rw [xcl hp hn]; exact hR.a0 hp
  have e1 : M (xA 1 i) (nI p).toNatClampNeg = h 1 p := by rw [xcl hp hn]; exact hR.a1 hp
  rw [← e0, ← e1] at h1
  unfold aSH at h1
  refine xgo [] 100 ⟨xin6 hp hn, by decide, xin6 hp hn, fun c => ?_, fun c => ⟨fun c2 => ?_, fun c2 => ⟨fun c3 => ?_, fun c3 => ⟨fun c4 => ?_, fun c4 => ⟨fun c5 => ?_, fun c5 => ?_⟩⟩⟩⟩⟩
  · rw [if_pos c] at h1
    exact ⟨trivial, h1⟩
  · rw [if_neg c, if_pos c2] at h1
    exact ⟨trivial, h1⟩
  · rw [if_neg c, if_neg c2, if_pos c3] at h1
    exact ⟨trivial, h1⟩
  · rw [if_neg c, if_neg c2, if_neg c3, if_pos c4] at h1
    exact ⟨trivial, h1⟩
  · rw [if_neg c, if_neg c2, if_neg c3, if_neg c4, if_pos c5] at h1
    exact ⟨trivial, h1⟩
  · rw [if_neg c, if_neg c2, if_neg c3, if_neg c4, if_neg c5] at h1
    exact ⟨trivial, h1⟩
theorem c0_drinkOf (p : Nat) (hR : xRc M i n h) (hp : p < n) (hn : n ≤ 6) (h1 : R (some (xi (aDr (h 0 p)))) M) : xWP pg_X0_drinkOf 0 ([some (xo (xH i)), some (xi (nI p)), none, none], [], M) R := by
  have e0 : M (xA 0 i) (nI p).toNatClampNeg = h 0 p := by rw [xcl hp hn]; exact hR.a0 hp
  rw [← e0] at h1
  unfold aDr at h1
  refine xgo [] 100 ⟨xin6 hp hn, fun c => ?_, fun c => ⟨fun c2 => ?_, fun c2 => ⟨fun c3 => ?_, fun c3 => ⟨fun c4 => ?_, fun c4 => ⟨fun c5 => ?_, fun c5 => ?_⟩⟩⟩⟩⟩
  · rw [if_pos c] at h1
    exact ⟨trivial, h1⟩
  · rw [if_neg c, if_pos c2] at h1
    exact ⟨trivial, h1⟩
  · rw [if_neg c, if_neg c2, if_pos c3] at h1
    exact ⟨trivial, h1⟩
  · rw [if_neg c, if_neg c2, if_neg c3, if_pos c4] at h1
    exact ⟨trivial, h1⟩
  · rw [if_neg c, if_neg c2, if_neg c3, if_neg c4, if_pos c5] at h1
    exact ⟨trivial, h1⟩
  · rw [if_neg c, if_neg c2, if_neg c3, if_neg c4, if_neg c5] at h1
    exact ⟨trivial, h1⟩
theorem c0_drawsThoughSpoken (p : Nat) (hR : xRc M i n h) (hp : p < n) (hn : n ≤ 6) (h1 : (h 0 p = 5 ∧ ¬ xbt (h 5 11) p) → R (some (xi 1)) M) (h2 : ¬ (h 0 p = 5 ∧ ¬ xbt (h 5 11) p) → R (some (xi 0)) M) : xWP pg_X0_drawsThoughSpoken 0 ([some (xo (xH i)), some (xi (nI p))], [], M) R := by
  have e0 : M (xA 0 i) (nI p).toNatClampNeg = h 0 p := by rw [xcl hp hn]; exact hR.a0 hp
  refine xgo [] 100 ⟨xin6 hp hn, fun c => ⟨rfl, c0_isHushed p hR (fun q => ?_) (fun q => ?_)⟩, fun c => ⟨Or.inl rfl, h2 (fun q => c (e0.trans q.1))⟩⟩
  · exact ⟨fun z => absurd z (by decide), fun _ => ⟨Or.inl rfl, h2 (fun z => z.2 q)⟩⟩
  · exact ⟨fun _ => ⟨Or.inr rfl, h1 ⟨e0.symm.trans c, q⟩⟩, fun z => absurd rfl z⟩
theorem c0_mayDraw (p : Nat) (hR : xRc M i n h) (hp : p < n) (hn : n ≤ 6)
    (h1 : ((¬ xbt (h 5 9) p ∨ (h 0 p = 5 ∧ ¬ xbt (h 5 11) p)) ∧ ¬ xbt (h 5 10) p ∧ h 3 p < 20) → R (some (xi 1)) M) (h2 : ¬ ((¬ xbt (h 5 9) p ∨ (h 0 p = 5 ∧ ¬ xbt (h 5 11) p)) ∧ ¬ xbt (h 5 10) p ∧ h 3 p < 20) → R (some (xi 0)) M) : xWP pg_X0_mayDraw 0 ([some (xo (xH i)), some (xi (nI p)), none], [], M) R := by
  have e3 : M (xA 3 i) (nI p).toNatClampNeg = h 3 p := by rw [xcl hp hn]; exact hR.a3 hp
  have key : (¬ xbt (h 5 9) p ∨ (h 0 p = 5 ∧ ¬ xbt (h 5 11) p)) → xWP pg_X0_mayDraw 21 ([some (xo (xH i)), some (xi (nI p)), none], [xi 1], M) R := by
    intro hq
    refine xgo [] 100 ⟨fun z => absurd z (by decide), fun _ => ⟨rfl, c0_hasDrawn p hR (fun q => ?_) (fun q => ?_)⟩⟩
    · exact ⟨fun z => absurd z (by decide), fun _ => ⟨Or.inl rfl, h2 (fun z => z.2.1 q)⟩⟩
    · refine ⟨fun _ => ⟨xin6 hp hn, fun c => ?_, fun c => ?_⟩, fun z => absurd rfl z⟩
      · exact ⟨Or.inl rfl, h2 (fun z => absurd z.2.2 (Int32.not_lt.mpr (by rw [← e3]; exact c)))⟩
      · exact ⟨Or.inr rfl, h1 ⟨hq, q, by rw [← e3]; exact Int32.not_le.mp c⟩⟩
  refine xgo [21] 100 ⟨rfl, c0_hasSpoken p hR (fun q => ?_) (fun q => ?_)⟩
  · refine ⟨fun z => absurd z (by decide), fun _ => ⟨rfl, c0_drawsThoughSpoken p hR hp hn (fun q2 => ?_) (fun q2 => ?_)⟩⟩
    · exact ⟨fun z => absurd z (by decide), fun _ => key (Or.inr q2)⟩
    · refine ⟨fun _ => xgo [] 100 ⟨fun _ => ?_, fun z => absurd rfl z⟩, fun z => absurd rfl z⟩
      exact ⟨Or.inl rfl, h2 (fun z => z.1.elim (fun z => z q) q2)⟩
  · exact ⟨fun _ => key (Or.inl q), fun z => absurd rfl z⟩
end X0A
