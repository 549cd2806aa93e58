/-! ===== Int32 by its bits (a family of the kit's rows to paste), and what is needed of it here ===== -/
def bt (x : Int32) (i : Nat) : Bool := x.toBitVec.getLsbD i
theorem b_ext {x y : Int32} (h : ∀ i, i < 32 → bt x i = bt y i) : x = y := Int32.toBitVec_inj.mp (BitVec.eq_of_getLsbD_eq (fun i hi => h i hi))
theorem b_or (x y : Int32) (i : Nat) : bt (x ||| y) i = (bt x i || bt y i) := by unfold bt; rw [Int32.toBitVec_or, BitVec.getLsbD_or]
theorem b_and (x y : Int32) (i : Nat) : bt (x &&& y) i = (bt x i && bt y i) := by unfold bt; rw [Int32.toBitVec_and, BitVec.getLsbD_and]
theorem b_0 (i : Nat) : bt 0 i = false := BitVec.getLsbD_zero
theorem s_l : ∀ n, n < 32 → ((nI n &&& 31).toBitVec.smod 32).toNat = n := by decide +kernel
theorem b_shl (n : Nat) (hn : n < 32) (x : Int32) {i : Nat} (hi : i < 32) : bt (x <<< (nI n &&& 31)) i = (decide (n ≤ i) && bt x (i - n)) := by
  unfold bt
  rw [Int32.toBitVec_shiftLeft]
  show (x.toBitVec <<< ((nI n &&& 31).toBitVec.smod 32).toNat).getLsbD i = _
  rw [s_l n hn, BitVec.getLsbD_shiftLeft]
  rcases Nat.lt_or_ge i n with h | h
  · simp [h, Nat.not_le.mpr h]
  · simp [hi, h, Nat.not_lt.mpr h]
theorem b_sshr (n : Nat) (hn : n < 32) (x : Int32) {i : Nat} (hi : i < 32) : bt (x >>> (nI n &&& 31)) i = if n + i < 32 then bt x (n + i) else bt x 31 := by
  unfold bt
  rw [Int32.toBitVec_shiftRight]
  show (x.toBitVec.sshiftRight ((nI n &&& 31).toBitVec.smod 32).toNat).getLsbD i = _
  rw [s_l n hn, BitVec.getLsbD_sshiftRight, BitVec.msb_eq_getLsbD_last]
  simp [hi]
theorem b_1 : ∀ i, i < 32 → bt 1 i = decide (i = 0) := by decide +kernel
theorem xbt_iff {a : Int32} {p : Nat} (hp : p < 32) : xbt a p ↔ bt a p = true := by
  constructor
  · intro h
    have h0 : bt ((a >>> (nI p &&& 31)) &&& 1) 0 = bt 1 0 := by rw [h]
    rw [b_and, b_sshr p hp a (by omega), b_1 0 (by omega)] at h0
    simpa [hp] using h0
  · intro h
    refine b_ext (fun i hi => ?_)
    rw [b_and, b_1 i hi]
    by_cases h0 : i = 0
    · subst h0
      rw [b_sshr p hp a (by omega)]
      simpa [hp] using h
    · simp [h0]
theorem b_one (p : Nat) (hp : p < 32) {i : Nat} (hi : i < 32) : bt (1 <<< (nI p &&& 31)) i = decide (i = p) := by
  rw [b_shl p hp 1 hi]
  by_cases h : p ≤ i
  · rw [b_1 (i - p) (by omega)]
    by_cases h2 : i = p
    · subst h2; simp
    · simp [h, h2]; omega
  · have h2 : ¬ i = p := by omega
    simp [h, h2]
theorem xbt_or {a : Int32} {p q : Nat} (hp : p < 32) (hq : q < 32) : xbt (a ||| 1 <<< (nI p &&& 31)) q ↔ (q = p ∨ xbt a q) := by
  rw [xbt_iff hq, xbt_iff hq, b_or, b_one p hp hq]
  simp only [Bool.or_eq_true, decide_eq_true_eq]
  exact Or.comm
theorem xbt_0 (p : Nat) (hp : p < 32) : ¬ xbt 0 p := by
  rw [xbt_iff hp, b_0]
  decide
theorem xbt_1 {p q : Nat} (hp : p < 32) (hq : q < 32) : xbt (1 <<< (nI p &&& 31)) q ↔ q = p := by
  rw [xbt_iff hq, b_one p hp hq, decide_eq_true_eq]
def aFl (s : Int32) (p : Nat) : Int32 := if xbt s p then 1 else 0
theorem aFl_or {a : Int32} {p q : Nat} (hp : p < 32) (hq : q < 32) : aFl (a ||| 1 <<< (nI p &&& 31)) q = if q = p then 1 else aFl a q := by
  unfold aFl
  by_cases h : q = p
  · rw [if_pos ((xbt_or hp hq).mpr (Or.inl h)), if_pos h]
  · rw [if_neg h]
    by_cases h2 : xbt a q
    · rw [if_pos ((xbt_or hp hq).mpr (Or.inr h2)), if_pos h2]
    · rw [if_neg (fun z => ((xbt_or hp hq).mp z).elim h h2), if_neg h2]
theorem aFl_0 {p : Nat} (hp : p < 32) : aFl 0 p = 0 := if_neg (xbt_0 p hp)
/-! ===== the model's rows ===== -/
def aS (n : Nat) (h : xh) (k : Nat) : Int32 := match k with
  | 0 => nI n
  | 1 => h 5 8
  | 2 => h 5 6
  | 3 => h 5 7
  | _ => h 5 11
def aV (h : xh) (p w : Nat) : Int32 := match w with
  | 0 => h 0 p
  | 1 => h 1 p
  | 2 => h 2 p
  | 3 => h 3 p
  | 4 => aFl (h 5 9) p
  | 5 => aFl (h 5 10) p
  | _ => h 4 p
def xRm (M : xM) (r : Fin 4) (n : Nat) (h : xh) : Prop := (∀ k, k < 5 → M (xW r) k = aS n h k) ∧ ∀ p, p < n → ∀ w, w < 7 → M (xW r) (5 + 7 * p + w) = aV h p w
def xfw (r : Fin 4) (M M' : xM) : Prop := ∀ o, o ≠ xW r → M' o = M o
theorem xfw.rf {r : Fin 4} {M : xM} : xfw r M M := fun _ _ => rfl
theorem xfw.tr {r : Fin 4} {M M1 M2 : xM} (h1 : xfw r M M1) (h2 : xfw r M1 M2) : xfw r M M2 := fun o ho => (h2 o ho).trans (h1 o ho)
theorem xfw.u {r : Fin 4} {M M1 : xM} (h : xfw r M M1) (k : Nat) (v : Int32) : xfw r M (xup M1 (xW r) k v) := fun o ho => by
  rw [← h o ho, xup_n ho]
theorem xRm.up {M : xM} {r : Fin 4} {n : Nat} {h h' : xh} (hR : xRm M r n h) (j : Nat) (v : Int32) (e1 : ∀ k, k < 5 → aS n h' k = if k = j then v else aS n h k) (e2 : ∀ p, p < n → ∀ w, w < 7 → aV h' p w = if 5 + 7 * p + w = j then v else aV h p w) : xRm (xup M (xW r) j v) r n h' := by
  refine ⟨fun k hk => ?_, fun p hp w hw => ?_⟩
  · rw [xup_s, e1 k hk]
    by_cases hj : k = j
    · subst hj
      rw [upd_s, if_pos rfl]
    · rw [upd_n _ hj, if_neg hj]
      exact hR.1 k hk
  · rw [xup_s, e2 p hp w hw]
    by_cases hj : 5 + 7 * p + w = j
    · subst hj
      rw [upd_s, if_pos rfl]
    · rw [upd_n _ hj, if_neg hj]
      exact hR.2 p hp w hw
theorem xw5 {k : Nat} (h : k < 5) : k = 0 ∨ k = 1 ∨ k = 2 ∨ k = 3 ∨ k = 4 := by omega
theorem xw7 {k : Nat} (h : k < 7) : k = 0 ∨ k = 1 ∨ k = 2 ∨ k = 3 ∨ k = 4 ∨ k = 5 ∨ k = 6 := by omega
section XRM
variable {M : xM} {r : Fin 4} {n : Nat} {h : xh} {p : Nat}
theorem xRm.g0 (hR : xRm M r n h) : M (xW r) (Int32.toNatClampNeg 0) = nI n := hR.1 0 (by omega)
theorem xRm.g1 (hR : xRm M r n h) : M (xW r) (Int32.toNatClampNeg 1) = h 5 8 := hR.1 1 (by omega)
theorem xRm.g2 (hR : xRm M r n h) : M (xW r) (Int32.toNatClampNeg 2) = h 5 6 := hR.1 2 (by omega)
theorem xRm.g3 (hR : xRm M r n h) : M (xW r) (Int32.toNatClampNeg 3) = h 5 7 := hR.1 3 (by omega)
theorem xRm.g4 (hR : xRm M r n h) : M (xW r) (Int32.toNatClampNeg 4) = h 5 11 := hR.1 4 (by omega)
theorem xof_cl {p w : Nat} (hp : p < 6) (hw : w < 7) : (nI (5 + 7 * p + w)).toNatClampNeg = 5 + 7 * p + w := nI_clamp (by omega)
theorem xof_in {p w : Nat} (hp : p < 6) (hw : w < 7) : vp_in (nI (5 + 7 * p + w)) 47 := vp_in_nI (by omega) (by omega)
theorem xRm.v (hR : xRm M r n h) (hp : p < n) (hn : n ≤ 6) (w : Nat) (hw : w < 7) : M (xW r) (nI (5 + 7 * p + w)).toNatClampNeg = aV h p w := by
  rw [xof_cl (by omega) hw]
  exact hR.2 p hp w hw
theorem xRm.uHas (hR : xRm M r n h) (hn : n ≤ 6) (hp : p < n) (v : Int32) : xRm (xup M (xW r) (5 + 7 * p + 3) v) r n (hu h 3 p v) := by
  refine hR.up _ v (fun k hk => ?_) (fun q hq w hw => ?_)
  · rw [if_neg (by omega)]
    rcases xw5 hk with rfl | rfl | rfl | rfl | rfl <;> rfl
  · by_cases hj : 5 + 7 * q + w = 5 + 7 * p + 3
    · have h1 : q = p := by omega
      have h2 : w = 3 := by omega
      subst h1; subst h2
      rw [if_pos rfl]
      show hu h 3 q v 3 q = v
      rw [hu_s, upd_s]
    · rw [if_neg hj]
      rcases xw7 hw with rfl | rfl | rfl | rfl | rfl | rfl | rfl
      · rfl
      · rfl
      · rfl
      · show hu h 3 p v 3 q = h 3 q
        rw [hu_s, upd_n _ (by omega)]
      · rfl
      · rfl
      · rfl
theorem aV_of {h h' : xh} {q w : Nat} (hw : w < 7) (e0 : h' 0 q = h 0 q) (e1 : h' 1 q = h 1 q) (e2 : h' 2 q = h 2 q) (e3 : h' 3 q = h 3 q) (e4 : h' 4 q = h 4 q) (e9 : w = 4 → aFl (h' 5 9) q = aFl (h 5 9) q) (e10 : w = 5 → aFl (h' 5 10) q = aFl (h 5 10) q) : aV h' q w = aV h q w := by
  rcases xw7 hw with rfl | rfl | rfl | rfl | rfl | rfl | rfl
  · exact e0
  · exact e1
  · exact e2
  · exact e3
  · exact e9 rfl
  · exact e10 rfl
  · exact e4
theorem xRm.uSc (hR : xRm M r n h) (j k : Nat) (v : Int32) (hj : j < 5) (e1 : ∀ i, i < 5 → aS n (hu h 5 k v) i = if i = j then v else aS n h i) (hk : k ≠ 9 ∧ k ≠ 10) : xRm (xup M (xW r) j v) r n (hu h 5 k v) := by
  refine hR.up _ v e1 (fun q hq w hw => ?_)
  rw [if_neg (by omega)]
  have a9 : hu h 5 k v 5 9 = h 5 9 := by rw [hu_s, upd_n _ (Ne.symm hk.1)]
  have a10 : hu h 5 k v 5 10 = h 5 10 := by rw [hu_s, upd_n _ (Ne.symm hk.2)]
  exact aV_of hw (by rw [hu_n (by omega)]) (by rw [hu_n (by omega)]) (by rw [hu_n (by omega)]) (by rw [hu_n (by omega)]) (by rw [hu_n (by omega)]) (fun _ => by rw [a9]) (fun _ => by rw [a10])
theorem xRm.uWater (hR : xRm M r n h) (v : Int32) : xRm (xup M (xW r) 2 v) r n (hu h 5 6 v) :=
  hR.uSc 2 6 v (by omega) (fun i hi => by rcases xw5 hi with rfl | rfl | rfl | rfl | rfl <;> rfl) (by omega)
theorem xRm.uFlow (hR : xRm M r n h) (v : Int32) : xRm (xup M (xW r) 3 v) r n (hu h 5 7 v) :=
  hR.uSc 3 7 v (by omega) (fun i hi => by rcases xw5 hi with rfl | rfl | rfl | rfl | rfl <;> rfl) (by omega)
theorem xRm.uHour (hR : xRm M r n h) (v : Int32) : xRm (xup M (xW r) 1 v) r n (hu h 5 8 v) :=
  hR.uSc 1 8 v (by omega) (fun i hi => by rcases xw5 hi with rfl | rfl | rfl | rfl | rfl <;> rfl) (by omega)
theorem xRm.uHush (hR : xRm M r n h) (v : Int32) : xRm (xup M (xW r) 4 v) r n (hu h 5 11 v) :=
  hR.uSc 4 11 v (by omega) (fun i hi => by rcases xw5 hi with rfl | rfl | rfl | rfl | rfl <;> rfl) (by omega)
theorem xRm.uSpoke (hR : xRm M r n h) (hn : n ≤ 6) (hp : p < n) : xRm (xup M (xW r) (5 + 7 * p + 4) 1) r n (hu h 5 9 (h 5 9 ||| 1 <<< (nI p &&& 31))) := by
  generalize hv : h 5 9 ||| 1 <<< (nI p &&& 31) = v
  have b1 : hu h 5 9 v 5 9 = v := by rw [hu_s, upd_s]
  have b2 : hu h 5 9 v 5 10 = h 5 10 := by rw [hu_s, upd_n _ (by omega)]
  refine hR.up _ 1 (fun j hj => ?_) (fun q hq w hw => ?_)
  · rw [if_neg (by omega)]
    rcases xw5 hj with rfl | rfl | rfl | rfl | rfl
    · rfl
    · show hu h 5 9 v 5 8 = h 5 8
      rw [hu_s, upd_n _ (by omega)]
    · show hu h 5 9 v 5 6 = h 5 6
      rw [hu_s, upd_n _ (by omega)]
    · show hu h 5 9 v 5 7 = h 5 7
      rw [hu_s, upd_n _ (by omega)]
    · show hu h 5 9 v 5 11 = h 5 11
      rw [hu_s, upd_n _ (by omega)]
  · by_cases hj : 5 + 7 * q + w = 5 + 7 * p + 4
    · have h1 : q = p := by omega
      have h2 : w = 4 := by omega
      subst h1; subst h2
      rw [if_pos rfl]
      have : aV (hu h 5 9 v) q 4 = aFl (hu h 5 9 v 5 9) q := rfl
      rw [this, b1, ← hv, aFl_or (by omega) (by omega), if_pos rfl]
    · rw [if_neg hj]
      refine aV_of hw (by rw [hu_n (by omega)]) (by rw [hu_n (by omega)]) (by rw [hu_n (by omega)]) (by rw [hu_n (by omega)]) (by rw [hu_n (by omega)]) (fun e => ?_) (fun e => ?_)
      · rw [b1, ← hv, aFl_or (by omega) (by omega), if_neg (by omega)]
      · rw [b2]
theorem xRm.uDrew (hR : xRm M r n h) (hn : n ≤ 6) (hp : p < n) : xRm (xup M (xW r) (5 + 7 * p + 5) 1) r n (hu h 5 10 (h 5 10 ||| 1 <<< (nI p &&& 31))) := by
  generalize hv : h 5 10 ||| 1 <<< (nI p &&& 31) = v
  have b1 : hu h 5 10 v 5 10 = v := by rw [hu_s, upd_s]
  have b2 : hu h 5 10 v 5 9 = h 5 9 := by rw [hu_s, upd_n _ (by omega)]
  refine hR.up _ 1 (fun j hj => ?_) (fun q hq w hw => ?_)
  · rw [if_neg (by omega)]
    rcases xw5 hj with rfl | rfl | rfl | rfl | rfl
    · rfl
    · show hu h 5 10 v 5 8 = h 5 8
      rw [hu_s, upd_n _ (by omega)]
    · show hu h 5 10 v 5 6 = h 5 6
      rw [hu_s, upd_n _ (by omega)]
    · show hu h 5 10 v 5 7 = h 5 7
      rw [hu_s, upd_n _ (by omega)]
    · show hu h 5 10 v 5 11 = h 5 11
      rw [hu_s, upd_n _ (by omega)]
  · by_cases hj : 5 + 7 * q + w = 5 + 7 * p + 5
    · have h1 : q = p := by omega
      have h2 : w = 5 := by omega
      subst h1; subst h2
      rw [if_pos rfl]
      have : aV (hu h 5 10 v) q 5 = aFl (hu h 5 10 v 5 10) q := rfl
      rw [this, b1, ← hv, aFl_or (by omega) (by omega), if_pos rfl]
    · rw [if_neg hj]
      refine aV_of hw (by rw [hu_n (by omega)]) (by rw [hu_n (by omega)]) (by rw [hu_n (by omega)]) (by rw [hu_n (by omega)]) (by rw [hu_n (by omega)]) (fun e => ?_) (fun e => ?_)
      · rw [b2]
      · rw [b1, ← hv, aFl_or (by omega) (by omega), if_neg (by omega)]
end XRM
/-! its small methods -/
section X3A
variable {M : xM} {R : xR}
theorem xmn_c (a b : Int32) (h : b ≤ a) : xmn a b = b := by
  unfold xmn
  by_cases h2 : b < a
  · rw [if_pos h2]
  · rw [if_neg h2]
    exact Int32.le_antisymm (Int32.not_lt.mp h2) h
theorem xmn_d (a b : Int32) (h : ¬ b ≤ a) : xmn a b = a := by
  unfold xmn
  rw [if_neg (fun z => h (Int32.le_of_lt z))]
theorem c3_least (a b : Int32) (h1 : R (some (xi (xmn a b))) M) : xWP pg_X3_least 0 ([some (xi a), some (xi b)], [], M) R := by
  refine xgo [] 100 ⟨fun c => ⟨trivial, ?_⟩, fun c => ⟨trivial, ?_⟩⟩
  · rw [xmn_c a b c] at h1
    exact h1
  · rw [xmn_d a b c] at h1
    exact h1
theorem xof_eq (p w : Nat) : (5 : Int32) + 7 * nI p + nI w = nI (5 + 7 * p + w) := by
  show nI 5 + nI 7 * nI p + nI w = _
  rw [pk_mul, nI_add, nI_add]
theorem c3_of (p w : Nat) (h1 : R (some (xi (nI (5 + 7 * p + w)))) M) : xWP pg_X3_of 0 ([some (xi (nI p)), some (xi (nI w))], [], M) R := by
  refine xgo [] 100 ⟨trivial, ?_⟩
  rw [xof_eq]
  exact h1
theorem c3_isIn (v a b : Int32) (h1 : a ≤ v ∧ v ≤ b → R (some (xi 1)) M) (h2 : ¬ (a ≤ v ∧ v ≤ b) → R (some (xi 0)) M) : xWP pg_X3_isIn 0 ([some (xi v), some (xi a), some (xi b)], [], M) R := by
  refine xgo [] 100 ⟨fun c => ⟨Or.inl rfl, h2 (fun z => absurd c (Int32.not_lt.mpr z.1))⟩, fun c => ⟨fun c2 => ⟨Or.inl rfl, h2 (fun z => absurd c2 (Int32.not_lt.mpr z.2))⟩, fun c2 => ⟨Or.inr rfl, h1 ⟨Int32.not_lt.mp c, Int32.not_lt.mp c2⟩⟩⟩⟩
theorem c3_has (a : Int32) (p : Nat) (h1 : xbt a p → R (some (xi 1)) M) (h2 : ¬ xbt a p → R (some (xi 0)) M) : xWP pg_X3_has 0 ([some (xi a), some (xi (nI p))], [], M) R :=
  xgo [] 100 ⟨fun c => ⟨Or.inr rfl, h1 c⟩, fun c => ⟨Or.inl rfl, h2 c⟩⟩
theorem c3_speaksBy (k f : Int32) (h1 : R (some (xi (aSH k f))) M) : xWP pg_X3_speaksBy 0 ([some (xi k), some (xi f), none], [], M) R := by
  unfold aSH at h1
  refine xgo [] 100 ⟨by decide, fun c => ?_, fun c => ⟨fun c2 => ?_, fun c2 => ⟨fun c3 => ?_, fun c3 => ⟨fun c4 => ?_, fun c4 => ⟨fun c5 => ?_, fun c5 => ?_⟩⟩⟩⟩⟩
  · rw [if_pos c] at h1
    exact ⟨rfl, c3_least _ _ ⟨trivial, h1⟩⟩
  · rw [if_neg c, if_pos c2] at h1
    exact ⟨trivial, h1⟩
  · rw [if_neg c, if_neg c2, if_pos c3] at h1
    exact ⟨trivial, h1⟩
  · rw [if_neg c, if_neg c2, if_neg c3, if_pos c4] at h1
    exact ⟨rfl, c3_least _ _ ⟨rfl, c3_least _ _ ⟨trivial, h1⟩⟩⟩
  · rw [if_neg c, if_neg c2, if_neg c3, if_neg c4, if_pos c5] at h1
    exact ⟨trivial, h1⟩
  · rw [if_neg c, if_neg c2, if_neg c3, if_neg c4, if_neg c5] at h1
    exact ⟨trivial, h1⟩
theorem c3_drinksBy (k : Int32) (h1 : R (some (xi (aDr k))) M) : xWP pg_X3_drinksBy 0 ([some (xi k)], [], M) R := by
  unfold aDr at h1
  refine xgo [] 100 ⟨fun c => ?_, fun c => ⟨fun c2 => ?_, fun c2 => ⟨fun c3 => ?_, fun c3 => ⟨fun c4 => ?_, fun c4 => ⟨fun c5 => ?_, fun c5 => ?_⟩⟩⟩⟩⟩
  · rw [if_pos c] at h1
    exact ⟨trivial, h1⟩
  · rw [if_neg c, if_pos c2] at h1
    exact ⟨trivial, h1⟩
  · rw [if_neg c, if_neg c2, if_pos c3] at h1
    exact ⟨trivial, h1⟩
  · rw [if_neg c, if_neg c2, if_neg c3, if_pos c4] at h1
    exact ⟨trivial, h1⟩
  · rw [if_neg c, if_neg c2, if_neg c3, if_neg c4, if_pos c5] at h1
    exact ⟨trivial, h1⟩
  · rw [if_neg c, if_neg c2, if_neg c3, if_neg c4, if_neg c5] at h1
    exact ⟨trivial, h1⟩
end X3A
section X3B
variable {M : xM} {r : Fin 4} {n : Nat} {h : xh} {R : xR}
theorem xin47 {k : Nat} (hk : k < 47) : vp_in (nI k) 47 := vp_in_nI hk (by omega)
theorem c3_speaksIn (p : Nat) (hR : xRm M r n h) (hp : p < n) (hn : n ≤ 6) (h1 : R (some (xi (if xbt (h 5 11) p then 12 else aSH (h 0 p) (h 1 p)))) M) : xWP pg_X3_speaksIn 0 ([some (xo (xW r)), some (xi (nI p))], [], M) R := by
  refine xgo [] 100 ⟨xin47 (k := 4) (by omega), rfl, ?_⟩
  rw [hR.g4]
  refine c3_has _ p (fun q => ?_) (fun q => ?_)
  · rw [if_pos q] at h1
    exact ⟨fun z => absurd z (by decide), fun _ => ⟨trivial, h1⟩⟩
  · rw [if_neg q] at h1
    refine ⟨fun _ => ⟨rfl, c3_of p 0 ⟨xof_in (by omega) (by omega), rfl, c3_of p 1 ⟨xof_in (by omega) (by omega), rfl, ?_⟩⟩⟩, fun z => absurd rfl z⟩
    rw [hR.v hp hn 0 (by omega), hR.v hp hn 1 (by omega)]
    exact c3_speaksBy _ _ ⟨trivial, h1⟩
theorem aFl_e0 {s : Int32} {p : Nat} : aFl s p = 0 ↔ ¬ xbt s p := by
  unfold aFl
  by_cases h : xbt s p
  · rw [if_pos h]
    exact ⟨fun z => absurd z (by decide), fun z => absurd h z⟩
  · rw [if_neg h]
    exact ⟨fun _ => h, fun _ => rfl⟩
theorem c3_mayDraw (p : Nat) (hR : xRm M r n h) (hp : p < n) (hn : n ≤ 6) (h1 : aMay h p → R (some (xi 1)) M) (h2 : ¬ aMay h p → R (some (xi 0)) M) : xWP pg_X3_mayDraw 0 ([some (xo (xW r)), some (xi (nI p))], [], M) R := by
  refine xgo [] 200 ⟨rfl, c3_of p 5 ⟨xof_in (by omega) (by omega), ?_⟩⟩
  rw [hR.v hp hn 5 (by omega)]
  refine ⟨fun c => ⟨rfl, c3_of p 3 ⟨xof_in (by omega) (by omega), ?_⟩⟩, fun c => ⟨Or.inl rfl, h2 (fun z => c (aFl_e0.mpr z.2.1))⟩⟩
  rw [hR.v hp hn 3 (by omega)]
  refine ⟨fun c2 => ⟨Or.inl rfl, h2 (fun z => absurd z.2.2 (Int32.not_lt.mpr c2))⟩, fun c2 => ⟨rfl, c3_of p 4 ⟨xof_in (by omega) (by omega), ?_⟩⟩⟩
  rw [hR.v hp hn 4 (by omega)]
  refine ⟨fun c3 => ⟨Or.inr rfl, h1 ⟨Or.inl (aFl_e0.mp c3), aFl_e0.mp c, Int32.not_le.mp c2⟩⟩, fun c3 => ⟨rfl, c3_of p 0 ⟨xof_in (by omega) (by omega), ?_⟩⟩⟩
  rw [hR.v hp hn 0 (by omega)]
  have c3' : ¬ ¬ xbt (h 5 9) p := fun z => c3 (aFl_e0.mpr z)
  refine ⟨fun c4 => ⟨xin47 (k := 4) (by omega), rfl, ?_⟩, fun c4 => ⟨Or.inl rfl, h2 (fun z => z.1.elim c3' (fun z => c4 z.1))⟩⟩
  rw [hR.g4]
  refine c3_has _ p (fun q => ?_) (fun q => ?_)
  · exact ⟨fun z => absurd z (by decide), fun _ => ⟨Or.inl rfl, h2 (fun z => z.1.elim c3' (fun z => z.2 q))⟩⟩
  · exact ⟨fun _ => ⟨Or.inr rfl, h1 ⟨Or.inr ⟨c4, q⟩, aFl_e0.mp c, Int32.not_le.mp c2⟩⟩, fun z => absurd rfl z⟩
end X3B
