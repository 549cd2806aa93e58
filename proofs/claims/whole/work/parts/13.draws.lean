/-! ===== bounds of a hill ===== -/
def aBd (n : Nat) (h : xh) : Prop := n ≤ 6 ∧ (∃ w, w ≤ 99 ∧ h 5 6 = nI w) ∧ (∃ f, f ≤ 30 ∧ h 5 7 = nI f) ∧ ∀ p, p < n → (∃ c, c ≤ 9 ∧ h 2 p = nI c) ∧ (∃ a, a ≤ 99 ∧ h 3 p = nI a) ∧ h 4 p = nI (aFr h p) ∧ aFr h p ≤ 5
theorem aBd.ok {n : Nat} {h : xh} (H : aBd n h) : aOk n h := ⟨H.1, fun p hp => (H.2.2.2 p hp).2.2⟩
theorem xmn_nI {a b : Nat} (ha : a < 2 ^ 31) (hb : b < 2 ^ 31) : xmn (nI a) (nI b) = nI (min a b) := by
  unfold xmn
  by_cases h : b < a
  · rw [if_pos ((nI_ltI hb ha).mpr h), Nat.min_eq_right (by omega)]
  · rw [if_neg (fun z => h ((nI_ltI hb ha).mp z)), Nat.min_eq_left (by omega)]
theorem nI_2 {a : Nat} (ha : a < 2 ^ 31) : nI a / 2 = nI (a / 2) := pk_div (d := 2) ha (by omega) (by omega)
theorem xmx_nI {a b : Nat} (ha : a < 2 ^ 30) (hb : b < 2 ^ 30) : xmx 0 (nI a - nI b) = nI (a - b) := by
  unfold xmx
  by_cases h : b ≤ a
  · rw [pk_sub h]
    by_cases h2 : a - b = 0
    · rw [h2, nI_0, if_neg (by decide)]
    · rw [if_pos]
      rw [← nI_0]
      exact nI_lt (by omega) (by omega)
  · have h3 := pk_sneg (a := a) (b := b) hb (by omega)
    rw [if_neg (fun z => absurd (Int32.lt_trans z h3) (by decide)), show a - b = 0 by omega, nI_0]
theorem aDr_nI (k : Int32) : ∃ d, d ≤ 4 ∧ 1 ≤ d ∧ aDr k = nI d := by
  unfold aDr
  split
  · exact ⟨2, by omega, by omega, rfl⟩
  · split
    · exact ⟨4, by omega, by omega, rfl⟩
    · split
      · exact ⟨2, by omega, by omega, rfl⟩
      · split
        · exact ⟨1, by omega, by omega, rfl⟩
        · split
          · exact ⟨4, by omega, by omega, rfl⟩
          · exact ⟨3, by omega, by omega, rfl⟩
theorem aBd_has {n : Nat} {h : xh} (H : aBd n h) (q a : Nat) (ha : a ≤ 99) : aBd n (hu h 3 q (nI a)) := by
  refine ⟨H.1, H.2.1, H.2.2.1, fun p hp => ?_⟩
  obtain ⟨h1, h2, h3⟩ := H.2.2.2 p hp
  refine ⟨h1, ?_, h3⟩
  by_cases e : p = q
  · subst e
    exact ⟨a, ha, by rw [hu_s, upd_s]⟩
  · obtain ⟨b, hb, eb⟩ := h2
    exact ⟨b, hb, by rw [hu_s, upd_n _ e]; exact eb⟩
theorem aBd_water {n : Nat} {h : xh} (H : aBd n h) (a : Nat) (ha : a ≤ 99) : aBd n (hu h 5 6 (nI a)) := by
  refine ⟨H.1, ⟨a, ha, by rw [hu_s, upd_s]⟩, ?_, fun p hp => H.2.2.2 p hp⟩
  obtain ⟨f, hf, ef⟩ := H.2.2.1
  exact ⟨f, hf, by rw [hu_s, upd_n _ (by omega)]; exact ef⟩
theorem aBd_sc {n : Nat} {h : xh} (H : aBd n h) (k : Nat) (hk : 8 ≤ k) (v : Int32) : aBd n (hu h 5 k v) := by
  refine ⟨H.1, ?_, ?_, fun p hp => H.2.2.2 p hp⟩
  · obtain ⟨f, hf, ef⟩ := H.2.1
    exact ⟨f, hf, by rw [hu_s, upd_n _ (by omega)]; exact ef⟩
  · obtain ⟨f, hf, ef⟩ := H.2.2.1
    exact ⟨f, hf, by rw [hu_s, upd_n _ (by omega)]; exact ef⟩
theorem aBd_draw {n : Nat} {h : xh} (H : aBd n h) {p : Nat} (hp : p < n) (hm : h 3 p < 20) : aBd n (aDraw n h p) := by
  obtain ⟨w, hw, ew⟩ := H.2.1
  obtain ⟨⟨c, hc, ec⟩, ⟨a, ha, ea⟩, -, hf5⟩ := H.2.2.2 p hp
  have ha20 : a < 20 := by
    rw [ea] at hm
    exact (nI_ltI (b := 20) (by omega) (by omega)).mp hm
  unfold aDraw
  have ed : xmn (h 2 p) (h 5 6) = nI (min c w) := by rw [ec, ew]; exact xmn_nI (by omega) (by omega)
  rw [ed]
  by_cases h0 : (0 : Int32) < nI (min c w)
  · rw [if_pos h0]
    have h1 : aBd n (aD1 h p (nI (min c w))) := by
      unfold aD1
      rw [ew, ea, pk_sub (by omega), nI_add]
      exact aBd_sc (aBd_has (aBd_water H _ (by omega)) p _ (by omega)) 10 (by omega) _
    by_cases g : aGv n (aD1 h p (nI (min c w))) p (aFr h p)
    · rw [if_pos g]
      unfold aD2
      have e3 : aD1 h p (nI (min c w)) 3 p = nI (a + min c w) := by
        show hu (hu h 5 6 _) 3 p (h 3 p + nI (min c w)) 3 p = _
        rw [hu_s, upd_s, ea, nI_add]
      rw [e3, nI_2 (by omega), pk_sub (by omega)]
      have h2 := aBd_has h1 p (a + min c w - min c w / 2) (by omega)
      obtain ⟨-, ⟨b, hb, eb⟩, -⟩ := h2.2.2.2 (aFr h p) g.2.1
      rw [eb, nI_add]
      show aBd n (hu _ 3 _ (xmn (nI 99) _))
      rw [xmn_nI (by omega) (by omega)]
      exact aBd_has h2 _ _ (by omega)
    · rw [if_neg g]
      exact h1
  · rw [if_neg h0]
    exact H
theorem aBd_draws {n : Nat} {h : xh} (H : aBd n h) : ∀ k, k ≤ n → aBd n (aDraws n h k)
  | 0, _ => H
  | k + 1, hk => by
    unfold aDraws
    split
    · rename_i c
      exact aBd_draw (aBd_draws H k (by omega)) (by omega) c.2.2
    · exact aBd_draws H k (by omega)
theorem aBd_drk {n : Nat} {h : xh} (H : aBd n h) : ∀ k, k ≤ n → aBd n (aDrk h k)
  | 0, _ => H
  | k + 1, hk => by
    have ih := aBd_drk H k (by omega)
    unfold aDrk
    obtain ⟨-, ⟨a, ha, ea⟩, -⟩ := ih.2.2.2 k (by omega)
    obtain ⟨d, hd, -, ed⟩ := aDr_nI (aDrk h k 0 k)
    rw [ea, ed, xmx_nI (by omega) (by omega)]
    exact aBd_has ih k _ (by omega)
theorem aBd_h1 {n : Nat} {h : xh} (H : aBd n h) : aBd n (aH1 h) := by
  unfold aH1
  split
  · unfold aDawn
    obtain ⟨w, hw, ew⟩ := H.2.1
    obtain ⟨f, hf, ef⟩ := H.2.2.1
    rw [ew, ef, nI_add]
    show aBd n (hu _ 5 6 (xmn (nI 99) _))
    rw [xmn_nI (by omega) (by omega)]
    exact aBd_water (aBd_sc (aBd_sc H 9 (by omega) 0) 10 (by omega) 0) _ (by omega)
  · exact H
theorem aBd_h3 {n : Nat} {h : xh} (H : aBd n h) (z : Int32) : aBd n (aH3 n h z) := aBd_sc (aBd_sc (aBd_h1 H) 9 (by omega) _) 9 (by omega) _
theorem aBd_hr {n : Nat} {h : xh} (H : aBd n h) (z : Int32) : aBd n (aHr n h z) := by
  unfold aHr
  refine aBd_sc ?_ 8 (by omega) _
  have h4 : aBd n (aH4 n h z) := aBd_draws (aBd_h3 H z) n (Nat.le_refl n)
  unfold aH5
  split
  · exact aBd_drk h4 n (Nat.le_refl n)
  · exact h4
theorem aBd_hrs {n : Nat} {h : xh} (H : aBd n h) : ∀ k, aBd n (aHrs n h k)
  | 0 => H
  | k + 1 => aBd_hr (aBd_hrs H k) 0
/-! ===== the model draws ===== -/
section X3C
variable {r : Fin 4} {n : Nat} {R : xR}
theorem l3_draws {M M0 : xM} {g : xh} (p f : Nat) (d : Int32) (hR : xRm M r n g) (hF : xfw r M0 M) (hp : p < n) (hn : n ≤ 6) (hf : g 4 p = nI f) (hf5 : f ≤ 5) (x3 : Option xV) (hk : ∀ M', xRm M' r n (if aGv n g p f then aD2 g p f d else g) → xfw r M0 M' → R none M') : xWP pg_X3_draws 53 ([some (xo (xW r)), some (xi (nI p)), some (xi d), x3], [], M) R := by
  refine xgo [62] 100 ⟨rfl, c3_of p 6 ⟨xof_in (by omega) (by omega), ?_⟩⟩
  rw [hR.v hp hn 6 (by omega), show aV g p 6 = nI f from hf]
  show xWP pg_X3_draws 62 ([some (xo (xW r)), some (xi (nI p)), some (xi d), some (xi (nI f))], [], M) R
  refine xgo [102] 100 ⟨fun c => ?_, fun c => ⟨xin47 (k := 0) (by omega), ?_⟩⟩
  · rw [if_neg (fun z => z.1 ((nI_eq (by omega) (by omega)).mp c))] at hk
    exact ⟨trivial, hk M hR hF⟩
  rw [hR.g0]
  refine ⟨fun c2 => ?_, fun c2 => ?_⟩
  · rw [if_neg (fun z => absurd ((nI_leI (by omega) (by omega)).mp c2) (by have := z.2.1; omega))] at hk
    exact ⟨trivial, hk M hR hF⟩
  have hfn : f < n := by
    rcases Nat.lt_or_ge f n with q | q
    · exact q
    · exact absurd (nI_le q (by omega)) c2
  refine ⟨rfl, c3_of f 4 ⟨xof_in (by omega) (by omega), ?_⟩⟩
  rw [hR.v hfn hn 4 (by omega)]
  refine ⟨fun c3 => ?_, fun c3 => ?_⟩
  · rw [if_neg (fun z => aFl_e0.mp c3 z.2.2.1)] at hk
    exact ⟨trivial, hk M hR hF⟩
  have hsp : xbt (g 5 9) f := by
    by_cases q : xbt (g 5 9) f
    · exact q
    · exact absurd (aFl_e0.mpr q) c3
  refine ⟨rfl, c3_of f 3 ⟨xof_in (by omega) (by omega), ?_⟩⟩
  rw [hR.v hfn hn 3 (by omega)]
  refine ⟨rfl, c3_of p 3 ⟨xof_in (by omega) (by omega), ?_⟩⟩
  rw [hR.v hp hn 3 (by omega)]
  refine ⟨fun c4 => ?_, fun c4 => ?_⟩
  · rw [if_pos ⟨fun e => c (by rw [e]), hfn, hsp, c4⟩] at hk
    refine xgo [115] 100 ⟨rfl, c3_of p 3 ⟨xof_in (by omega) (by omega), by decide, xof_in (by omega) (by omega), ?_⟩⟩
    rw [hR.v hp hn 3 (by omega), xof_cl (by omega) (by omega)]
    have hR1 := hR.uHas hn hp (g 3 p - d / 2)
    have hF1 := hF.u (5 + 7 * p + 3) (g 3 p - d / 2)
    show xWP pg_X3_draws 115 ([some (xo (xW r)), some (xi (nI p)), some (xi d), some (xi (nI f))], [], xup M (xW r) (5 + 7 * p + 3) (g 3 p - d / 2)) R
    generalize xup M (xW r) (5 + 7 * p + 3) (g 3 p - d / 2) = M1 at hR1 hF1 ⊢
    refine xgo [] 100 ⟨rfl, c3_of f 3 ⟨rfl, c3_of f 3 ⟨xof_in (by omega) (by omega), by decide, rfl, ?_⟩⟩⟩
    rw [hR1.v hfn hn 3 (by omega)]
    refine c3_least _ _ ⟨xof_in (by omega) (by omega), trivial, ?_⟩
    rw [xof_cl (by omega) (by omega)]
    exact hk _ (hR1.uHas hn hfn _) (hF1.u _ _)
  · rw [if_neg (fun z => c4 z.2.2.2)] at hk
    exact ⟨trivial, hk M hR hF⟩
theorem c3_draws {M : xM} {h : xh} (p : Nat) (hB : aBd n h) (hR : xRm M r n h) (hp : p < n) (hk : ∀ M', xRm M' r n (if aMay h p then aDraw n h p else h) → xfw r M M' → R none M') : xWP pg_X3_draws 0 ([some (xo (xW r)), some (xi (nI p)), none, none], [], M) R := by
  have hn := hB.1
  refine xgo [23] 100 ⟨rfl, c3_mayDraw p hR hp hn (fun q => ?_) (fun q => ?_)⟩
  · rw [if_pos q] at hk
    refine ⟨fun z => absurd z (by decide), fun _ => ⟨rfl, c3_of p 2 ⟨xof_in (by omega) (by omega), xin47 (k := 2) (by omega), rfl, ?_⟩⟩⟩
    rw [hR.v hp hn 2 (by omega), hR.g2]
    refine c3_least _ _ ?_
    show xWP pg_X3_draws 23 ([some (xo (xW r)), some (xi (nI p)), some (xi (xmn (h 2 p) (h 5 6))), none], [], M) R
    have hf := (hB.2.2.2 p hp).2.2
    obtain ⟨w, hw, ew⟩ := hB.2.1
    obtain ⟨⟨c, hc, ec⟩, ⟨a, ha, ea⟩, -, -⟩ := hB.2.2.2 p hp
    have ed : xmn (h 2 p) (h 5 6) = nI (min c w) := by rw [ec, ew]; exact xmn_nI (by omega) (by omega)
    unfold aDraw at hk
    generalize xmn (h 2 p) (h 5 6) = d at ed hk ⊢
    refine xgo [30] 100 ⟨xin47 (k := 2) (by omega), xin47 (k := 2) (by omega), ?_⟩
    rw [hR.g2]
    have hR1 : xRm (xup M (xW r) (Int32.toNatClampNeg 2) (h 5 6 - d)) r n (hu h 5 6 (h 5 6 - d)) := hR.uWater _
    have hF1 : xfw r M (xup M (xW r) (Int32.toNatClampNeg 2) (h 5 6 - d)) := xfw.rf.u _ _
    show xWP pg_X3_draws 30 ([some (xo (xW r)), some (xi (nI p)), some (xi d), none], [], xup M (xW r) (Int32.toNatClampNeg 2) (h 5 6 - d)) R
    generalize xup M (xW r) (Int32.toNatClampNeg 2) (h 5 6 - d) = M1 at hR1 hF1 ⊢
    refine xgo [41] 100 ⟨rfl, c3_of p 3 ⟨xof_in (by omega) (by omega), xof_in (by omega) (by omega), ?_⟩⟩
    rw [hR1.v hp hn 3 (by omega), xof_cl (by omega) (by omega), show aV (hu h 5 6 (h 5 6 - d)) p 3 = h 3 p from rfl]
    have hR2 := hR1.uHas hn hp (h 3 p + d)
    have hF2 := hF1.u (5 + 7 * p + 3) (h 3 p + d)
    show xWP pg_X3_draws 41 ([some (xo (xW r)), some (xi (nI p)), some (xi d), none], [], xup M1 (xW r) (5 + 7 * p + 3) (h 3 p + d)) R
    generalize xup M1 (xW r) (5 + 7 * p + 3) (h 3 p + d) = M2 at hR2 hF2 ⊢
    refine xgo [53] 100 ⟨fun c0 => ?_, fun c0 => ⟨rfl, c3_of p 5 ⟨xof_in (by omega) (by omega), ?_⟩⟩⟩
    · have hd0 : d = 0 := by
        rw [ed] at c0 ⊢
        have h1 : min c w = 0 := by
          have := (nI_leI (a := min c w) (b := 0) (by omega) (by omega)).mp c0
          omega
        rw [h1]
        exact nI_0
      subst hd0
      rw [if_neg (by decide)] at hk
      have e1 : hu (hu h 5 6 (h 5 6 - 0)) 3 p (h 3 p + 0) = h := by
        rw [show h 5 6 - 0 = h 5 6 by simp, show h 3 p + 0 = h 3 p by simp, hu_id, hu_id]
      rw [e1] at hR2
      refine l3_draws p (aFr h p) 0 hR2 hF2 hp hn hf.1 hf.2 none (fun M' hR' hF' => hk M' ?_ hF')
      by_cases g : aGv n h p (aFr h p)
      · rw [if_pos g] at hR'
        have e2 : aD2 h p (aFr h p) 0 = h := by
          unfold aD2
          rw [show (0 : Int32) / 2 = 0 by decide, show h 3 p - 0 = h 3 p by simp, hu_id, show h 3 (aFr h p) + 0 = h 3 (aFr h p) by simp]
          obtain ⟨-, ⟨b, hb, eb⟩, -⟩ := hB.2.2.2 (aFr h p) g.2.1
          have e3 : xmn 99 (h 3 (aFr h p)) = h 3 (aFr h p) := by
            rw [eb]
            show xmn (nI 99) (nI b) = nI b
            rw [xmn_nI (by omega) (by omega), Nat.min_eq_right hb]
          rw [e3, hu_id]
        rw [e2] at hR'
        exact hR'
      · rw [if_neg g] at hR'
        exact hR'
    · rw [xof_cl (by omega) (by omega)]
      rw [if_pos (Int32.not_le.mp c0)] at hk
      have hR3 : xRm (xup M2 (xW r) (5 + 7 * p + 5) 1) r n (aD1 h p d) := hR2.uDrew hn hp
      exact l3_draws p (aFr h p) d hR3 (hF2.u _ _) hp hn hf.1 hf.2 none hk
  · rw [if_neg q] at hk
    exact ⟨fun _ => ⟨trivial, hk M hR xfw.rf⟩, fun z => absurd rfl z⟩
end X3C
