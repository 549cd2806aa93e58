/-! ===== the calls that set one thing ===== -/
section ANOW
variable {n : Nat} {h : xh}
theorem aNow_water (H : aNow n h) {q : Nat} (hq : q ≤ 99) : aNow n (hu h 5 6 (nI q)) := by
  obtain ⟨h1, h2, h3, h4⟩ := H
  have e : ∀ k, k ≠ 6 → hu h 5 6 (nI q) 5 k = h 5 k := fun k hk => by rw [hu_s, upd_n _ hk]
  exact ⟨aBd_water h1 q hq, by rw [e 8 (by omega)]; exact h2, ⟨by rw [e 9 (by omega)]; exact h3.1, by rw [e 10 (by omega)]; exact h3.2⟩, by rw [e 11 (by omega)]; exact h4⟩
theorem aBd_flow (H : aBd n h) {q : Nat} (hq : q ≤ 30) : aBd n (hu h 5 7 (nI q)) := by
  obtain ⟨h1, ⟨w, hw, ew⟩, -, h4⟩ := H
  exact ⟨h1, ⟨w, hw, by rw [hu_s, upd_n _ (by omega)]; exact ew⟩, ⟨q, hq, by rw [hu_s, upd_s]⟩, h4⟩
theorem aNow_flow (H : aNow n h) {q : Nat} (hq : q ≤ 30) : aNow n (hu h 5 7 (nI q)) := by
  obtain ⟨h1, h2, h3, h4⟩ := H
  have e : ∀ k, k ≠ 7 → hu h 5 7 (nI q) 5 k = h 5 k := fun k hk => by rw [hu_s, upd_n _ hk]
  exact ⟨aBd_flow h1 hq, by rw [e 8 (by omega)]; exact h2, ⟨by rw [e 9 (by omega)]; exact h3.1, by rw [e 10 (by omega)]; exact h3.2⟩, by rw [e 11 (by omega)]; exact h4⟩
theorem aNow_ar (H : aNow n h) {j p : Nat} {v : Int32} (hj : j < 5) (hB : aBd n (hu h j p v)) : aNow n (hu h j p v) := by
  obtain ⟨h1, h2, h3, h4⟩ := H
  have e : hu h j p v 5 = h 5 := hu_n (by omega) _ _
  unfold aNow aBs
  rw [e]
  exact ⟨hB, h2, h3, h4⟩
theorem aNow_has (H : aNow n h) {p q : Nat} (hq : q ≤ 99) : aNow n (hu h 3 p (nI q)) := aNow_ar H (by omega) (aBd_has H.1 p q hq)
theorem aBd_can (H : aBd n h) {p q : Nat} (hq : q ≤ 9) : aBd n (hu h 2 p (nI q)) := by
  refine ⟨H.1, H.2.1, H.2.2.1, fun k hk => ?_⟩
  obtain ⟨h1, h2, h3⟩ := H.2.2.2 k hk
  refine ⟨?_, h2, h3⟩
  by_cases e : k = p
  · subst e
    exact ⟨q, hq, by rw [hu_s, upd_s]⟩
  · rw [hu_s, upd_n _ e]
    exact h1
theorem aBd_friend (H : aBd n h) {p q : Nat} (hq : q ≤ 5) : aBd n (hu h 4 p (nI q)) := by
  refine ⟨H.1, H.2.1, H.2.2.1, fun k hk => ?_⟩
  obtain ⟨h1, h2, h3⟩ := H.2.2.2 k hk
  refine ⟨h1, h2, ?_⟩
  unfold aFr at h3 ⊢
  by_cases e : k = p
  · subst e
    rw [hu_s, upd_s, nI_clamp (by omega)]
    exact ⟨rfl, hq⟩
  · rw [hu_s, upd_n _ e]
    exact h3
theorem aBd_kf (H : aBd n h) {j p : Nat} (hj : j < 2) (v : Int32) : aBd n (hu h j p v) := by
  have e : ∀ k, k ≠ j → hu h j p v k = h k := fun k hk => hu_n hk _ _
  obtain ⟨h1, h2, h3, h4⟩ := H
  refine ⟨h1, by rw [e 5 (by omega)]; exact h2, by rw [e 5 (by omega)]; exact h3, fun k hk => ?_⟩
  unfold aFr
  rw [e 2 (by omega), e 3 (by omega), e 4 (by omega)]
  exact h4 k hk
theorem aNow_spo (H : aNow n h) {p : Nat} (hp : p < n) : aNow n (aSpo h p) := by
  obtain ⟨h1, h2, h3, h4⟩ := H
  have e : ∀ k, k ≠ 9 → aSpo h p 5 k = h 5 k := fun k hk => by unfold aSpo; rw [hu_s, upd_n _ hk]
  have e9 : aSpo h p 5 9 = h 5 9 ||| 1 <<< (nI p &&& 31) := by unfold aSpo; rw [hu_s, upd_s]
  exact ⟨aBd_sc h1 9 (by omega) _, by rw [e 8 (by omega)]; exact h2, ⟨by rw [e9]; exact aBk_or h1.1 hp h3.1, by rw [e 10 (by omega)]; exact h3.2⟩, by rw [e 11 (by omega)]; exact h4⟩
theorem aNow_hrs (H : aNow n h) {k : Nat} (hk : ∃ t, t + k ≤ 999 ∧ h 5 8 = nI t) : aNow n (aHrs n h k) := by
  obtain ⟨h1, h2, h3, h4⟩ := H
  obtain ⟨t, ht, e⟩ := hk
  exact ⟨aBd_hrs h1 k, ⟨t + k, ht, by rw [aHrs_8, e, nI_add]⟩, aBs_hrs h1.1 h3 k, by rw [aHrs_11]; exact h4⟩
end ANOW
theorem xRm.uAr {M : xM} {r : Fin 4} {n : Nat} {h : xh} {p : Nat} (hR : xRm M r n h) (hp : p < n) (v : Int32) (j w : Nat) (hw : (j = 0 ∧ w = 0) ∨ (j = 1 ∧ w = 1) ∨ (j = 2 ∧ w = 2) ∨ (j = 3 ∧ w = 3) ∨ (j = 4 ∧ w = 6)) : xRm (xup M (xW r) (5 + 7 * p + w) v) r n (hu h j p v) := by
  have hj5 : j ≠ 5 := by omega
  have e5 : hu h j p v 5 = h 5 := hu_n (Ne.symm hj5) _ _
  refine hR.up _ v (fun k hk => ?_) (fun q hq u hu' => ?_)
  · rw [if_neg (by omega)]
    rcases xw5 hk with rfl | rfl | rfl | rfl | rfl
    · rfl
    · show hu h j p v 5 8 = h 5 8
      rw [e5]
    · show hu h j p v 5 6 = h 5 6
      rw [e5]
    · show hu h j p v 5 7 = h 5 7
      rw [e5]
    · show hu h j p v 5 11 = h 5 11
      rw [e5]
  · by_cases hj : 5 + 7 * q + u = 5 + 7 * p + w
    · have h1 : q = p := by omega
      have h2 : u = w := by omega
      subst h1; subst h2
      rw [if_pos rfl]
      have hs : hu h j q v j q = v := by rw [hu_s, upd_s]
      rcases hw with ⟨rfl, rfl⟩ | ⟨rfl, rfl⟩ | ⟨rfl, rfl⟩ | ⟨rfl, rfl⟩ | ⟨rfl, rfl⟩ <;> exact hs
    · rw [if_neg hj]
      have hne : ∀ k, (k = j → q ≠ p) → hu h j p v k q = h k q := by
        intro k hk
        by_cases e : k = j
        · subst e
          rw [hu_s, upd_n _ (hk rfl)]
        · rw [hu_n e]
      have e9 : aFl (hu h j p v 5 9) q = aFl (h 5 9) q := by rw [e5]
      have e10 : aFl (hu h j p v 5 10) q = aFl (h 5 10) q := by rw [e5]
      rcases xw7 hu' with rfl | rfl | rfl | rfl | rfl | rfl | rfl
      · exact hne 0 (by omega)
      · exact hne 1 (by omega)
      · exact hne 2 (by omega)
      · exact hne 3 (by omega)
      · exact e9
      · exact e10
      · exact hne 4 (by omega)
section X3F
variable {M : xM} {s : xS} {R : xR}
theorem c3_sets (j : Nat) (hj : j < 47) (v : Int32) (h0 : R (some (xi (M (xW 0) j))) (xup M (xW 0) j v)) : xWP pg_X3_sets 0 ([some (xo (xN 2)), some (xi (nI j)), some (xi v), none], [], M) R := by
  have hc : (nI j).toNatClampNeg = j := nI_clamp (by omega)
  refine xgo [] 100 ⟨xin47 hj, xin47 hj, trivial, ?_⟩
  rw [hc]
  exact h0
theorem c3_setsIn (j : Nat) (hj : j < 47) (v b : Int32) (hI : xIm M s) (h0 : 0 ≤ v → v ≤ b → R (some (xi (M (xW 0) j))) (xup M (xW 0) j v)) (h6 : 0 ≤ v → ¬ v ≤ b → ∀ M', xIm M' (sRf s 6) → xFm M M' → R (some (xi (-(nI 6)))) M') (h4 : ¬ 0 ≤ v → ∀ M', xIm M' (sRf s 4) → xFm M M' → R (some (xi (-(nI 4)))) M') : xWP pg_X3_setsIn 0 ([some (xo (xN 2)), some (xi (nI j)), some (xi v), some (xi b), none], [], M) R := by
  refine xgo [] 100 ⟨rfl, c3_wrongBy v 0 b (fun a c => ?_) (fun a c => ?_) (fun a => ?_)⟩
  · exact ⟨fun _ => ⟨rfl, c3_sets j hj v ⟨trivial, h0 a c⟩⟩, fun z => absurd rfl z⟩
  · exact ⟨fun z => absurd z (by decide), fun _ => ⟨rfl, c3_no 6 (by omega) (by omega) hI (fun M' I F => ⟨trivial, h6 a c M' I F⟩)⟩⟩
  · exact ⟨fun z => absurd z (by decide), fun _ => ⟨rfl, c3_no 4 (by omega) (by omega) hI (fun M' I F => ⟨trivial, h4 a M' I F⟩)⟩⟩
theorem c3_setsOf (p : Int32) (w : Nat) (hw : w < 7) (v b : Int32) (hn : sn s ≤ 6) (hI : xIm M s) (h1 : ¬ (0 ≤ p ∧ p < nI (sn s)) → ∀ M', xIm M' (sRf s 1) → xFm M M' → R (some (xi (-(nI 1)))) M') (h0 : ∀ q, q < sn s → p = nI q → 0 ≤ v → v ≤ b → R (some (xi (M (xW 0) (5 + 7 * q + w)))) (xup M (xW 0) (5 + 7 * q + w) v)) (h6 : 0 ≤ p ∧ p < nI (sn s) → 0 ≤ v → ¬ v ≤ b → ∀ M', xIm M' (sRf s 6) → xFm M M' → R (some (xi (-(nI 6)))) M') (h4 : 0 ≤ p ∧ p < nI (sn s) → ¬ 0 ≤ v → ∀ M', xIm M' (sRf s 4) → xFm M M' → R (some (xi (-(nI 4)))) M') : xWP pg_X3_setsOf 0 ([some (xo (xN 2)), some (xi p), some (xi (nI w)), some (xi v), some (xi b), none], [], M) R := by
  refine xgo [] 100 ⟨rfl, c3_isPerson p hn hI.1 (fun q => ?_) (fun q => ?_)⟩
  · refine ⟨fun z => absurd z (by decide), fun _ => ⟨rfl, c3_wrongBy v 0 b (fun a c => ?_) (fun a c => ?_) (fun a => ?_)⟩⟩
    · obtain ⟨k, hk, rfl⟩ := xper hn q
      exact ⟨fun _ => ⟨rfl, c3_of k w ⟨rfl, c3_sets _ (by omega) v ⟨trivial, h0 k hk rfl a c⟩⟩⟩, fun z => absurd rfl z⟩
    · exact ⟨fun z => absurd z (by decide), fun _ => ⟨rfl, c3_no 6 (by omega) (by omega) hI (fun M' I F => ⟨trivial, h6 q a c M' I F⟩)⟩⟩
    · exact ⟨fun z => absurd z (by decide), fun _ => ⟨rfl, c3_no 4 (by omega) (by omega) hI (fun M' I F => ⟨trivial, h4 q a M' I F⟩)⟩⟩
  · exact ⟨fun _ => ⟨fun z => absurd z (by decide), fun _ => ⟨rfl, c3_no 1 (by omega) (by omega) hI (fun M' I F => ⟨trivial, h1 q M' I F⟩)⟩⟩, fun z => absurd rfl z⟩
end X3F
theorem j_water (v : Int32) : xJt pg_X2_water pg_X3_water [some (xo (xN 0)), some (xi v), none, none] [some (xo (xN 2)), some (xi v)] := by
  intro M s K hC hM hV hk
  refine xgo [] 100 ⟨rfl, c2_rangeRefusal v 0 99 (fun a b => ?_) (fun a b => ?_) (fun a => ?_)⟩
  · refine ⟨fun _ => ⟨trivial, ?_⟩, fun z => absurd rfl z⟩
    rw [hC.1.s6]
    have hF : xfr 0 M (xup M (xH 0) 6 v) := xfr.rf.us 6 v
    have hC1 := hC.nw hF (hC.1.us 6 (by omega) v)
    have hM1 := hM.fc hF.c
    refine xgo [] 100 ⟨rfl, c3_setsIn 2 (by omega) v 99 hM1 (fun _ _ => ⟨trivial, ?_⟩) (fun _ z => absurd b z) (fun z => absurd a z)⟩
    rw [hM1.1.1 2 (by omega)]
    obtain ⟨q, hq, rfl⟩ := xrng (b := 99) (by omega) a b
    have hF2 : xfw 0 (xup M (xH 0) 6 (nI q)) (xup (xup M (xH 0) 6 (nI q)) (xW 0) 2 (nI q)) := xfw.rf.u 2 _
    exact hk _ _ _ (hC1.fm hF2.m) (hM1.nw hF2 (hM1.1.uWater _)) ⟨aNow_water hV.1 hq, hV.2⟩
  · refine ⟨fun z => absurd z (by decide), fun _ => ⟨rfl, c2_refused 6 (by omega) (by omega) hC (fun M1 I1 F1 => ⟨trivial, ?_⟩)⟩⟩
    exact xgo [] 100 ⟨rfl, c3_setsIn 2 (by omega) v 99 (hM.fc F1) (fun _ z => absurd z b) (fun _ _ M2 I2 F2 => ⟨trivial, hk _ M2 _ (I1.fm F2) I2 hV⟩) (fun z => absurd a z)⟩
  · refine ⟨fun z => absurd z (by decide), fun _ => ⟨rfl, c2_refused 4 (by omega) (by omega) hC (fun M1 I1 F1 => ⟨trivial, ?_⟩)⟩⟩
    exact xgo [] 100 ⟨rfl, c3_setsIn 2 (by omega) v 99 (hM.fc F1) (fun z _ => absurd z a) (fun z _ => absurd z a) (fun _ M2 I2 F2 => ⟨trivial, hk _ M2 _ (I1.fm F2) I2 hV⟩)⟩
theorem j_flow (v : Int32) : xJt pg_X2_flow pg_X3_flow [some (xo (xN 0)), some (xi v), none, none] [some (xo (xN 2)), some (xi v)] := by
  intro M s K hC hM hV hk
  refine xgo [] 100 ⟨rfl, c2_rangeRefusal v 0 30 (fun a b => ?_) (fun a b => ?_) (fun a => ?_)⟩
  · refine ⟨fun _ => ⟨trivial, ?_⟩, fun z => absurd rfl z⟩
    rw [hC.1.s7]
    have hF : xfr 0 M (xup M (xH 0) 7 v) := xfr.rf.us 7 v
    have hC1 := hC.nw hF (hC.1.us 7 (by omega) v)
    have hM1 := hM.fc hF.c
    refine xgo [] 100 ⟨rfl, c3_setsIn 3 (by omega) v 30 hM1 (fun _ _ => ⟨trivial, ?_⟩) (fun _ z => absurd b z) (fun z => absurd a z)⟩
    rw [hM1.1.1 3 (by omega)]
    obtain ⟨q, hq, rfl⟩ := xrng (b := 30) (by omega) a b
    have hF2 : xfw 0 (xup M (xH 0) 7 (nI q)) (xup (xup M (xH 0) 7 (nI q)) (xW 0) 3 (nI q)) := xfw.rf.u 3 _
    exact hk _ _ _ (hC1.fm hF2.m) (hM1.nw hF2 (hM1.1.uFlow _)) ⟨aNow_flow hV.1 hq, hV.2⟩
  · refine ⟨fun z => absurd z (by decide), fun _ => ⟨rfl, c2_refused 6 (by omega) (by omega) hC (fun M1 I1 F1 => ⟨trivial, ?_⟩)⟩⟩
    exact xgo [] 100 ⟨rfl, c3_setsIn 3 (by omega) v 30 (hM.fc F1) (fun _ z => absurd z b) (fun _ _ M2 I2 F2 => ⟨trivial, hk _ M2 _ (I1.fm F2) I2 hV⟩) (fun z => absurd a z)⟩
  · refine ⟨fun z => absurd z (by decide), fun _ => ⟨rfl, c2_refused 4 (by omega) (by omega) hC (fun M1 I1 F1 => ⟨trivial, ?_⟩)⟩⟩
    exact xgo [] 100 ⟨rfl, c3_setsIn 3 (by omega) v 30 (hM.fc F1) (fun z _ => absurd z a) (fun z _ => absurd z a) (fun _ M2 I2 F2 => ⟨trivial, hk _ M2 _ (I1.fm F2) I2 hV⟩)⟩
theorem j_pours (p v : Int32) : xJt pg_X2_pours pg_X3_pours [some (xo (xN 0)), some (xi p), some (xi v), none, none] [some (xo (xN 2)), some (xi p), some (xi v)] := by
  intro M s K hC hM hV hk
  have hn := hV.1.1.1
  refine xgo [] 100 ⟨rfl, c2_oneRefusal p v 99 hC.1 (fun a => ?_) (fun a b c => ?_) (fun a b c => ?_) (fun a b => ?_)⟩
  · refine ⟨fun z => absurd z (by decide), fun _ => ⟨rfl, c2_refused 1 (by omega) (by omega) hC (fun M1 I1 F1 => ⟨trivial, ?_⟩)⟩⟩
    exact xgo [] 100 ⟨rfl, c3_setsOf p 3 (by omega) v 99 hn (hM.fc F1) (fun _ M2 I2 F2 => ⟨trivial, hk _ M2 _ (I1.fm F2) I2 hV⟩) (fun q hq e => absurd ⟨by rw [e]; exact nI_pos' (by omega), by rw [e]; exact nI_lt hq (by omega)⟩ a) (fun z => absurd z a) (fun z => absurd z a)⟩
  · obtain ⟨q, hq, rfl⟩ := xper hn a
    refine ⟨fun _ => ⟨xin6 hq hn, xin6 hq hn, trivial, ?_⟩, fun z => absurd rfl z⟩
    rw [xcl hq hn, hC.1.a3 hq]
    have hF : xfr 0 M (xup M (xA 3 0) q v) := xfr.rf.ua 3 q v
    have hC1 := hC.nw hF (hC.1.ua 3 q v)
    have hM1 := hM.fc hF.c
    refine xgo [] 100 ⟨rfl, c3_setsOf (nI q) 3 (by omega) v 99 hn hM1 (fun z => absurd a z) (fun q' hq' e _ _ => ⟨trivial, ?_⟩) (fun _ _ z => absurd c z) (fun _ z => absurd b z)⟩
    have e := (nI_eq (by omega) (by omega)).mp e
    subst e
    rw [hM1.1.2 q hq 3 (by omega)]
    obtain ⟨u, hu', rfl⟩ := xrng (b := 99) (by omega) b c
    have hF2 : xfw 0 (xup M (xA 3 0) q (nI u)) (xup (xup M (xA 3 0) q (nI u)) (xW 0) (5 + 7 * q + 3) (nI u)) := xfw.rf.u _ _
    exact hk _ _ _ (hC1.fm hF2.m) (hM1.nw hF2 (hM1.1.uAr hq _ 3 3 (by omega))) ⟨aNow_has hV.1 hu', hV.2⟩
  · refine ⟨fun z => absurd z (by decide), fun _ => ⟨rfl, c2_refused 6 (by omega) (by omega) hC (fun M1 I1 F1 => ⟨trivial, ?_⟩)⟩⟩
    exact xgo [] 100 ⟨rfl, c3_setsOf p 3 (by omega) v 99 hn (hM.fc F1) (fun z => absurd a z) (fun _ _ _ _ z => absurd z c) (fun _ _ _ M2 I2 F2 => ⟨trivial, hk _ M2 _ (I1.fm F2) I2 hV⟩) (fun _ z => absurd b z)⟩
  · refine ⟨fun z => absurd z (by decide), fun _ => ⟨rfl, c2_refused 4 (by omega) (by omega) hC (fun M1 I1 F1 => ⟨trivial, ?_⟩)⟩⟩
    exact xgo [] 100 ⟨rfl, c3_setsOf p 3 (by omega) v 99 hn (hM.fc F1) (fun z => absurd a z) (fun _ _ _ z _ => absurd z b) (fun _ z => absurd z b) (fun _ _ M2 I2 F2 => ⟨trivial, hk _ M2 _ (I1.fm F2) I2 hV⟩)⟩
theorem j_cans (p v : Int32) : xJt pg_X2_cans pg_X3_cans [some (xo (xN 0)), some (xi p), some (xi v), none, none] [some (xo (xN 2)), some (xi p), some (xi v)] := by
  intro M s K hC hM hV hk
  have hn := hV.1.1.1
  refine xgo [] 100 ⟨rfl, c2_oneRefusal p v 9 hC.1 (fun a => ?_) (fun a b c => ?_) (fun a b c => ?_) (fun a b => ?_)⟩
  · refine ⟨fun z => absurd z (by decide), fun _ => ⟨rfl, c2_refused 1 (by omega) (by omega) hC (fun M1 I1 F1 => ⟨trivial, ?_⟩)⟩⟩
    exact xgo [] 100 ⟨rfl, c3_setsOf p 2 (by omega) v 9 hn (hM.fc F1) (fun _ M2 I2 F2 => ⟨trivial, hk _ M2 _ (I1.fm F2) I2 hV⟩) (fun q hq e => absurd ⟨by rw [e]; exact nI_pos' (by omega), by rw [e]; exact nI_lt hq (by omega)⟩ a) (fun z => absurd z a) (fun z => absurd z a)⟩
  · obtain ⟨q, hq, rfl⟩ := xper hn a
    refine ⟨fun _ => ⟨xin6 hq hn, xin6 hq hn, trivial, ?_⟩, fun z => absurd rfl z⟩
    rw [xcl hq hn, hC.1.a2 hq]
    have hF : xfr 0 M (xup M (xA 2 0) q v) := xfr.rf.ua 2 q v
    have hC1 := hC.nw hF (hC.1.ua 2 q v)
    have hM1 := hM.fc hF.c
    refine xgo [] 100 ⟨rfl, c3_setsOf (nI q) 2 (by omega) v 9 hn hM1 (fun z => absurd a z) (fun q' hq' e _ _ => ⟨trivial, ?_⟩) (fun _ _ z => absurd c z) (fun _ z => absurd b z)⟩
    have e := (nI_eq (by omega) (by omega)).mp e
    subst e
    rw [hM1.1.2 q hq 2 (by omega)]
    obtain ⟨u, hu', rfl⟩ := xrng (b := 9) (by omega) b c
    have hF2 : xfw 0 (xup M (xA 2 0) q (nI u)) (xup (xup M (xA 2 0) q (nI u)) (xW 0) (5 + 7 * q + 2) (nI u)) := xfw.rf.u _ _
    exact hk _ _ _ (hC1.fm hF2.m) (hM1.nw hF2 (hM1.1.uAr hq _ 2 2 (by omega))) ⟨aNow_ar hV.1 (by omega) (aBd_can hV.1.1 hu'), hV.2⟩
  · refine ⟨fun z => absurd z (by decide), fun _ => ⟨rfl, c2_refused 6 (by omega) (by omega) hC (fun M1 I1 F1 => ⟨trivial, ?_⟩)⟩⟩
    exact xgo [] 100 ⟨rfl, c3_setsOf p 2 (by omega) v 9 hn (hM.fc F1) (fun z => absurd a z) (fun _ _ _ _ z => absurd z c) (fun _ _ _ M2 I2 F2 => ⟨trivial, hk _ M2 _ (I1.fm F2) I2 hV⟩) (fun _ z => absurd b z)⟩
  · refine ⟨fun z => absurd z (by decide), fun _ => ⟨rfl, c2_refused 4 (by omega) (by omega) hC (fun M1 I1 F1 => ⟨trivial, ?_⟩)⟩⟩
    exact xgo [] 100 ⟨rfl, c3_setsOf p 2 (by omega) v 9 hn (hM.fc F1) (fun z => absurd a z) (fun _ _ _ z _ => absurd z b) (fun _ z => absurd z b) (fun _ _ M2 I2 F2 => ⟨trivial, hk _ M2 _ (I1.fm F2) I2 hV⟩)⟩
