/-! ===== hours, rows, images, counts ===== -/
theorem xlim {t : Nat} (ht : t ≤ 999) {v : Nat} (hv : v ≤ 60) : nI t + nI v ≤ 999 ↔ t + v ≤ 999 := by
  rw [nI_add]
  exact nI_leI (b := 999) (by omega) (by omega)
theorem j_hours (v : Int32) : xJt pg_X2_hours pg_X3_hours [some (xo (xN 0)), some (xi v), none] [some (xo (xN 2)), some (xi v)] := by
  intro M s K hC hM hV hk
  have hn := hV.1.1.1
  have no6 : ∀ M1, 1 ≤ v → ¬ (v ≤ 60 ∧ sh s 5 8 + v ≤ 999) → xIc M1 (sRf s 6) → xFc M M1 → xWP pg_X3_hours 0 ([some (xo (xN 2)), some (xi v)], [], M1) (fun v2 M2 => K (some (xi (-(nI 6)))) v2 M2) := by
    intro M1 a b I1 F1
    have hM1 := hM.fc F1
    have fin : xWP pg_X3_hours 32 ([some (xo (xN 2)), some (xi v)], [], M1) (fun v2 M2 => K (some (xi (-(nI 6)))) v2 M2) :=
      xgo [] 100 ⟨rfl, c3_no 6 (by omega) (by omega) hM1 (fun M2 I2 F2 => ⟨trivial, hk _ M2 _ (I1.fm F2) I2 hV⟩)⟩
    refine xgo [32] 100 ⟨fun _ => ⟨fun _ => fin, fun c => ⟨xin47 (k := 1) (by omega), ?_⟩⟩, fun z => absurd a z⟩
    rw [hM1.1.g1]
    exact ⟨fun z => absurd ⟨Int32.not_lt.mp c, z⟩ b, fun _ => fin⟩
  refine xgo [] 100 ⟨rfl, c2_rangeRefusal v 1 60 (fun a b => ?_) (fun a b => ?_) (fun a => ?_)⟩
  · refine ⟨fun _ => ⟨rfl, c0_mayPass v hC.1 (fun _ _ c => ?_) (fun c => ?_)⟩, fun z => absurd rfl z⟩
    · refine ⟨fun z => absurd z (by decide), fun _ => ⟨fun _ => ⟨rfl, ?_⟩, fun z => absurd rfl z⟩⟩
      obtain ⟨q, hq, rfl⟩ := xrng (b := 60) (by omega) (Int32.le_trans (by decide) a) b
      refine c0_passHours q (by omega) hV.1.1.ok hC.1 (fun M1 hR1 hF1 => ⟨trivial, ?_⟩)
      rw [hR1.s6]
      have hC1 := hC.nw hF1 hR1
      have hM1 := hM.fc hF1.c
      refine xgo [] 100 ⟨fun _ => ⟨fun z => absurd z (Int32.not_lt.mpr b), fun _ => ⟨xin47 (k := 1) (by omega), ?_⟩⟩, fun z => absurd a z⟩
      rw [hM1.1.g1]
      refine ⟨fun _ => ⟨rfl, c3_hoursOn q (by omega) hV.1.1 hV.1.2.1 hM1.1 (fun M2 hR2 hF2 => ⟨xin47 (k := 2) (by omega), trivial, ?_⟩)⟩, fun z => absurd c z⟩
      rw [hR2.g2]
      obtain ⟨t, ht, et⟩ := hV.1.2.1
      refine hk _ _ _ (hC1.fm hF2.m) (hM1.nw hF2 hR2) ⟨aNow_hrs hV.1 ⟨t, ?_, et⟩, hV.2⟩
      rw [et] at c
      exact (xlim ht hq).mp c
    · refine ⟨fun _ => ⟨fun z => absurd z (by decide), fun _ => ⟨rfl, c2_refused 6 (by omega) (by omega) hC (fun M1 I1 F1 => ⟨trivial, no6 M1 a (fun z => c ⟨a, z⟩) I1 F1⟩)⟩⟩, fun z => absurd rfl z⟩
  · refine ⟨fun z => absurd z (by decide), fun _ => ⟨fun z => absurd z (by decide), fun _ => ⟨rfl, c2_refused 6 (by omega) (by omega) hC (fun M1 I1 F1 => ⟨trivial, no6 M1 a (fun z => b z.1) I1 F1⟩)⟩⟩⟩
  · refine ⟨fun z => absurd z (by decide), fun _ => ⟨fun z => absurd z (by decide), fun _ => ⟨rfl, c2_refused 4 (by omega) (by omega) hC (fun M1 I1 F1 => ⟨trivial, ?_⟩)⟩⟩⟩
    exact xgo [] 100 ⟨fun z => absurd z a, fun _ => ⟨rfl, c3_no 4 (by omega) (by omega) (hM.fc F1) (fun M2 I2 F2 => ⟨trivial, hk _ M2 _ (I1.fm F2) I2 hV⟩)⟩⟩
theorem upd_ext {g f : Nat → Int32} {r : Nat} (H : ∀ j, j < r → g j = f j) (v : Int32) : ∀ j, j < r + 1 → upd g r v j = upd f r v j := fun j hj => by
  by_cases e : j = r
  · subst e; rw [upd_s, upd_s]
  · rw [upd_n _ e, upd_n _ e]; exact H j (by omega)
theorem j_row (v : Int32) : xJt pg_X2_row pg_X3_row [some (xo (xN 0)), some (xi v), none] [some (xo (xN 2)), some (xi v), none] := by
  intro M s K hC hM hV hk
  have hr16 := hV.2.2.2.2
  have hC0 := hC
  have hM0 := hM
  obtain ⟨a1, a2, a3, a4, a5, a6, a7, a8⟩ := hC
  have no6 : ∀ M1, 0 ≤ v → ¬ (v ≤ 99 ∧ sr s < 16) → xIc M1 (sRf s 6) → xFc M M1 → xWP pg_X3_row 0 ([some (xo (xN 2)), some (xi v), none], [], M1) (fun v2 M2 => K (some (xi (-(nI 6)))) v2 M2) := by
    intro M1 a b I1 F1
    have hM1 := hM0.fc F1
    refine xgo [] 100 ⟨rfl, c3_wrongBy v 0 99 (fun _ c => ?_) (fun _ c => ?_) (fun z => absurd a z)⟩
    · refine ⟨fun _ => ?_, fun z => absurd rfl z⟩
      refine ⟨fun _ => ⟨fun z => absurd z (by decide), fun _ => ⟨rfl, c3_no 6 (by omega) (by omega) hM1 (fun M2 I2 F2 => ⟨trivial, hk _ M2 _ (I1.fm F2) I2 hV⟩)⟩⟩, fun z => absurd ?_ z⟩
      rw [hM1.2.2.2.2.2.1]
      have h16 : sr s = 16 := by
        have : ¬ sr s < 16 := fun q => b ⟨c, q⟩
        omega
      rw [h16]
      rfl
    · exact ⟨fun z => absurd z (by decide), fun _ => ⟨fun z => absurd z (by decide), fun _ => ⟨rfl, c3_no 6 (by omega) (by omega) hM1 (fun M2 I2 F2 => ⟨trivial, hk _ M2 _ (I1.fm F2) I2 hV⟩)⟩⟩⟩
  refine xgo [34] 100 ⟨rfl, c2_rangeRefusal v 0 99 (fun a b => ?_) (fun a b => ?_) (fun a => ?_)⟩
  · refine ⟨fun _ => ⟨fun c => ⟨fun _ => ?_, fun z => absurd rfl z⟩, fun c => ⟨fun z => absurd z (by decide), fun _ => ⟨rfl, c2_refused 6 (by omega) (by omega) hC0 (fun M1 I1 F1 => ⟨trivial, no6 M1 a (fun z => c ?_) I1 F1⟩)⟩⟩⟩, fun z => absurd rfl z⟩
    · rw [a6] at c
      have c : sr s < 16 := (nI_ltI (b := 16) (by omega) (by omega)).mp c
      have hin : vp_in (nI (sr s)) 16 := vp_in_nI c (by omega)
      have hcl : (nI (sr s)).toNatClampNeg = sr s := nI_clamp (by omega)
      show xWP pg_X2_row 34 ([some (xo (xN 0)), some (xi v), some (xi 0)], [], M) _
      refine xgo [] 100 ⟨by rw [a6]; exact hin, trivial, ?_⟩
      rw [a6, hcl]
      have e6 : xup M (xN 4) (sr s) v (xN 0) 6 = nI (sr s) := by rw [xup_N (by omega)]; exact a6
      rw [e6, nI_1]
      rw [show (xup (xup M (xN 4) (sr s) v) (xN 0) 6 (nI (sr s + 1))) (xN 0) 6 = nI (sr s + 1) by rw [xup_s, upd_s]]
      have hF : xFc M (xup (xup M (xN 4) (sr s) v) (xN 0) 6 (nI (sr s + 1))) := (xFc.rf.u _ rfl _ _).u _ rfl _ _
      have hC1 : xIc (xup (xup M (xN 4) (sr s) v) (xN 0) 6 (nI (sr s + 1))) (sRo s (sr s + 1) (upd (sro s) (sr s) v)) := by
        refine ⟨(a1.uN _ _ _).uN _ _ _, by rw [xup_s, upd_n _ (by omega), xup_N (by omega)]; exact a2, fun e => ((a3 e).uN _ _ _).uN _ _ _, by rw [xup_N (by omega), xup_N (by omega)]; exact a4, fun j hj => by rw [xup_N (by omega), xup_N (by omega)]; exact a5 j hj, by rw [xup_s, upd_s], ?_, fun j hj => by rw [xup_N (by omega), xup_N (by omega)]; exact a8 j hj⟩
        rw [xup_N (by omega), xup_s]
        exact upd_ext a7 v
      have hM1 := hM0.fc hF
      generalize xup (xup M (xN 4) (sr s) v) (xN 0) 6 (nI (sr s + 1)) = M1 at hC1 hM1
      obtain ⟨b1, b2, b3, b4, b5, b6, b7, b8⟩ := hM1
      refine xgo [34] 100 ⟨rfl, c3_wrongBy v 0 99 (fun _ _ => ?_) (fun _ z => absurd b z) (fun z => absurd a z)⟩
      refine ⟨fun _ => ⟨fun z => ?_, fun _ => ⟨fun _ => ?_, fun z => absurd rfl z⟩⟩, fun z => absurd rfl z⟩
      · rw [b6] at z
        have := (nI_eq (b := 16) (by omega) (by omega)).mp z
        omega
      show xWP pg_X3_row 34 ([some (xo (xN 2)), some (xi v), some (xi 0)], [], M1) _
      refine xgo [] 100 ⟨by rw [b6]; exact hin, trivial, ?_⟩
      rw [b6, hcl]
      have e6 : xup M1 (xN 7) (sr s) v (xN 2) 9 = nI (sr s) := by rw [xup_N (by omega)]; exact b6
      rw [e6, nI_1]
      rw [show (xup (xup M1 (xN 7) (sr s) v) (xN 2) 9 (nI (sr s + 1))) (xN 2) 9 = nI (sr s + 1) by rw [xup_s, upd_s]]
      have hF2 : xFm M1 (xup (xup M1 (xN 7) (sr s) v) (xN 2) 9 (nI (sr s + 1))) := (xFm.rf.u _ rfl _ _).u _ rfl _ _
      refine hk _ _ (sRo s (sr s + 1) (upd (sro s) (sr s) v)) (hC1.fm hF2) ?_ ⟨hV.1, hV.2.1, hV.2.2.1, hV.2.2.2.1, by show sr s + 1 ≤ 16; omega⟩
      refine ⟨(b1.uN _ _ _).uN _ _ _, by rw [xup_s, upd_n _ (by omega), xup_N (by omega)]; exact b2, fun e => ((b3 e).uN _ _ _).uN _ _ _, by rw [xup_s, upd_n _ (by omega), xup_N (by omega)]; exact b4, fun j hj => by rw [xup_N (by omega), xup_N (by omega)]; exact b5 j hj, by rw [xup_s, upd_s], ?_, fun j hj => by rw [xup_N (by omega), xup_N (by omega)]; exact b8 j hj⟩
      rw [xup_N (by omega), xup_s]
      exact upd_ext b7 v
    · rw [a6]
      exact nI_lt (b := 16) z.2 (by omega)
  · exact ⟨fun z => absurd z (by decide), fun _ => ⟨fun z => absurd z (by decide), fun _ => ⟨rfl, c2_refused 6 (by omega) (by omega) hC0 (fun M1 I1 F1 => ⟨trivial, no6 M1 a (fun z => b z.1) I1 F1⟩)⟩⟩⟩
  · refine ⟨fun z => absurd z (by decide), fun _ => ⟨fun z => absurd z (by decide), fun _ => ⟨rfl, c2_refused 4 (by omega) (by omega) hC0 (fun M1 I1 F1 => ⟨trivial, ?_⟩)⟩⟩⟩
    refine xgo [] 100 ⟨rfl, c3_wrongBy v 0 99 (fun z => absurd z a) (fun z => absurd z a) (fun _ => ?_)⟩
    exact ⟨fun z => absurd z (by decide), fun _ => ⟨fun z => absurd z (by decide), fun _ => ⟨rfl, c3_no 4 (by omega) (by omega) (hM0.fc F1) (fun M2 I2 F2 => ⟨trivial, hk _ M2 _ (I1.fm F2) I2 hV⟩)⟩⟩⟩
theorem xIc.cl {M : xM} {s : xS} (hI : xIc M s) : xIc (xup M (xN 0) 6 0) (sRo s 0 (sro s)) := by
  obtain ⟨a1, a2, a3, a4, a5, a6, a7, a8⟩ := hI
  exact ⟨a1.uN _ _ _, by rw [xup_s, upd_n _ (by omega)]; exact a2, fun e => (a3 e).uN _ _ _, by rw [xup_N (by omega)]; exact a4, fun j hj => by rw [xup_N (by omega)]; exact a5 j hj, by rw [xup_s, upd_s]; rfl, fun j hj => absurd hj (Nat.not_lt_zero j), fun j hj => by rw [xup_N (by omega)]; exact a8 j hj⟩
theorem xIm.cl {M : xM} {s : xS} (hI : xIm M s) : xIm (xup M (xN 2) 9 0) (sRo s 0 (sro s)) := by
  obtain ⟨a1, a2, a3, a4, a5, a6, a7, a8⟩ := hI
  exact ⟨a1.uN _ _ _, by rw [xup_s, upd_n _ (by omega)]; exact a2, fun e => (a3 e).uN _ _ _, by rw [xup_s, upd_n _ (by omega)]; exact a4, fun j hj => by rw [xup_N (by omega)]; exact a5 j hj, by rw [xup_s, upd_s]; rfl, fun j hj => absurd hj (Nat.not_lt_zero j), fun j hj => by rw [xup_N (by omega)]; exact a8 j hj⟩
theorem xIv.cl {s : xS} (hV : xIv s) : xIv (sRo s 0 (sro s)) := ⟨hV.1, hV.2.1, hV.2.2.1, hV.2.2.2.1, Nat.zero_le _⟩
theorem j_clear : xJt pg_X2_clear pg_X3_clear [some (xo (xN 0)), none] [some (xo (xN 2)), none] := by
  intro M s K hC hM hV hk
  refine xgo [] 100 ⟨trivial, ?_⟩
  rw [hC.2.2.2.2.2.1]
  have hF : xFc M (xup M (xN 0) 6 0) := xFc.rf.u _ rfl _ _
  have hM1 := hM.fc hF
  refine xgo [] 100 ⟨trivial, ?_⟩
  rw [hM1.2.2.2.2.2.1]
  exact hk _ _ _ (hC.cl.fm (xFm.rf.u _ rfl _ _)) hM1.cl hV.cl
/-- the first of the row that is not so -/
def aJg (n : Nat) (h : xh) (ro : Nat → Int32) (r : Nat) : Nat → Int32
  | 0 => -9
  | d + 1 => if (r - (d + 1) < n ∧ h 2 (r - (d + 1)) = ro (r - (d + 1))) then aJg n h ro r d else nI (r - (d + 1))
theorem l2_judge {M : xM} {n : Nat} {h : xh} {R : xR} (r : Nat) (hr : r ≤ 16) (ro : Nat → Int32) (hn : n ≤ 6) (hR : xRc M 0 n h) (hro : ∀ j, j < r → M (xN 4) j = ro j) : ∀ d k, k + d = r → R (some (xi (aJg n h ro r d))) M → xWP pg_X2_judge 12 ([some (xo (xN 0)), some (xi (nI r)), some (xi (nI k))], [], M) R := by
  intro d
  induction d with
  | zero =>
    intro k hkd hk
    have : k = r := by omega
    subst this
    exact xgo [] 100 ⟨fun _ => ⟨trivial, hk⟩, fun c => absurd (nI_le (Nat.le_refl _) (by omega)) c⟩
  | succ d ih =>
    intro k hkd hk
    have ek : r - (d + 1) = k := by omega
    unfold aJg at hk
    rw [ek] at hk
    refine xgo [12] 100 ⟨fun c => absurd c (nI_ge (by omega) (by omega)), fun _ => ⟨rfl, c0_isThere (nI k) hR (fun a => ?_) (fun a => ?_)⟩⟩
    · have hkn : k < n := (nI_ltI (by omega) (by omega)).mp a.2
      refine ⟨fun z => absurd z (by decide), fun _ => ⟨xin6 hkn hn, vp_in_nI (by omega) (by omega), ?_⟩⟩
      rw [xcl hkn hn, hR.a2 hkn, hro k (by omega)]
      refine ⟨fun c => ?_, fun c => ⟨trivial, ?_⟩⟩
      · rw [if_pos ⟨hkn, c⟩] at hk
        show xWP pg_X2_judge 12 ([some (xo (xN 0)), some (xi (nI r)), some (xi (nI k + 1))], [], M) R
        rw [nI_1]
        exact ih (k + 1) (by omega) hk
      · rw [if_neg (fun z => c z.2)] at hk
        exact hk
    · rw [if_neg (fun z => a ⟨nI_pos' (by omega), nI_lt z.1 (by omega)⟩)] at hk
      exact ⟨fun _ => ⟨trivial, hk⟩, fun z => absurd rfl z⟩
theorem l3_judge {M : xM} {n : Nat} {h : xh} {R : xR} (r : Nat) (hr : r ≤ 16) (ro : Nat → Int32) (hn : n ≤ 6) (hR : xRm M 0 n h) (hro : ∀ j, j < r → M (xN 7) j = ro j) : ∀ d k, k + d = r → R (some (xi (aJg n h ro r d))) M → xWP pg_X3_judge 12 ([some (xo (xN 2)), some (xi (nI r)), some (xi (nI k))], [], M) R := by
  intro d
  induction d with
  | zero =>
    intro k hkd hk
    have : k = r := by omega
    subst this
    exact xgo [] 100 ⟨fun _ => ⟨trivial, hk⟩, fun c => absurd (nI_le (Nat.le_refl _) (by omega)) c⟩
  | succ d ih =>
    intro k hkd hk
    have ek : r - (d + 1) = k := by omega
    unfold aJg at hk
    rw [ek] at hk
    refine xgo [12] 100 ⟨fun c => absurd c (nI_ge (by omega) (by omega)), fun _ => ⟨rfl, c3_isPerson (nI k) hn hR (fun a => ?_) (fun a => ?_)⟩⟩
    · have hkn : k < n := (nI_ltI (by omega) (by omega)).mp a.2
      have hcl : (nI k).toNatClampNeg = k := nI_clamp (by omega)
      refine ⟨fun z => absurd z (by decide), fun _ => ⟨rfl, c3_of k 2 ⟨xof_in (by omega) (by omega), vp_in_nI (by omega) (by omega), ?_⟩⟩⟩
      rw [hR.v hkn hn 2 (by omega), hcl, hro k (by omega), show aV h k 2 = h 2 k from rfl]
      refine ⟨fun c => ?_, fun c => ⟨trivial, ?_⟩⟩
      · rw [if_pos ⟨hkn, c⟩] at hk
        show xWP pg_X3_judge 12 ([some (xo (xN 2)), some (xi (nI r)), some (xi (nI k + 1))], [], M) R
        rw [nI_1]
        exact ih (k + 1) (by omega) hk
      · rw [if_neg (fun z => c z.2)] at hk
        exact hk
    · rw [if_neg (fun z => a ⟨nI_pos' (by omega), nI_lt z.1 (by omega)⟩)] at hk
      exact ⟨fun _ => ⟨trivial, hk⟩, fun z => absurd rfl z⟩
theorem j_judge : xJt pg_X2_judge pg_X3_judge [some (xo (xN 0)), none, none] [some (xo (xN 2)), none, none] := by
  intro M s K hC hM hV hk
  have hn := hV.1.1.1
  have hr := hV.2.2.2.2
  refine xgo [12] 100 ?_
  show xWP pg_X2_judge 12 ([some (xo (xN 0)), some (xi (M (xN 0) 6)), some (xi (nI 0))], [], xup M (xN 0) 6 0) _
  rw [hC.2.2.2.2.2.1]
  have hF : xFc M (xup M (xN 0) 6 0) := xFc.rf.u _ rfl _ _
  have hM1 := hM.fc hF
  have hC1 := hC.cl
  refine l2_judge (sr s) hr (sro s) hn hC1.1 (fun j hj => by rw [xup_N (by omega)]; exact hC.2.2.2.2.2.2.1 j hj) (sr s) 0 (by omega) ?_
  generalize xup M (xN 0) 6 0 = M1 at hM1 hC1
  refine xgo [12] 100 ?_
  show xWP pg_X3_judge 12 ([some (xo (xN 2)), some (xi (M1 (xN 2) 9)), some (xi (nI 0))], [], xup M1 (xN 2) 9 0) _
  rw [hM1.2.2.2.2.2.1]
  refine l3_judge (sr s) hr (sro s) hn hM1.cl.1 (fun j hj => by rw [xup_N (by omega)]; exact hM1.2.2.2.2.2.2.1 j hj) (sr s) 0 (by omega) ?_
  exact hk _ _ _ (hC1.fm (xFm.rf.u _ rfl _ _)) hM1.cl hV.cl
theorem j_image : xJt pg_X2_image pg_X3_image [some (xo (xN 0))] [some (xo (xN 2))] := by
  intro M s K hC hM hV hk
  have hn := hV.1.1.1
  refine xgo [] 100 ⟨rfl, c0_copyFrom (i := 2) (j := 0) (by decide) hn hC.1 (fun M1 hR1 hF1 => ⟨Or.inr rfl, trivial, ?_⟩)⟩
  obtain ⟨a1, a2, a3, a4, a5, a6, a7, a8⟩ := hC
  have b1 := a1.fr hF1 (by decide)
  rw [(b1.uN 0 7 1).s8]
  have fN : ∀ k, M1 (xN k) = M (xN k) := fun k => hF1 _ (xNh_N k)
  have hC1 : xIc (xup M1 (xN 0) 7 1) (sKp s) := ⟨b1.uN _ _ _, by rw [xup_s, upd_s]; rfl, fun _ => hR1.uN _ _ _, by rw [xup_N (by omega), fN]; exact a4, fun j hj => by rw [xup_N (by omega), fN]; exact a5 j hj, by rw [xup_s, upd_n _ (by omega), fN]; exact a6, fun j hj => by rw [xup_N (by omega), fN]; exact a7 j hj, fun j hj => by rw [xup_N (by omega), fN]; exact a8 j hj⟩
  have hM1 := hM.fc (hF1.c.u (xN 0) rfl 7 1)
  generalize xup M1 (xN 0) 7 1 = M2 at hC1 hM1
  refine xgo [] 100 ⟨rfl, c3_copies (r := 0) (r' := 2) (by decide) hn hM1.1 (fun M3 hR3 hF3 => ⟨Or.inr rfl, xin47 (k := 1) (by omega), trivial, ?_⟩)⟩
  obtain ⟨d1, d2, d3, d4, d5, d6, d7, d8⟩ := hM1
  have e1 := d1.fr hF3 (by decide)
  rw [(e1.uN 2 4 1).g1]
  have gN : ∀ k, M3 (xN k) = M2 (xN k) := fun k => hF3 _ (xWN k)
  refine hk _ _ (sKp s) (hC1.fm (hF3.m.u (xN 2) rfl 4 1)) ?_ ⟨hV.1, fun _ => hV.1, hV.2.2⟩
  exact ⟨e1.uN _ _ _, by rw [xup_s, upd_s]; rfl, fun _ => hR3.uN _ _ _, by rw [xup_s, upd_n _ (by omega), gN]; exact d4, fun j hj => by rw [xup_N (by omega), gN]; exact d5 j hj, by rw [xup_s, upd_n _ (by omega), gN]; exact d6, fun j hj => by rw [xup_N (by omega), gN]; exact d7 j hj, fun j hj => by rw [xup_N (by omega), gN]; exact d8 j hj⟩
theorem j_on : xJt pg_X2_on pg_X3_on [some (xo (xN 0))] [some (xo (xN 2))] := by
  intro M s K hC hM hV hk
  have hC0 := hC
  have hM0 := hM
  obtain ⟨a1, a2, a3, a4, a5, a6, a7, a8⟩ := hC
  by_cases hs : sk s = true
  · have hV2 := hV.2.1 hs
    have hn := hV2.1.1
    rw [hs] at a2
    refine xgo [] 100 ⟨fun z => ?_, fun _ => ⟨rfl, c0_copyFrom (i := 0) (j := 2) (by decide) hn (a3 hs) (fun M1 hR1 hF1 => ⟨trivial, ?_⟩)⟩⟩
    · rw [a2] at z
      exact absurd z (by decide)
    rw [hR1.s8]
    have hC1 := hC0.nw hF1 hR1
    have hM1 := hM0.fc hF1.c
    have hM1' := hM1
    obtain ⟨d1, d2, d3, d4, d5, d6, d7, d8⟩ := hM1
    rw [hs] at d2
    refine xgo [] 100 ⟨fun z => ?_, fun _ => ⟨rfl, c3_copies (r := 2) (r' := 0) (by decide) hn (d3 hs) (fun M3 hR3 hF3 => ⟨xin47 (k := 1) (by omega), trivial, ?_⟩)⟩⟩
    · rw [d2] at z
      exact absurd z (by decide)
    rw [hR3.g1]
    exact hk _ _ _ (hC1.fm hF3.m) (hM1'.nw hF3 hR3) ⟨hV2, hV.2⟩
  · have hs : sk s = false := by simpa using hs
    rw [hs] at a2
    refine xgo [] 100 ⟨fun _ => ⟨rfl, c2_refused 3 (by omega) (by omega) hC0 (fun M1 I1 F1 => ⟨trivial, ?_⟩)⟩, fun z => absurd a2 z⟩
    have hM1 := hM0.fc F1
    have d2 := hM1.2.1
    rw [hs] at d2
    exact xgo [] 100 ⟨fun _ => ⟨rfl, c3_no 3 (by omega) (by omega) hM1 (fun M2 I2 F2 => ⟨trivial, hk _ M2 _ (I1.fm F2) I2 hV⟩)⟩, fun z => absurd d2 z⟩
