/-! ===== count, person, letter ===== -/
theorem xsw_i {a : Int32} {d : Nat} {k : Nat → Prop} : ∀ {r : List (Int32 × Nat)}, k (((r.find? (fun q => q.1 == a)).map (fun q => q.2)).getD d) → xsw a d k r
  | [], h => h
  | (c, t) :: r, h => by
    refine ⟨fun e => ?_, fun e => ?_⟩
    · subst e
      simpa using h
    · have hf : ((c, t).1 == a) = false := by
        rw [beq_eq_false_iff_ne]
        exact fun q => e q.symm
      rw [List.find?_cons_of_neg (by rw [hf]; decide)] at h
      exact xsw_i h
theorem xsub10 : ∀ k, k < 7 → nI (10 + k) - 10 = nI k := by decide +kernel
theorem j_count (w : Int32) : xJt pg_X2_count pg_X3_count [some (xo (xN 0)), some (xi w)] [some (xo (xN 2)), some (xi w)] := by
  intro M s K hC hM hV hk
  have hn := hV.1.1.1
  obtain ⟨a1, a2, a3, a4, a5, a6, a7, a8⟩ := id hC
  obtain ⟨b1, b2, b3, b4, b5, b6, b7, b8⟩ := id hM
  refine xgo [] 100 ⟨fun c0 => ?_, fun c0 => ⟨fun c1 => ?_, fun c1 => ⟨fun c2 => ?_, fun c2 => ⟨fun c3 => ?_, fun c3 => ⟨fun c4 => ?_, fun c4 => ⟨fun c5 => ?_, fun c5 => ⟨fun c6 => ?_, fun c6 => ⟨fun c7 => ?_, fun c7 => ?_⟩⟩⟩⟩⟩⟩⟩⟩
  · subst c0
    refine ⟨trivial, ?_⟩
    rw [a1.s5]
    refine xgo [] 100 ⟨rfl, c3_isIn _ 11 16 (fun z => absurd z.1 (by decide)) (fun _ => ⟨fun _ => xsw_i ?_, fun z => absurd rfl z⟩)⟩
    refine ⟨xin47 (k := 0) (by omega), trivial, ?_⟩
    rw [b1.g0]
    exact hk _ M s hC hM hV
  · subst c1
    refine ⟨trivial, ?_⟩
    rw [a1.s8]
    refine xgo [] 100 ⟨rfl, c3_isIn _ 11 16 (fun z => absurd z.1 (by decide)) (fun _ => ⟨fun _ => xsw_i ?_, fun z => absurd rfl z⟩)⟩
    refine ⟨xin47 (k := 1) (by omega), trivial, ?_⟩
    rw [b1.g1]
    exact hk _ M s hC hM hV
  · subst c2
    refine ⟨trivial, ?_⟩
    rw [a1.s6]
    refine xgo [] 100 ⟨rfl, c3_isIn _ 11 16 (fun z => absurd z.1 (by decide)) (fun _ => ⟨fun _ => xsw_i ?_, fun z => absurd rfl z⟩)⟩
    refine ⟨xin47 (k := 2) (by omega), trivial, ?_⟩
    rw [b1.g2]
    exact hk _ M s hC hM hV
  · subst c3
    refine ⟨trivial, ?_⟩
    rw [a1.s7]
    refine xgo [] 100 ⟨rfl, c3_isIn _ 11 16 (fun z => absurd z.1 (by decide)) (fun _ => ⟨fun _ => xsw_i ?_, fun z => absurd rfl z⟩)⟩
    refine ⟨xin47 (k := 3) (by omega), trivial, ?_⟩
    rw [b1.g3]
    exact hk _ M s hC hM hV
  · subst c4
    refine ⟨trivial, ?_⟩
    rw [a1.s9]
    refine xgo [] 100 ⟨rfl, c3_isIn _ 11 16 (fun z => absurd z.1 (by decide)) (fun _ => ⟨fun _ => xsw_i ?_, fun z => absurd rfl z⟩)⟩
    exact ⟨rfl, c3_flagged4 hn hV.1.2.2.1.1 b1 ⟨trivial, hk _ M s hC hM hV⟩⟩
  · subst c5
    refine ⟨rfl, c0_together hn a1 ⟨trivial, ?_⟩⟩
    refine xgo [] 100 ⟨rfl, c3_isIn _ 11 16 (fun z => absurd z.1 (by decide)) (fun _ => ⟨fun _ => xsw_i ?_, fun z => absurd rfl z⟩)⟩
    exact ⟨rfl, c3_allHave hn b1 ⟨trivial, hk _ M s hC hM hV⟩⟩
  · subst c6
    refine ⟨trivial, ?_⟩
    rw [a6]
    refine xgo [] 100 ⟨rfl, c3_isIn _ 11 16 (fun z => absurd z.1 (by decide)) (fun _ => ⟨fun _ => xsw_i ?_, fun z => absurd rfl z⟩)⟩
    refine ⟨trivial, ?_⟩
    rw [b6]
    exact hk _ M s hC hM hV
  · subst c7
    refine ⟨trivial, ?_⟩
    rw [a4]
    refine xgo [] 100 ⟨rfl, c3_isIn _ 11 16 (fun z => absurd z.1 (by decide)) (fun _ => ⟨fun _ => xsw_i ?_, fun z => absurd rfl z⟩)⟩
    refine ⟨trivial, ?_⟩
    rw [b4]
    exact hk _ M s hC hM hV
  · have non : ¬ (11 ≤ w ∧ w ≤ 16) → xWP pg_X3_count 0 ([some (xo (xN 2)), some (xi w)], [], M) (fun v2 M2 => K (some (xi (-9))) v2 M2) := fun q => xgo [] 100 ⟨rfl, c3_isIn w 11 16 (fun z => absurd z q) (fun _ => ⟨fun _ => ⟨fun z => absurd z c0, fun _ => ⟨fun z => absurd z c1, fun _ => ⟨fun z => absurd z c2, fun _ => ⟨fun z => absurd z c3, fun _ => ⟨fun z => absurd z c4, fun _ => ⟨fun z => absurd z c5, fun _ => ⟨fun z => absurd z c6, fun _ => ⟨fun z => absurd z c7, fun _ => ⟨trivial, hk _ M s hC hM hV⟩⟩⟩⟩⟩⟩⟩⟩⟩, fun z => absurd rfl z⟩)⟩
    refine ⟨rfl, xgo [] 100 ⟨fun c => ⟨trivial, trivial, non (fun z => absurd (Int32.le_trans z.1 c) (by decide))⟩, fun c => ⟨fun d => ?_, fun d => ⟨trivial, trivial, non (fun z => d z.2)⟩⟩⟩⟩
    have hw : ∃ k, k < 7 ∧ 1 ≤ k ∧ w = nI (10 + k) := by
      obtain ⟨q, hq, rfl⟩ := xrng (b := 16) (by omega) (Int32.le_trans (by decide) (Int32.le_of_lt (Int32.not_le.mp c))) d
      have : 10 < q := (nI_ltI (a := 10) (by omega) (by omega)).mp (Int32.not_le.mp c)
      exact ⟨q - 10, by omega, by omega, by rw [show 10 + (q - 10) = q by omega]⟩
    obtain ⟨k, hk7, hk1, rfl⟩ := hw
    have hcl : (nI k).toNatClampNeg = k := nI_clamp (by omega)
    show vp_in (nI (10 + k) - 10) 7 ∧ _
    rw [xsub10 k hk7]
    refine ⟨vp_in_nI hk7 (by omega), trivial, trivial, ?_⟩
    rw [hcl, a8 k hk7]
    refine xgo [] 100 ⟨rfl, c3_isIn _ 11 16 (fun _ => ⟨fun z => absurd z (by decide), fun _ => ?_⟩) (fun z => absurd ⟨nI_le (a := 11) (by omega) (by omega), nI_le (b := 16) (by omega) (by omega)⟩ z)⟩
    show vp_in (nI (10 + k) - 10) 7 ∧ _
    rw [xsub10 k hk7]
    refine ⟨vp_in_nI hk7 (by omega), trivial, ?_⟩
    rw [hcl, b8 k hk7]
    exact hk _ M s hC hM hV
theorem j_person (p w : Int32) : xJt pg_X2_person pg_X3_person [some (xo (xN 0)), some (xi p), some (xi w)] [some (xo (xN 2)), some (xi p), some (xi w)] := by
  intro M s K hC hM hV hk
  have hn := hV.1.1.1
  refine xgo [] 100 ⟨rfl, c0_isThere p hC.1 (fun a => ?_) (fun a => ?_)⟩
  · obtain ⟨q, hq, rfl⟩ := xper hn a
    have go6 : ∀ w, w ≤ 6 → xWP pg_X3_person 0 ([some (xo (xN 2)), some (xi (nI q)), some (xi (nI w))], [], M) (fun v2 M2 => K (some (xi (aV (sh s) q w))) v2 M2) := by
      intro w hw
      refine xgo [] 100 ⟨rfl, c3_isPerson (nI q) hn hM.1 (fun _ => ?_) (fun z => absurd a z)⟩
      refine ⟨fun z => absurd z (by decide), fun _ => ⟨rfl, c3_isIn (nI w) 0 6 (fun _ => ?_) (fun z => absurd ⟨nI_pos' (by omega), nI_le (b := 6) hw (by omega)⟩ z)⟩⟩
      refine ⟨fun z => absurd z (by decide), fun _ => ⟨rfl, c3_of q w ⟨xof_in (by omega) (by omega), trivial, ?_⟩⟩⟩
      rw [hM.1.v hq hn w (by omega)]
      exact hk _ M s hC hM hV
    refine ⟨fun z => absurd z (by decide), fun _ => ⟨fun c0 => ?_, fun c0 => ⟨fun c1 => ?_, fun c1 => ⟨fun c2 => ?_, fun c2 => ⟨fun c3 => ?_, fun c3 => ⟨fun c4 => ?_, fun c4 => ⟨fun c5 => ?_, fun c5 => ⟨fun c6 => ?_, fun c6 => ⟨fun c7 => ?_, fun c7 => ⟨fun c8 => ?_, fun c8 => ?_⟩⟩⟩⟩⟩⟩⟩⟩⟩⟩
    · subst c0
      refine ⟨xin6 hq hn, trivial, ?_⟩
      rw [xcl hq hn, hC.1.a0 hq]
      exact go6 0 (by omega)
    · subst c1
      refine ⟨xin6 hq hn, trivial, ?_⟩
      rw [xcl hq hn, hC.1.a1 hq]
      exact go6 1 (by omega)
    · subst c2
      refine ⟨xin6 hq hn, trivial, ?_⟩
      rw [xcl hq hn, hC.1.a2 hq]
      exact go6 2 (by omega)
    · subst c3
      refine ⟨xin6 hq hn, trivial, ?_⟩
      rw [xcl hq hn, hC.1.a3 hq]
      exact go6 3 (by omega)
    · subst c4
      have g := go6 4 (by omega)
      refine ⟨rfl, c0_hasSpoken q hC.1 (fun b => ⟨fun z => absurd z (by decide), fun _ => ⟨trivial, ?_⟩⟩) (fun b => ⟨fun _ => ⟨trivial, ?_⟩, fun z => absurd rfl z⟩)⟩
      · have e : aV (sh s) q 4 = 1 := aFl_e1.mpr b
        rw [e] at g
        exact g
      · have e : aV (sh s) q 4 = 0 := aFl_e0.mpr b
        rw [e] at g
        exact g
    · subst c5
      have g := go6 5 (by omega)
      refine ⟨rfl, c0_hasDrawn q hC.1 (fun b => ⟨fun z => absurd z (by decide), fun _ => ⟨trivial, ?_⟩⟩) (fun b => ⟨fun _ => ⟨trivial, ?_⟩, fun z => absurd rfl z⟩)⟩
      · have e : aV (sh s) q 5 = 1 := aFl_e1.mpr b
        rw [e] at g
        exact g
      · have e : aV (sh s) q 5 = 0 := aFl_e0.mpr b
        rw [e] at g
        exact g
    · subst c6
      refine ⟨xin6 hq hn, trivial, ?_⟩
      rw [xcl hq hn, hC.1.a4 hq]
      exact go6 6 (by omega)
    · subst c7
      refine ⟨rfl, c0_speakingHour q hC.1 hq hn ⟨trivial, ?_⟩⟩
      refine xgo [] 100 ⟨rfl, c3_isPerson (nI q) hn hM.1 (fun _ => ?_) (fun z => absurd a z)⟩
      refine ⟨fun z => absurd z (by decide), fun _ => ⟨rfl, c3_isIn 7 0 6 (fun z => absurd z.2 (by decide)) (fun _ => ?_)⟩⟩
      refine ⟨fun _ => ⟨fun _ => ⟨rfl, c3_speaksIn q hM.1 hq hn ⟨trivial, ?_⟩⟩, fun z => absurd rfl z⟩, fun z => absurd rfl z⟩
      rw [if_neg (by rw [hV.1.2.2.2]; exact xbt_0 q (by omega))]
      exact hk _ M s hC hM hV
    · subst c8
      refine ⟨rfl, c0_drinkOf q hC.1 hq hn ⟨trivial, ?_⟩⟩
      refine xgo [] 100 ⟨rfl, c3_isPerson (nI q) hn hM.1 (fun _ => ?_) (fun z => absurd a z)⟩
      refine ⟨fun z => absurd z (by decide), fun _ => ⟨rfl, c3_isIn 8 0 6 (fun z => absurd z.2 (by decide)) (fun _ => ?_)⟩⟩
      refine ⟨fun _ => ⟨fun z => absurd z (by decide), fun _ => ⟨fun _ => ⟨rfl, c3_of q 0 ⟨xof_in (by omega) (by omega), rfl, ?_⟩⟩, fun z => absurd rfl z⟩⟩, fun z => absurd rfl z⟩
      rw [hM.1.v hq hn 0 (by omega)]
      exact c3_drinksBy _ ⟨trivial, hk _ M s hC hM hV⟩
    · refine ⟨rfl, c2_refused 2 (by omega) (by omega) hC (fun M1 I1 F1 => ⟨trivial, ?_⟩)⟩
      have hM1 := hM.fc F1
      refine xgo [] 100 ⟨rfl, c3_isPerson (nI q) hn hM1.1 (fun _ => ?_) (fun z => absurd a z)⟩
      refine ⟨fun z => absurd z (by decide), fun _ => ⟨rfl, c3_isIn w 0 6 (fun z => ?_) (fun _ => ?_)⟩⟩
      · obtain ⟨u, hu', rfl⟩ := xrng (b := 6) (by omega) z.1 z.2
        have h7 := xw7 (k := u) (by omega)
        rcases h7 with rfl | rfl | rfl | rfl | rfl | rfl | rfl
        · exact absurd rfl c0
        · exact absurd rfl c1
        · exact absurd rfl c2
        · exact absurd rfl c3
        · exact absurd rfl c4
        · exact absurd rfl c5
        · exact absurd rfl c6
      · exact ⟨fun _ => ⟨fun z => absurd z c7, fun _ => ⟨fun z => absurd z c8, fun _ => ⟨rfl, c3_no 2 (by omega) (by omega) hM1 (fun M2 I2 F2 => ⟨trivial, hk _ M2 _ (I1.fm F2) I2 hV⟩)⟩⟩⟩, fun z => absurd rfl z⟩
  · refine ⟨fun _ => ⟨rfl, c2_refused 1 (by omega) (by omega) hC (fun M1 I1 F1 => ⟨trivial, ?_⟩)⟩, fun z => absurd rfl z⟩
    refine xgo [] 100 ⟨rfl, c3_isPerson p hn (hM.fc F1).1 (fun z => absurd z a) (fun _ => ?_)⟩
    exact ⟨fun _ => ⟨rfl, c3_no 1 (by omega) (by omega) (hM.fc F1) (fun M2 I2 F2 => ⟨trivial, hk _ M2 _ (I1.fm F2) I2 hV⟩)⟩, fun z => absurd rfl z⟩
theorem j_letter (v : Int32) : xJt pg_X2_letter pg_X3_letter [some (xo (xN 0)), some (xi v), none] [some (xo (xN 2)), some (xi v)] := by
  intro M s K hC hM hV hk
  have hC0 := hC
  have hM0 := hM
  have hL := hV.2.2.1
  obtain ⟨a1, a2, a3, a4, a5, a6, a7, a8⟩ := hC
  refine xgo [27] 100 ⟨rfl, c2_rangeRefusal v 0 255 (fun a b => ?_) (fun a b => ?_) (fun a => ?_)⟩
  · refine ⟨fun _ => ⟨rfl, ?_⟩, fun z => absurd rfl z⟩
    refine xgo [] 100 ⟨fun c => ?_, fun c => ⟨Or.inl rfl, fun _ => ?_, fun z => absurd rfl z⟩⟩
    · rw [a4] at c
      have c : sL s < 96 := (nI_ltI (b := 96) (by omega) (by omega)).mp c
      have hin : vp_in (nI (sL s)) 96 := vp_in_nI c (by omega)
      have hcl : (nI (sL s)).toNatClampNeg = sL s := nI_clamp (by omega)
      refine ⟨by rw [a4]; exact hin, Or.inr rfl, fun z => absurd z (by decide), fun _ => ?_⟩
      show xWP pg_X2_letter 27 ([some (xo (xN 0)), some (xi v), some (xi 0)], [], xup (xup M (xN 3) (M (xN 1) 1).toNatClampNeg v) (xN 1) 1 (xup M (xN 3) (M (xN 1) 1).toNatClampNeg v (xN 1) 1 + 1)) _
      rw [a4, hcl]
      have e6 : xup M (xN 3) (sL s) v (xN 1) 1 = nI (sL s) := by rw [xup_N (by omega)]; exact a4
      rw [e6, nI_1]
      refine xgo [] 100 ⟨fun _ => ⟨trivial, ?_⟩, fun z => absurd rfl z⟩
      rw [show (xup (xup M (xN 3) (sL s) v) (xN 1) 1 (nI (sL s + 1))) (xN 1) 1 = nI (sL s + 1) by rw [xup_s, upd_s]]
      have hF : xFc M (xup (xup M (xN 3) (sL s) v) (xN 1) 1 (nI (sL s + 1))) := (xFc.rf.u _ rfl _ _).u _ rfl _ _
      have hC1 : xIc (xup (xup M (xN 3) (sL s) v) (xN 1) 1 (nI (sL s + 1))) (sLt s (sL s + 1) (upd (sle s) (sL s) v)) := by
        refine ⟨(a1.uN _ _ _).uN _ _ _, by rw [xup_N (by omega), xup_N (by omega)]; exact a2, fun e => ((a3 e).uN _ _ _).uN _ _ _, by rw [xup_s, upd_s], ?_, by rw [xup_N (by omega), xup_N (by omega)]; exact a6, fun j hj => by rw [xup_N (by omega), xup_N (by omega)]; exact a7 j hj, fun j hj => by rw [xup_N (by omega), xup_N (by omega)]; exact a8 j hj⟩
        rw [xup_N (by omega), xup_s]
        exact upd_ext a5 v
      have hM1 := hM0.fc hF
      generalize xup (xup M (xN 3) (sL s) v) (xN 1) 1 (nI (sL s + 1)) = M1 at hC1 hM1
      obtain ⟨b1, b2, b3, b4, b5, b6, b7, b8⟩ := hM1
      refine xgo [] 100 ⟨fun _ => ⟨fun z => absurd z (Int32.not_lt.mpr b), fun _ => ⟨fun z => ?_, fun _ => ⟨by rw [b4]; exact hin, trivial, ?_⟩⟩⟩, fun z => absurd a z⟩
      · rw [b4] at z
        have := (nI_eq (b := 96) (by omega) (by omega)).mp z
        omega
      rw [b4, hcl]
      have e6 : xup M1 (xN 6) (sL s) v (xN 2) 8 = nI (sL s) := by rw [xup_N (by omega)]; exact b4
      rw [e6, nI_1]
      rw [show (xup (xup M1 (xN 6) (sL s) v) (xN 2) 8 (nI (sL s + 1))) (xN 2) 8 = nI (sL s + 1) by rw [xup_s, upd_s]]
      have hF2 : xFm M1 (xup (xup M1 (xN 6) (sL s) v) (xN 2) 8 (nI (sL s + 1))) := (xFm.rf.u _ rfl _ _).u _ rfl _ _
      refine hk _ _ (sLt s (sL s + 1) (upd (sle s) (sL s) v)) (hC1.fm hF2) ?_ ⟨hV.1, hV.2.1, by show sL s + 1 ≤ 96; omega, fun j hj => ?_, hV.2.2.2.2⟩
      · refine ⟨(b1.uN _ _ _).uN _ _ _, by rw [xup_s, upd_n _ (by omega), xup_N (by omega)]; exact b2, fun e => ((b3 e).uN _ _ _).uN _ _ _, by rw [xup_s, upd_s], ?_, by rw [xup_s, upd_n _ (by omega), xup_N (by omega)]; exact b6, fun j hj => by rw [xup_N (by omega), xup_N (by omega)]; exact b7 j hj, fun j hj => by rw [xup_N (by omega), xup_N (by omega)]; exact b8 j hj⟩
        rw [xup_N (by omega), xup_s]
        exact upd_ext b5 v
      · show ∃ c, c ≤ 255 ∧ upd (sle s) (sL s) v j = nI c
        by_cases e : j = sL s
        · subst e
          rw [upd_s]
          exact xrng (b := 255) (by omega) a b
        · rw [upd_n _ e]
          have hj : j < sL s + 1 := hj
          exact hV.2.2.2.1 j (by omega)
    · show xWP pg_X2_letter 27 ([some (xo (xN 0)), some (xi v), some (xi (-6))], [], M) _
      refine xgo [] 100 ⟨fun z => absurd z (by decide), fun _ => ⟨rfl, c2_refused 6 (by omega) (by omega) hC0 (fun M1 I1 F1 => ⟨trivial, ?_⟩)⟩⟩
      have hM1 := hM0.fc F1
      have h96 : sL s = 96 := by
        rw [a4] at c
        have : ¬ sL s < 96 := fun q => c (nI_lt (b := 96) q (by omega))
        omega
      have e4 := hM1.2.2.2.1
      rw [h96] at e4
      exact xgo [] 100 ⟨fun _ => ⟨fun z => absurd z (Int32.not_lt.mpr b), fun _ => ⟨fun _ => ⟨rfl, c3_no 6 (by omega) (by omega) hM1 (fun M2 I2 F2 => ⟨trivial, hk _ M2 _ (I1.fm F2) I2 hV⟩)⟩, fun z => absurd e4 z⟩⟩, fun z => absurd a z⟩
  · refine ⟨fun z => absurd z (by decide), fun _ => ?_⟩
    show xWP pg_X2_letter 27 ([some (xo (xN 0)), some (xi v), some (xi (-6))], [], M) _
    refine xgo [] 100 ⟨fun z => absurd z (by decide), fun _ => ⟨rfl, c2_refused 6 (by omega) (by omega) hC0 (fun M1 I1 F1 => ⟨trivial, ?_⟩)⟩⟩
    exact xgo [] 100 ⟨fun _ => ⟨fun _ => ⟨rfl, c3_no 6 (by omega) (by omega) (hM0.fc F1) (fun M2 I2 F2 => ⟨trivial, hk _ M2 _ (I1.fm F2) I2 hV⟩)⟩, fun z => absurd (Int32.not_le.mp b) z⟩, fun z => absurd a z⟩
  · refine ⟨fun z => absurd z (by decide), fun _ => ?_⟩
    show xWP pg_X2_letter 27 ([some (xo (xN 0)), some (xi v), some (xi (-4))], [], M) _
    refine xgo [] 100 ⟨fun z => absurd z (by decide), fun _ => ⟨rfl, c2_refused 4 (by omega) (by omega) hC0 (fun M1 I1 F1 => ⟨trivial, ?_⟩)⟩⟩
    exact xgo [] 100 ⟨fun z => absurd z a, fun _ => ⟨rfl, c3_no 4 (by omega) (by omega) (hM0.fc F1) (fun M2 I2 F2 => ⟨trivial, hk _ M2 _ (I1.fm F2) I2 hV⟩)⟩⟩
