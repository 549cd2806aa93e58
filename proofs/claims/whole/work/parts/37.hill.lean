/-! ===== the hill ===== -/
def xfh (M M' : xM) : Prop := (∀ o, o ≠ xN 9 → o ≠ xN 2 → o ≠ xW 0 → o ≠ xW 3 → M' o = M o) ∧ ∀ k, k ≠ 10 → M' (xN 2) k = M (xN 2) k
theorem xfh.rf {M : xM} : xfh M M := ⟨fun _ _ _ _ _ => rfl, fun _ _ => rfl⟩
theorem xfh.tr {M M1 M2 : xM} (h : xfh M M1) (g : xfh M1 M2) : xfh M M2 := ⟨fun o a b c d => (g.1 o a b c d).trans (h.1 o a b c d), fun k a => (g.2 k a).trans (h.2 k a)⟩
theorem xfn.h {M M' : xM} (h : xfn M M') : xfh M M' := ⟨fun o a b _ _ => h.1 o a b, h.2⟩
theorem xfw.h0 {M M' : xM} (h : xfw 0 M M') : xfh M M' := ⟨fun o _ _ c _ => h o c, fun k _ => by rw [h (xN 2) (xWN 2)]⟩
theorem xfw.h3 {M M' : xM} (h : xfw 3 M M') : xfh M M' := ⟨fun o _ _ _ d => h o d, fun k _ => by rw [h (xN 2) (xWN 2)]⟩
theorem xfh.m {M M' : xM} (h : xfh M M') : xFm M M' := fun o ho => h.1 o (fun e => by rw [e] at ho; cases ho) (fun e => by rw [e] at ho; cases ho) (fun e => by rw [e] at ho; cases ho) (fun e => by rw [e] at ho; cases ho)
theorem xRm.n {M M' : xM} {r : Fin 4} {n : Nat} {h : xh} (hR : xRm M r n h) (hF : xfn M M') : xRm M' r n h := by
  have e : M' (xW r) = M (xW r) := hF.1 _ (fun e => by cases e) (fun e => by cases e)
  exact ⟨fun k hk => by rw [e]; exact hR.1 k hk, fun p hp w hw => by rw [e]; exact hR.2 p hp w hw⟩
theorem xLm.h {M M' : xM} {L : Nat} {le : Nat → Int32} (h : xLm M L le) (hF : xfh M M') : xLm M' L le := ⟨by rw [hF.2 8 (by omega)]; exact h.1, fun j hj => by rw [hF.1 (xN 6) (xN_ne (by omega)) (xN_ne (by omega)) (xWN 6) (xWN 6)]; exact h.2 j hj⟩
theorem xIm.lt {M0 M : xM} {s : xS} (hI : xIm M0 s) (hF : xfh M0 M) {n : Nat} {h : xh} (hR : xRm M 0 n h) (le : Nat → Int32) : xIm (xup M (xN 2) 8 0) (sLt (sH s n h) 0 le) ∧ xFm M0 (xup M (xN 2) 8 0) := by
  obtain ⟨a1, a2, a3, a4, a5, a6, a7, a8⟩ := hI
  have w2 : M (xW 2) = M0 (xW 2) := hF.1 _ (fun e => by cases e) (fun e => by cases e) (fun e => absurd (Sum.inl.inj (Sum.inr.inj (Sum.inr.inj e))) (by decide)) (fun e => absurd (Sum.inl.inj (Sum.inr.inj (Sum.inr.inj e))) (by decide))
  have nN : ∀ k, k ≠ 9 → k ≠ 2 → M (xN k) = M0 (xN k) := fun k h9 h2 => hF.1 _ (xN_ne h9) (xN_ne h2) (xWN k) (xWN k)
  refine ⟨⟨hR.uN _ _ _, by rw [xup_s, upd_n _ (by omega), hF.2 4 (by omega)]; exact a2, fun e => ?_, by rw [xup_s, upd_s]; rfl, fun j hj => absurd hj (Nat.not_lt_zero j), by rw [xup_s, upd_n _ (by omega), hF.2 9 (by omega)]; exact a6, fun j hj => by rw [xup_N (by omega), nN 7 (by omega) (by omega)]; exact a7 j hj, fun j hj => by rw [xup_N (by omega), nN 8 (by omega) (by omega)]; exact a8 j hj⟩, hF.m.u _ rfl _ _⟩
  refine xRm.uN ?_ _ _ _
  have b := a3 e
  exact ⟨fun k hk => by rw [w2]; exact b.1 k hk, fun p hp w hw => by rw [w2]; exact b.2 p hp w hw⟩
theorem xIc.lt {M : xM} {s : xS} (hI : xIc M s) (le : Nat → Int32) : xIc (xup M (xN 1) 1 0) (sLt s 0 le) := by
  obtain ⟨a1, a2, a3, a4, a5, a6, a7, a8⟩ := hI
  exact ⟨a1.uN _ _ _, by rw [xup_N (by omega)]; exact a2, fun e => (a3 e).uN _ _ _, by rw [xup_s, upd_s]; rfl, fun j hj => absurd hj (Nat.not_lt_zero j), by rw [xup_N (by omega)]; exact a6, fun j hj => by rw [xup_N (by omega)]; exact a7 j hj, fun j hj => by rw [xup_N (by omega)]; exact a8 j hj⟩
section XHI
variable {R : xR} {L : Nat} {le : Nat → Int32}
theorem l3_end2 {M : xM} (a v : Int32) (x3 x4 x5 : Option xV) (hk : R (some (xi (if v = -9 then a else v))) (xup M (xN 2) 8 0)) : xWP pg_X3_hill 128 ([some (xo (xN 2)), some (xi a), some (xi v), x3, x4, x5], [], M) R := by
  refine xgo [] 100 ⟨fun e => ⟨trivial, ?_⟩, fun e => ⟨trivial, ?_⟩⟩
  · rw [if_pos e] at hk; exact hk
  · rw [if_neg e] at hk; exact hk
theorem l3_h2 {M0 : xM} {n0 : Nat} {g0 : xh} (hn0 : n0 ≤ 6) (a : Int32) (hv : xLv L le) (hL0 : xLm M0 L le) (x5 : Option xV) : ∀ f i (M : xM) (x : Nat × xh) (x3 x4 : Option Int32), i ≤ L → L ≤ i + f → (i < L → aFL L le f i = none) → aNow x.1 x.2 → xRm M 0 x.1 x.2 → xRm M 3 n0 g0 → M (xN 2) 10 = nI i → xfh M0 M → (∀ j, aPh L le f i x = .inl j → j < 200 → ∀ M', xRm M' 0 n0 g0 → xfh M0 M' → R (some (xi (-2000 - nI j))) (xup M' (xN 2) 8 0)) → (∀ x', aPh L le f i x = .inr x' → aNow x'.1 x'.2 → ∀ M', xRm M' 0 x'.1 x'.2 → xfh M0 M' → R (some (xi a)) (xup M' (xN 2) 8 0)) → ∀ x5 : Option Int32, xWP pg_X3_hill 62 ([some (xo (xN 2)), some (xi a), some (xi (-9)), x3.map xi, x4.map xi, x5.map xi], [], M) R := by
  have h96 := hv.1
  intro f
  induction f with
  | zero =>
    intro i M x x3 x4 hi hf hg hN hR hW hp hF h0 h1 x5
    have hL := hL0.h hF
    refine xgo [128] 100 ⟨fun _ => ⟨fun _ => ?_, fun z => absurd (by rw [hp, hL.1]; exact nI_le (by omega) (by omega)) z⟩, fun z => absurd rfl z⟩
    refine l3_end2 a (-9) _ _ _ ?_
    rw [if_pos rfl]
    exact h1 x rfl hN M hR hF
  | succ f ih =>
    intro i M x x3 x4 hi hf hg hN hR hW hp hF h0 h1 x5
    have hL := hL0.h hF
    by_cases hlt : i < L
    · obtain ⟨hst, hnx⟩ := aFL_st (hg hlt)
      obtain ⟨hq, j1, j2, -⟩ := aSt_ok hst
      have hl := aLn_2 _ hq
      have ep : aPh L le (f + 1) i x = (match aDo L le i x with
        | none => .inl i
        | some x' => aPh L le f (aSt L le i).1 x') := if_pos hlt
      have st83 : xWP pg_X3_hill 84 ([some (xo (xN 2)), some (xi a), some (xi (-9)), some (xi (nI i)), x4.map xi, x5.map xi], [], M) R := by
        have st90 : xWP pg_X3_hill 90 ([some (xo (xN 2)), some (xi a), some (xi (-9)), some (xi (nI i)), some (xi (aAt L le i)), x5.map xi], [], M) R := by
          refine xgo [62, 108] 100 ⟨rfl, c3_readsStatement i (by omega) hv hL (fun M1 j hs F1 p1 n1 => ?_) (fun M1 j hs F1 p1 => absurd hst (by rw [hs]; exact Bool.false_ne_true)) hp⟩
          have hj : (aSt L le i).1 = j := by rw [hs]
          have hR1 := hR.n F1
          have hW1 := hW.n F1
          have hF1 := hF.tr F1.h
          refine ⟨rfl, c3_isDone i hv hst n1 hN hR1 (fun x' hx M2 hR2 F2 => ⟨fun z => absurd z (by decide), fun _ => ?_⟩) (fun hx M2 F2 => ⟨fun _ => ?_, fun z => absurd rfl z⟩)⟩
          · rw [hx] at ep
            have hW2 := hW1.fr F2 (by decide)
            have p2 : M2 (xN 2) 10 = nI j := by rw [F2 (xN 2) (xWN 2)]; exact p1
            show xWP pg_X3_hill 62 ([some (xo (xN 2)), some (xi a), some (xi (-9)), (some (nI i)).map xi, (some (aAt L le i)).map xi, (some (1 : Int32)).map xi], [], M2) R
            rw [hj] at ep hnx
            exact ih j M2 x' _ _ (by omega) (by omega) hnx (aNow_do hv hst hN hx) hR2 hW2 p2 (hF1.tr F2.h0) (fun k e => h0 k (ep.trans e)) (fun y e => h1 y (ep.trans e)) _
          · rw [hx] at ep
            have hW2 := hW1.fr F2 (by decide)
            show xWP pg_X3_hill 108 ([some (xo (xN 2)), some (xi a), some (xi (-9)), some (xi (nI i)), some (xi (aAt L le i)), some (xi 1)], [], M2) R
            refine xgo [128] 100 ⟨rfl, c3_copies (r := 3) (r' := 0) (by decide) hn0 hW2 (fun M3 hR3 F3 => ⟨fun z => absurd z (nI_200 i (by omega)).2.1, fun _ => ?_⟩)⟩
            refine l3_end2 a (-2000 - nI i) _ _ _ ?_
            rw [if_neg (nI_200 i (by omega)).2.1]
            exact h0 i ep (by omega) M3 hR3 ((hF1.tr F2.h0).tr F3.h0)
        refine xgo [90] 100 ⟨rfl, c3_here i (by omega) hv hL hp st90⟩
      refine xgo [83, 128] 100 ⟨fun _ => ⟨fun z => absurd z (by rw [hp, hL.1]; exact nI_ge hlt (by omega)), fun _ => ?_⟩, fun z => absurd rfl z⟩
      show xWP pg_X3_hill 83 ([some (xo (xN 2)), some (xi a), some (xi (-9)), x3.map xi, x4.map xi, x5.map xi], [xi (M (xN 2) 10)], M) R
      rw [hp]
      exact xgo [84] 100 st83
    · have ep : aPh L le (f + 1) i x = .inr x := if_neg hlt
      refine xgo [128] 100 ⟨fun _ => ⟨fun _ => ?_, fun z => absurd (by rw [hp, hL.1]; exact nI_le (by omega) (by omega)) z⟩, fun z => absurd rfl z⟩
      refine l3_end2 a (-9) _ _ _ ?_
      rw [if_pos rfl]
      exact h1 x ep hN M hR hF
/-- the model's hill, whole -/
theorem c3_hill {M : xM} {s : xS} (hM : xIm M s) (hV : xIv s)
    (hf : ∀ j, aFL (sL s) (sle s) (sL s + 1) 0 = some j → ∀ M', xIm M' (sLt s 0 (sle s)) → xFm M M' → R (some (xi (-1000 - nI j))) M')
    (hw : ∀ j, aFL (sL s) (sle s) (sL s + 1) 0 = none → aPh (sL s) (sle s) (sL s + 1) 0 (sn s, sh s) = .inl j → ∀ M', xIm M' (sLt s 0 (sle s)) → xFm M M' → R (some (xi (-2000 - nI j))) M')
    (hk : ∀ x, aFL (sL s) (sle s) (sL s + 1) 0 = none → aPh (sL s) (sle s) (sL s + 1) 0 (sn s, sh s) = .inr x → aNow x.1 x.2 → ∀ M', xIm M' (sLt (sH s x.1 x.2) 0 (sle s)) → xFm M M' → R (some (xi (aSc (sle s) (sL s)))) M') : xWP pg_X3_hill 0 ([some (xo (xN 2)), none, none, none, none, none], [], M) R := by
  have hn := hV.1.1.1
  have hv : xLv (sL s) (sle s) := ⟨hV.2.2.1, hV.2.2.2.1⟩
  have h96 := hv.1
  have hL : xLm M (sL s) (sle s) := ⟨hM.2.2.2.1, hM.2.2.2.2.1⟩
  have F0 : xfn M (xup M (xN 2) 10 0) := xfn.rf.up _
  have p0 : xup M (xN 2) 10 0 (xN 2) 10 = nI 0 := by rw [xup_s, upd_s]; rfl
  refine xgo [10] 100 ?_
  refine l3_h1 (M0 := M) hv hL (sL s + 1) 0 _ (by omega) (by omega) p0 F0 (fun e M1 F1 => ?_) (fun j a e hj M1 F1 => ?_)
  · have hR1 := hM.1.n F1
    refine xgo [62] 100 ⟨rfl, c3_copies (r := 0) (r' := 3) (by decide) hn hR1 (fun M2 hR2 F2 => ?_)⟩
    have hR3 := (hR1.fr F2 (by decide)).uN 2 10 0
    have hW3 := hR2.uN 2 10 0
    have F3 : xfh M (xup M2 (xN 2) 10 0) := (F1.h.tr F2.h3).tr (xfn.rf.up 0).h
    have p3 : xup M2 (xN 2) 10 0 (xN 2) 10 = nI 0 := by rw [xup_s, upd_s]; rfl
    refine l3_h2 (M0 := M) hn (aSc (sle s) (sL s)) hv hL none (sL s + 1) 0 _ (sn s, sh s) none none (by omega) (by omega) (fun _ => e) hV.1 hR3 hW3 p3 F3 (fun j ej hj M' hR' hF' => ?_) (fun x ex hx M' hR' hF' => ?_) none
    · obtain ⟨i1, i2⟩ := hM.lt hF' hR' (sle s)
      exact hw j e ej _ i1 i2
    · obtain ⟨i1, i2⟩ := hM.lt hF' hR' (sle s)
      exact hk x e ex hx _ i1 i2
  · have hR1 := hM.1.n F1
    have ne := (nI_200 j hj).1
    refine xgo [128] 100 ⟨rfl, c3_copies (r := 0) (r' := 3) (by decide) hn hR1 (fun M2 hR2 F2 => ⟨fun z => absurd z ne, fun _ => ?_⟩)⟩
    have hR3 := (hR1.fr F2 (by decide)).uN 2 10 0
    have F3 : xfh M (xup M2 (xN 2) 10 0) := (F1.h.tr F2.h3).tr (xfn.rf.up 0).h
    refine l3_end2 a (-1000 - nI j) _ _ _ ?_
    rw [if_neg ne]
    obtain ⟨i1, i2⟩ := hM.lt F3 hR3 (sle s)
    exact hf j e _ i1 i2
end XHI
theorem aPh_lt {L : Nat} {le : Nat → Int32} : ∀ f i x j, aPh L le f i x = .inl j → j < L
  | 0, i, x, j, h => by cases h
  | f + 1, i, x, j, h => by
    unfold aPh at h
    by_cases c : i < L
    · rw [if_pos c] at h
      cases hd : aDo L le i x with
      | none => rw [hd] at h; cases h; exact c
      | some x' => rw [hd] at h; exact aPh_lt f _ x' j h
    · rw [if_neg c] at h; cases h
theorem aFL_lt {L : Nat} {le : Nat → Int32} : ∀ f i j, i ≤ L → aFL L le f i = some j → j ≤ L + 5
  | 0, i, j, _, h => by cases h
  | f + 1, i, j, hi, h => by
    unfold aFL at h
    have hle := aSt_le (L := L) (le := le) i
    by_cases c : (aSt L le i).2 = true
    · rw [if_pos c] at h
      have ho := (aSt_ok c).2.2.1
      by_cases d : (aSt L le i).1 < L
      · rw [if_pos d] at h; exact aFL_lt f _ j ho h
      · rw [if_neg d] at h; cases h
    · rw [if_neg c] at h; cases h; omega
theorem j_hill : xJt pg_X2_hill pg_X3_hill [some (xo (xN 0)), none, none, none, none] [some (xo (xN 2)), none, none, none, none, none] := by
  intro M s K hC hM hV hk
  have hn := hV.1.1.1
  have hv : xLv (sL s) (sle s) := ⟨hV.2.2.1, hV.2.2.2.1⟩
  have h96 := hv.1
  have hL : xLc M (sL s) (sle s) := ⟨hC.2.2.2.1, hC.2.2.2.2.1⟩
  have hV' : xIv (sLt s 0 (sle s)) := ⟨hV.1, hV.2.1, Nat.zero_le _, fun j hj => absurd hj (Nat.not_lt_zero j), hV.2.2.2.2⟩
  refine xgo [33] 100 ⟨rfl, c1_firstWrongLetter hv hL ⟨rfl, c2_thoughtOfNow hC hn (fun M1 hR1 hF1 => ?_)⟩⟩
  have hL1 := hL.f hF1
  cases e : aFL (sL s) (sle s) (sL s + 1) 0 with
  | some j =>
    have hj := aFL_lt _ _ _ (Nat.zero_le _) e
    have ne := (nI_200 j (by omega)).2.2
    refine ⟨fun z => absurd z ne, fun _ => ?_⟩
    show xWP pg_X2_hill 33 ([some (xo (xN 0)), some (xi (nI j)), some (xo (xH 1)), some (xi (-9)), none], [], M1) _
    refine xgo [42] 100 ⟨rfl, ?_⟩
    refine xgo [4] 100 (l1_statements hv hL1 ?_ (sL s) 0 (by omega))
    refine xgo [] 100 ⟨rfl, xgo [] 100 ⟨trivial, ⟨fun z => absurd z ne, fun _ => ⟨trivial, ?_⟩⟩⟩⟩
    have hC2 := (hC.th hF1).lt (sle s)
    have F2 : xFc M (xup M1 (xN 1) 1 0) := hF1.c.u _ rfl _ _
    refine c3_hill (hM.fc F2) hV (fun j' e' M3 hM3 F3 => ?_) (fun j' e' => by rw [e] at e'; cases e') (fun x e' => by rw [e] at e'; cases e')
    rw [e] at e'; cases e'
    exact hk _ M3 _ (hC2.fm F3) hM3 hV'
  | none =>
    refine ⟨fun _ => ⟨rfl, ?_⟩, fun z => absurd rfl z⟩
    refine xgo [2] 100 ?_
    have tail : ∀ (r : Int32) (M2 : xM), xfr 1 M M2 → xWP pg_X2_hill 42 ([some (xo (xN 0)), some (xi (-9)), some (xo (xH 1)), some (xi r), some (xi (aSc (sle s) (sL s)))], [], M2) (fun v1 M1 => xWP pg_X3_hill 0 ([some (xo (xN 2)), none, none, none, none, none], [], M1) (fun v2 M2 => K v1 v2 M2)) → xWP pg_X2_hill 33 ([some (xo (xN 0)), some (xi (-9)), some (xo (xH 1)), some (xi r), none], [], M2) (fun v1 M1 => xWP pg_X3_hill 0 ([some (xo (xN 2)), none, none, none, none, none], [], M1) (fun v2 M2 => K v1 v2 M2)) := by
      intro r M2 hF2 hh
      refine xgo [42] 100 ⟨rfl, ?_⟩
      exact xgo [4] 100 (l1_statements hv (hL.f hF2) hh (sL s) 0 (by omega))
    refine l1_ph (M0 := M) hv hL (sL s + 1) 0 M1 (sn s, sh s) (by omega) (by omega) (fun _ => e) hV.1 hR1 hF1 (fun j ej M2 hF2 => ?_) (fun x ex M2 hR2 hF2 => ?_)
    · have hj := aPh_lt _ _ _ _ ej
      have ne := (nI_200 j (by omega)).2.2
      refine tail (nI j) M2 hF2 ?_
      refine xgo [] 100 ⟨rfl, xgo [] 100 ⟨trivial, ⟨fun _ => ⟨fun z => absurd z ne, fun _ => ⟨trivial, ?_⟩⟩, fun z => absurd rfl z⟩⟩⟩
      have hC3 := (hC.th hF2).lt (sle s)
      have F3 : xFc M (xup M2 (xN 1) 1 0) := hF2.c.u _ rfl _ _
      refine c3_hill (hM.fc F3) hV (fun j' e' => by rw [e] at e'; cases e') (fun j' _ e' M4 hM4 F4 => ?_) (fun x e' ex => by rw [ej] at ex; cases ex)
      rw [ej] at e'; cases e'
      exact hk _ M4 _ (hC3.fm F4) hM4 hV'
    · refine tail (-9) M2 hF2 ?_
      have hC3 := (hC.th hF2).lt (sle s)
      have F3 : xFc M (xup M2 (xN 1) 1 0) := hF2.c.u _ rfl _ _
      have hR3 := hR2.uN 1 1 0
      have hx6 : x.1 ≤ 6 ∨ ¬ x.1 ≤ 6 := by omega
      have hNx : aNow x.1 x.2 := by
        have : ∀ f i y, aNow y.1 y.2 → (i < sL s → aFL (sL s) (sle s) f i = none) → aPh (sL s) (sle s) f i y = .inr x → aNow x.1 x.2 := by
          intro f
          induction f with
          | zero => intro i y hy _ he; cases he; exact hy
          | succ f ih =>
            intro i y hy hg he
            unfold aPh at he
            by_cases c : i < sL s
            · rw [if_pos c] at he
              obtain ⟨g1, g2⟩ := aFL_st (hg c)
              cases hd : aDo (sL s) (sle s) i y with
              | none => rw [hd] at he; cases he
              | some y' => rw [hd] at he; exact ih _ y' (aNow_do hv g1 hy hd) g2 he
            · rw [if_neg c] at he; cases he; exact hy
        exact this _ _ _ hV.1 (fun _ => e) ex
      refine xgo [] 100 ⟨rfl, xgo [] 100 ⟨trivial, ⟨fun _ => ⟨fun _ => ⟨rfl, c0_copyFrom (i := 0) (j := 1) (by decide) hNx.1.1 hR3 (fun M4 hR4 hF4 => ⟨trivial, ?_⟩)⟩, fun z => absurd rfl z⟩, fun z => absurd rfl z⟩⟩⟩
      have hC4 := hC3.nw hF4 hR4
      have F4 : xFc M M4 := F3.tr hF4.c
      refine c3_hill (hM.fc F4) hV (fun j' e' => by rw [e] at e'; cases e') (fun j' _ e' => by rw [ex] at e'; cases e') (fun y e' ey hy M5 hM5 F5 => ?_)
      rw [ex] at ey; cases ey
      exact hk _ M5 _ (hC4.fm F5) hM5 ⟨hNx, hV.2.1, Nat.zero_le _, fun j hj => absurd hj (Nat.not_lt_zero j), hV.2.2.2.2⟩
