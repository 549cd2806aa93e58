/-! ===== more calls that change what there is ===== -/
theorem xRc.uN {M : xM} {i : Fin 3} {n : Nat} {h : xh} (H : xRc M i n h) (c k : Nat) (v : Int32) : xRc (xup M (xN c) k v) i n h :=
  have nH : ∀ i, xH i ≠ xN c := fun i e => (by cases e)
  have nA : ∀ a i, xA a i ≠ xN c := fun a i e => (by cases e)
  ⟨by rw [xup_n (nH _)]; exact H.1, fun j x y => by rw [xup_n (nH _)]; exact H.2.1 j x y, fun a p hp => by rw [xup_n (nA _ _)]; exact H.2.2 a p hp⟩
theorem xRm.uN {M : xM} {r : Fin 4} {n : Nat} {h : xh} (H : xRm M r n h) (c k : Nat) (v : Int32) : xRm (xup M (xN c) k v) r n h :=
  have nW : ∀ r, xW r ≠ xN c := fun r e => (by cases e)
  ⟨fun j x => by rw [xup_n (nW _)]; exact H.1 j x, fun p hp w hw => by rw [xup_n (nW _)]; exact H.2 p hp w hw⟩
theorem xup_N {M : xM} {c d : Nat} (h : d ≠ c) (k : Nat) (v : Int32) : xup M (xN c) k v (xN d) = M (xN d) := xup_n (fun e => h (Sum.inr.inj (Sum.inr.inj (Sum.inr.inj e)))) k v
section X0E
variable {M : xM} {i : Fin 3} {n : Nat} {h : xh} {R : xR}
theorem c0_setFriend (q : Nat) (f : Int32) (hn : n ≤ 6) (hq : q < n) (hR : xRc M i n h) (h1 : 0 ≤ f ∧ f ≤ 5 → R (some (xi 1)) (xup M (xA 4 i) q f)) (h2 : ¬ (0 ≤ f ∧ f ≤ 5) → R (some (xi 0)) M) : xWP pg_X0_setFriend 0 ([some (xo (xH i)), some (xi (nI q)), some (xi f)], [], M) R := by
  refine xgo [] 100 ⟨rfl, c0_isThere (nI q) hR (fun a => ?_) (fun a => absurd ⟨nI_pos' (by omega), nI_lt hq (by omega)⟩ a)⟩
  refine ⟨fun z => absurd z (by decide), fun _ => ⟨fun c => ⟨Or.inl rfl, h2 (fun z => absurd c (Int32.not_lt.mpr z.1))⟩, fun c => ⟨fun c2 => ⟨xin6 hq hn, Or.inr rfl, ?_⟩, fun c2 => ⟨Or.inl rfl, h2 (fun z => c2 ?_)⟩⟩⟩⟩
  · rw [xcl hq hn]
    refine h1 ⟨Int32.not_lt.mp c, ?_⟩
    obtain ⟨k, hk, rfl⟩ := nI_of c
    have := (nI_ltI (b := 6) (by omega) (by omega)).mp c2
    exact nI_le (b := 5) (by omega) (by omega)
  · obtain ⟨k, hk, rfl⟩ := xrng (b := 5) (by omega) z.1 z.2
    exact nI_lt (b := 6) (by omega) (by omega)
theorem c0_mayPass (v : Int32) (hR : xRc M i n h) (h1 : 1 ≤ v → v ≤ 60 → h 5 8 + v ≤ 999 → R (some (xi 1)) M) (h2 : ¬ (1 ≤ v ∧ v ≤ 60 ∧ h 5 8 + v ≤ 999) → R (some (xi 0)) M) : xWP pg_X0_mayPass 0 ([some (xo (xH i)), some (xi v)], [], M) R := by
  refine xgo [] 100 ⟨fun c => ⟨Or.inl rfl, h2 (fun z => absurd c (Int32.not_lt.mpr z.1))⟩, fun c => ⟨fun c2 => ⟨Or.inl rfl, h2 (fun z => absurd c2 (Int32.not_lt.mpr z.2.1))⟩, fun c2 => ⟨fun c3 => ⟨Or.inl rfl, h2 (fun z => absurd c3 (Int32.not_lt.mpr (by rw [hR.s8]; exact z.2.2)))⟩, fun c3 => ⟨Or.inr rfl, h1 (Int32.not_lt.mp c) (Int32.not_lt.mp c2) (by rw [← hR.s8]; exact Int32.not_lt.mp c3)⟩⟩⟩⟩
end X0E
theorem j_befriends (p f : Int32) : xJt pg_X2_befriends pg_X3_befriends [some (xo (xN 0)), some (xi p), some (xi f), none] [some (xo (xN 2)), some (xi p), some (xi f)] := by
  intro M s K hC hM hV hk
  have hn := hV.1.1.1
  refine xgo [] 100 ⟨rfl, c0_isThere p hC.1 (fun a => ?_) (fun a => ?_)⟩
  · obtain ⟨q, hq, rfl⟩ := xper hn a
    refine ⟨fun z => absurd z (by decide), fun _ => ⟨xin6 hq hn, rfl, c0_setFriend q f hn hq hC.1 (fun b => ?_) (fun b => ?_)⟩⟩
    · refine ⟨fun z => absurd z (by decide), fun _ => ⟨trivial, ?_⟩⟩
      rw [xcl hq hn, hC.1.a4 hq]
      have hF : xfr 0 M (xup M (xA 4 0) q f) := xfr.rf.ua 4 q f
      have hC1 := hC.nw hF (hC.1.ua 4 q f)
      have hM1 := hM.fc hF.c
      refine xgo [] 100 ⟨rfl, c3_isPerson (nI q) hn hM1.1 (fun _ => ?_) (fun z => absurd a z)⟩
      refine ⟨fun z => absurd z (by decide), fun _ => ⟨rfl, c3_isIn f 0 5 (fun _ => ?_) (fun z => absurd b z)⟩⟩
      refine ⟨fun z => absurd z (by decide), fun _ => ⟨rfl, c3_of q 6 ⟨rfl, c3_sets _ (by omega) f ⟨trivial, ?_⟩⟩⟩⟩
      rw [hM1.1.2 q hq 6 (by omega)]
      obtain ⟨u, hu', rfl⟩ := xrng (b := 5) (by omega) b.1 b.2
      have hF2 : xfw 0 (xup M (xA 4 0) q (nI u)) (xup (xup M (xA 4 0) q (nI u)) (xW 0) (5 + 7 * q + 6) (nI u)) := xfw.rf.u _ _
      exact hk _ _ _ (hC1.fm hF2.m) (hM1.nw hF2 (hM1.1.uAr hq _ 4 6 (by omega))) ⟨aNow_ar hV.1 (by omega) (aBd_friend hV.1.1 hu'), hV.2⟩
    · refine ⟨fun _ => ⟨rfl, c2_refused 1 (by omega) (by omega) hC (fun M1 I1 F1 => ⟨trivial, ?_⟩)⟩, fun z => absurd rfl z⟩
      refine xgo [] 100 ⟨rfl, c3_isPerson (nI q) hn (hM.fc F1).1 (fun _ => ?_) (fun z => absurd a z)⟩
      refine ⟨fun z => absurd z (by decide), fun _ => ⟨rfl, c3_isIn f 0 5 (fun z => absurd z b) (fun _ => ?_)⟩⟩
      exact ⟨fun _ => ⟨rfl, c3_no 1 (by omega) (by omega) (hM.fc F1) (fun M2 I2 F2 => ⟨trivial, hk _ M2 _ (I1.fm F2) I2 hV⟩)⟩, fun z => absurd rfl z⟩
  · refine ⟨fun _ => ⟨rfl, c2_refused 1 (by omega) (by omega) hC (fun M1 I1 F1 => ⟨trivial, ?_⟩)⟩, fun z => absurd rfl z⟩
    refine xgo [] 100 ⟨rfl, c3_isPerson p hn (hM.fc F1).1 (fun z => absurd z a) (fun _ => ?_)⟩
    exact ⟨fun _ => ⟨rfl, c3_no 1 (by omega) (by omega) (hM.fc F1) (fun M2 I2 F2 => ⟨trivial, hk _ M2 _ (I1.fm F2) I2 hV⟩)⟩, fun z => absurd rfl z⟩
theorem xbc_k {n : Nat} {a : Int32} (hn : n ≤ 6) (h : aBk n a) : xbc a = xbs a 6 := by
  obtain ⟨k, hk, rfl⟩ := h
  exact xbc_bs k (Nat.lt_of_lt_of_le hk (p2_le hn))
theorem aFl_e1 {s : Int32} {p : Nat} : aFl s p = 1 ↔ xbt s p := by
  unfold aFl
  by_cases h : xbt s p
  · rw [if_pos h]
    exact ⟨fun _ => h, fun _ => rfl⟩
  · rw [if_neg h]
    exact ⟨fun z => absurd z (by decide), fun z => absurd z h⟩
theorem j_speaks (p : Int32) : xJt pg_X2_speaks pg_X3_speaks [some (xo (xN 0)), some (xi p)] [some (xo (xN 2)), some (xi p)] := by
  intro M s K hC hM hV hk
  have hn := hV.1.1.1
  refine xgo [] 100 ⟨rfl, c0_isThere p hC.1 (fun a => ?_) (fun a => ?_)⟩
  · obtain ⟨q, hq, rfl⟩ := xper hn a
    refine ⟨fun z => absurd z (by decide), fun _ => ⟨rfl, c0_hasSpoken q hC.1 (fun b => ?_) (fun b => ?_)⟩⟩
    · refine ⟨fun z => absurd z (by decide), fun _ => ⟨rfl, c2_refused 3 (by omega) (by omega) hC (fun M1 I1 F1 => ⟨trivial, ?_⟩)⟩⟩
      have hM1 := hM.fc F1
      refine xgo [] 100 ⟨rfl, c3_isPerson (nI q) hn hM1.1 (fun _ => ?_) (fun z => absurd a z)⟩
      refine ⟨fun z => absurd z (by decide), fun _ => ⟨rfl, c3_of q 4 ⟨xof_in (by omega) (by omega), ?_⟩⟩⟩
      rw [hM1.1.v hq hn 4 (by omega)]
      exact ⟨fun _ => ⟨rfl, c3_no 3 (by omega) (by omega) hM1 (fun M2 I2 F2 => ⟨trivial, hk _ M2 _ (I1.fm F2) I2 hV⟩)⟩, fun z => absurd (aFl_e1.mpr b) z⟩
    · refine ⟨fun _ => ⟨rfl, c0_letSpeak q hn hq hC.1 (fun M1 hR1 hF1 => ⟨rfl, ?_⟩)⟩, fun z => absurd rfl z⟩
      rw [hR1.s9]
      refine c_bitCount _ ⟨trivial, ?_⟩
      have hN := aNow_spo hV.1 hq
      rw [xbc_k hn hN.2.2.1.1]
      have hC1 := hC.nw hF1 hR1
      have hM1 := hM.fc hF1.c
      refine xgo [46] 100 ⟨rfl, c3_isPerson (nI q) hn hM1.1 (fun _ => ?_) (fun z => absurd a z)⟩
      refine ⟨fun z => absurd z (by decide), fun _ => ⟨rfl, c3_of q 4 ⟨xof_in (by omega) (by omega), ?_⟩⟩⟩
      rw [hM1.1.v hq hn 4 (by omega)]
      refine ⟨fun z => absurd (aFl_e1.mp z) b, fun _ => ⟨rfl, c3_of q 4 ⟨xof_in (by omega) (by omega), ?_⟩⟩⟩
      rw [xof_cl (by omega) (by omega)]
      have hF2 : xfw 0 M1 (xup M1 (xW 0) (5 + 7 * q + 4) 1) := xfw.rf.u _ _
      have hM2 := hM1.nw hF2 (hM1.1.uSpoke hn hq)
      refine xgo [] 100 ⟨rfl, c3_flagged4 hn hN.2.2.1.1 hM2.1 ⟨rfl, c3_bits _ ⟨trivial, ?_⟩⟩⟩
      exact hk _ _ _ (hC1.fm hF2.m) hM2 ⟨hN, hV.2⟩
  · refine ⟨fun _ => ⟨rfl, c2_refused 1 (by omega) (by omega) hC (fun M1 I1 F1 => ⟨trivial, ?_⟩)⟩, fun z => absurd rfl z⟩
    refine xgo [] 100 ⟨rfl, c3_isPerson p hn (hM.fc F1).1 (fun z => absurd z a) (fun _ => ?_)⟩
    exact ⟨fun _ => ⟨rfl, c3_no 1 (by omega) (by omega) (hM.fc F1) (fun M2 I2 F2 => ⟨trivial, hk _ M2 _ (I1.fm F2) I2 hV⟩)⟩, fun z => absurd rfl z⟩
theorem xlt6 (k : Int32) : (0 ≤ k ∧ k ≤ 5) ↔ (¬ k < 0 ∧ k < 6) := by
  constructor
  · rintro ⟨h1, h2⟩
    obtain ⟨u, hu', rfl⟩ := xrng (b := 5) (by omega) h1 h2
    exact ⟨Int32.not_lt.mpr h1, nI_lt (b := 6) (by omega) (by omega)⟩
  · rintro ⟨h1, h2⟩
    obtain ⟨u, hu', rfl⟩ := nI_of h1
    have := (nI_ltI (b := 6) (by omega) (by omega)).mp h2
    exact ⟨Int32.not_lt.mp h1, nI_le (b := 5) (by omega) (by omega)⟩
theorem j_turn (p k f : Int32) : xJt pg_X2_turn pg_X3_turn [some (xo (xN 0)), some (xi p), some (xi k), some (xi f), none, none] [some (xo (xN 2)), some (xi p), some (xi k), some (xi f), none, none] := by
  intro M s K hC hM hV hk
  have hn := hV.1.1.1
  refine xgo [] 200 ⟨rfl, c0_isThere p hC.1 (fun a => ?_) (fun a => ?_)⟩
  · obtain ⟨q, hq, rfl⟩ := xper hn a
    have no2 : ¬ (0 ≤ k ∧ k ≤ 5) → ∀ M1, xIc M1 (sRf s 2) → xFc M M1 → xWP pg_X3_turn 0 ([some (xo (xN 2)), some (xi (nI q)), some (xi k), some (xi f), none, none], [], M1) (fun v2 M2 => K (some (xi (-(nI 2)))) v2 M2) := by
      intro b M1 I1 F1
      refine xgo [] 100 ⟨rfl, c3_isPerson (nI q) hn (hM.fc F1).1 (fun _ => ?_) (fun z => absurd a z)⟩
      refine ⟨fun z => absurd z (by decide), fun _ => ⟨rfl, c3_isIn k 0 5 (fun z => absurd z b) (fun _ => ?_)⟩⟩
      exact ⟨fun _ => ⟨fun z => absurd z (by decide), fun _ => ⟨rfl, c3_no 2 (by omega) (by omega) (hM.fc F1) (fun M2 I2 F2 => ⟨trivial, hk _ M2 _ (I1.fm F2) I2 hV⟩)⟩⟩, fun z => absurd rfl z⟩
    refine ⟨fun z => absurd z (by decide), fun _ => ⟨fun b => ?_, fun b => ⟨fun b2 => ?_, fun b2 => ?_⟩⟩⟩
    · exact ⟨rfl, c2_refused 2 (by omega) (by omega) hC (fun M1 I1 F1 => ⟨trivial, no2 (fun z => absurd b (Int32.not_lt.mpr z.1)) M1 I1 F1⟩)⟩
    · have hb : 0 ≤ k ∧ k ≤ 5 := (xlt6 k).mpr ⟨b, b2⟩
      refine ⟨rfl, c2_rangeRefusal f 0 9 (fun c d => ?_) (fun c d => ?_) (fun c => ?_)⟩
      · refine ⟨fun _ => ⟨xin6 hq hn, xin6 hq hn, xin6 hq hn, xin6 hq hn, trivial, ?_⟩, fun z => absurd rfl z⟩
        rw [xcl hq hn, hC.1.a0 hq, hC.1.a1 hq]
        have hF : xfr 0 M (xup (xup M (xA 0 0) q k) (xA 1 0) q f) := (xfr.rf.ua 0 q k).ua 1 q f
        have hC1 := hC.nw hF ((hC.1.ua 0 q k).ua 1 q f)
        have hM1 := hM.fc hF.c
        generalize xup (xup M (xA 0 0) q k) (xA 1 0) q f = M1 at hF hC1 hM1
        refine xgo [] 200 ⟨rfl, c3_isPerson (nI q) hn hM1.1 (fun _ => ?_) (fun z => absurd a z)⟩
        refine ⟨fun z => absurd z (by decide), fun _ => ⟨rfl, c3_isIn k 0 5 (fun _ => ?_) (fun z => absurd hb z)⟩⟩
        refine ⟨fun z => absurd z (by decide), fun _ => ⟨rfl, c3_wrongBy f 0 9 (fun _ _ => ?_) (fun _ z => absurd d z) (fun z => absurd c z)⟩⟩
        refine ⟨fun _ => ⟨rfl, c3_of q 0 ⟨xof_in (by omega) (by omega), rfl, c3_of q 1 ⟨xof_in (by omega) (by omega), rfl, c3_of q 0 ⟨xof_in (by omega) (by omega), rfl, c3_of q 1 ⟨xof_in (by omega) (by omega), trivial, ?_⟩⟩⟩⟩⟩, fun z => absurd rfl z⟩
        rw [hM1.1.v hq hn 0 (by omega), hM1.1.v hq hn 1 (by omega), xof_cl (by omega) (by omega), xof_cl (by omega) (by omega)]
        have hF2 : xfw 0 M1 (xup (xup M1 (xW 0) (5 + 7 * q + 0) k) (xW 0) (5 + 7 * q + 1) f) := (xfw.rf.u _ _).u _ _
        exact hk _ _ _ (hC1.fm hF2.m) (hM1.nw hF2 ((hM1.1.uAr hq _ 0 0 (by omega)).uAr hq _ 1 1 (by omega))) ⟨aNow_ar (aNow_ar hV.1 (by omega) (aBd_kf hV.1.1 (by omega) _)) (by omega) (aBd_kf (aBd_kf hV.1.1 (by omega) _) (by omega) _), hV.2⟩
      · refine ⟨fun z => absurd z (by decide), fun _ => ⟨rfl, c2_refused 6 (by omega) (by omega) hC (fun M1 I1 F1 => ⟨trivial, ?_⟩)⟩⟩
        refine xgo [] 100 ⟨rfl, c3_isPerson (nI q) hn (hM.fc F1).1 (fun _ => ?_) (fun z => absurd a z)⟩
        refine ⟨fun z => absurd z (by decide), fun _ => ⟨rfl, c3_isIn k 0 5 (fun _ => ?_) (fun z => absurd hb z)⟩⟩
        refine ⟨fun z => absurd z (by decide), fun _ => ⟨rfl, c3_wrongBy f 0 9 (fun _ z => absurd z d) (fun _ _ => ?_) (fun z => absurd c z)⟩⟩
        exact ⟨fun z => absurd z (by decide), fun _ => ⟨rfl, c3_no 6 (by omega) (by omega) (hM.fc F1) (fun M2 I2 F2 => ⟨trivial, hk _ M2 _ (I1.fm F2) I2 hV⟩)⟩⟩
      · refine ⟨fun z => absurd z (by decide), fun _ => ⟨rfl, c2_refused 4 (by omega) (by omega) hC (fun M1 I1 F1 => ⟨trivial, ?_⟩)⟩⟩
        refine xgo [] 100 ⟨rfl, c3_isPerson (nI q) hn (hM.fc F1).1 (fun _ => ?_) (fun z => absurd a z)⟩
        refine ⟨fun z => absurd z (by decide), fun _ => ⟨rfl, c3_isIn k 0 5 (fun _ => ?_) (fun z => absurd hb z)⟩⟩
        refine ⟨fun z => absurd z (by decide), fun _ => ⟨rfl, c3_wrongBy f 0 9 (fun z => absurd z c) (fun z => absurd z c) (fun _ => ?_)⟩⟩
        exact ⟨fun z => absurd z (by decide), fun _ => ⟨rfl, c3_no 4 (by omega) (by omega) (hM.fc F1) (fun M2 I2 F2 => ⟨trivial, hk _ M2 _ (I1.fm F2) I2 hV⟩)⟩⟩
    · exact ⟨rfl, c2_refused 2 (by omega) (by omega) hC (fun M1 I1 F1 => ⟨trivial, no2 (fun z => b2 ((xlt6 k).mp z).2) M1 I1 F1⟩)⟩
  · refine ⟨fun _ => ⟨rfl, c2_refused 1 (by omega) (by omega) hC (fun M1 I1 F1 => ⟨trivial, ?_⟩)⟩, fun z => absurd rfl z⟩
    refine xgo [] 100 ⟨rfl, c3_isPerson p hn (hM.fc F1).1 (fun z => absurd z a) (fun _ => ?_)⟩
    exact ⟨fun _ => ⟨fun z => absurd z (by decide), fun _ => ⟨rfl, c3_no 1 (by omega) (by omega) (hM.fc F1) (fun M2 I2 F2 => ⟨trivial, hk _ M2 _ (I1.fm F2) I2 hV⟩)⟩⟩, fun z => absurd rfl z⟩
