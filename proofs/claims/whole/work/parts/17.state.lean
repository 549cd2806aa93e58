/-! ===== the whole state, of both ===== -/
abbrev xS : Type := (Nat × xh) × ((Bool × (Nat × xh)) × ((Nat × (Nat → Int32)) × ((Nat × (Nat → Int32)) × (Nat → Int32))))
abbrev sn (s : xS) : Nat := s.1.1
abbrev sh (s : xS) : xh := s.1.2
abbrev sk (s : xS) : Bool := s.2.1.1
abbrev sn2 (s : xS) : Nat := s.2.1.2.1
abbrev sh2 (s : xS) : xh := s.2.1.2.2
abbrev sL (s : xS) : Nat := s.2.2.1.1
abbrev sle (s : xS) : Nat → Int32 := s.2.2.1.2
abbrev sr (s : xS) : Nat := s.2.2.2.1.1
abbrev sro (s : xS) : Nat → Int32 := s.2.2.2.1.2
abbrev srf (s : xS) : Nat → Int32 := s.2.2.2.2
abbrev sH (s : xS) (n : Nat) (h : xh) : xS := ((n, h), s.2)
abbrev sRf (s : xS) (k : Nat) : xS := (s.1, s.2.1, s.2.2.1, s.2.2.2.1, upd (srf s) k (srf s k + 1))
abbrev sLt (s : xS) (L : Nat) (le : Nat → Int32) : xS := (s.1, s.2.1, (L, le), s.2.2.2)
abbrev sRo (s : xS) (r : Nat) (ro : Nat → Int32) : xS := (s.1, s.2.1, s.2.2.1, (r, ro), s.2.2.2.2)
abbrev sKp (s : xS) : xS := (s.1, (true, s.1), s.2.2)
def xfg (b : Bool) : Int32 := if b then 1 else 0
def xIc (M : xM) (s : xS) : Prop := xRc M 0 (sn s) (sh s) ∧ M (xN 0) 7 = xfg (sk s) ∧ (sk s = true → xRc M 2 (sn2 s) (sh2 s)) ∧ M (xN 1) 1 = nI (sL s) ∧ (∀ j, j < sL s → M (xN 3) j = sle s j) ∧ M (xN 0) 6 = nI (sr s) ∧ (∀ j, j < sr s → M (xN 4) j = sro s j) ∧ ∀ j, j < 7 → M (xN 5) j = srf s j
def xIm (M : xM) (s : xS) : Prop := xRm M 0 (sn s) (sh s) ∧ M (xN 2) 4 = xfg (sk s) ∧ (sk s = true → xRm M 2 (sn2 s) (sh2 s)) ∧ M (xN 2) 8 = nI (sL s) ∧ (∀ j, j < sL s → M (xN 6) j = sle s j) ∧ M (xN 2) 9 = nI (sr s) ∧ (∀ j, j < sr s → M (xN 7) j = sro s j) ∧ ∀ j, j < 7 → M (xN 8) j = srf s j
def xIv (s : xS) : Prop := aNow (sn s) (sh s) ∧ (sk s = true → aNow (sn2 s) (sh2 s)) ∧ sL s ≤ 96 ∧ (∀ j, j < sL s → ∃ c, c ≤ 255 ∧ sle s j = nI c) ∧ sr s ≤ 16
/-- whose is a cell: the class's -/
def xCc : xOb → Bool
  | .inl _ => true
  | .inr (.inl _) => true
  | .inr (.inr (.inl _)) => false
  | .inr (.inr (.inr n)) => match n with
    | 0 => true
    | 1 => true
    | 2 => false
    | 3 => true
    | 4 => true
    | 5 => true
    | _ => false
def xFc (M M' : xM) : Prop := ∀ o, xCc o = false → M' o = M o
def xFm (M M' : xM) : Prop := ∀ o, xCc o = true → M' o = M o
theorem xFc.rf {M : xM} : xFc M M := fun _ _ => rfl
theorem xFm.rf {M : xM} : xFm M M := fun _ _ => rfl
theorem xFc.tr {M M1 M2 : xM} (h1 : xFc M M1) (h2 : xFc M1 M2) : xFc M M2 := fun o ho => (h2 o ho).trans (h1 o ho)
theorem xFm.tr {M M1 M2 : xM} (h1 : xFm M M1) (h2 : xFm M1 M2) : xFm M M2 := fun o ho => (h2 o ho).trans (h1 o ho)
theorem xFc.u {M M1 : xM} (h : xFc M M1) (o : xOb) (ho : xCc o = true) (k : Nat) (v : Int32) : xFc M (xup M1 o k v) := fun o' ho' => by
  rw [xup_n (fun e => by rw [e, ho] at ho'; cases ho')]
  exact h o' ho'
theorem xFm.u {M M1 : xM} (h : xFm M M1) (o : xOb) (ho : xCc o = false) (k : Nat) (v : Int32) : xFm M (xup M1 o k v) := fun o' ho' => by
  rw [xup_n (fun e => by rw [e, ho] at ho'; cases ho')]
  exact h o' ho'
theorem xNh_c {i : Fin 3} {o : xOb} (h : xCc o = false) : xNh i o := ⟨fun e => (by rw [e] at h; cases h), fun k e => (by rw [e] at h; cases h)⟩
theorem xfr.c {i : Fin 3} {M M' : xM} (h : xfr i M M') : xFc M M' := fun o ho => h o (xNh_c ho)
theorem xfw.m {r : Fin 4} {M M' : xM} (h : xfw r M M') : xFm M M' := fun o ho => h o (fun e => by rw [e] at ho; cases ho)
theorem xNh_N {i : Fin 3} (k : Nat) : xNh i (xN k) := ⟨fun e => (by cases e), fun _ e => (by cases e)⟩
theorem xRm.fc {M M' : xM} {r : Fin 4} {n : Nat} {h : xh} (hR : xRm M r n h) (hF : xFc M M') : xRm M' r n h :=
  ⟨fun k hk => by rw [hF _ rfl]; exact hR.1 k hk, fun p hp w hw => by rw [hF _ rfl]; exact hR.2 p hp w hw⟩
theorem xRc.fm {M M' : xM} {i : Fin 3} {n : Nat} {h : xh} (hR : xRc M i n h) (hF : xFm M M') : xRc M' i n h :=
  ⟨by rw [hF _ rfl]; exact hR.1, fun k a b => by rw [hF _ rfl]; exact hR.2.1 k a b, fun k p hp => by rw [hF _ rfl]; exact hR.2.2 k p hp⟩
theorem xIm.fc {M M' : xM} {s : xS} (hI : xIm M s) (hF : xFc M M') : xIm M' s := by
  obtain ⟨h1, h2, h3, h4, h5, h6, h7, h8⟩ := hI
  exact ⟨h1.fc hF, by rw [hF _ rfl]; exact h2, fun e => (h3 e).fc hF, by rw [hF _ rfl]; exact h4, fun j hj => by rw [hF _ rfl]; exact h5 j hj, by rw [hF _ rfl]; exact h6, fun j hj => by rw [hF _ rfl]; exact h7 j hj, fun j hj => by rw [hF _ rfl]; exact h8 j hj⟩
theorem xIc.fm {M M' : xM} {s : xS} (hI : xIc M s) (hF : xFm M M') : xIc M' s := by
  obtain ⟨h1, h2, h3, h4, h5, h6, h7, h8⟩ := hI
  exact ⟨h1.fm hF, by rw [hF _ rfl]; exact h2, fun e => (h3 e).fm hF, by rw [hF _ rfl]; exact h4, fun j hj => by rw [hF _ rfl]; exact h5 j hj, by rw [hF _ rfl]; exact h6, fun j hj => by rw [hF _ rfl]; exact h7 j hj, fun j hj => by rw [hF _ rfl]; exact h8 j hj⟩
/-- only the thought hill has changed -/
theorem xIc.th {M M' : xM} {s : xS} (hI : xIc M s) (hF : xfr 1 M M') : xIc M' s := by
  obtain ⟨h1, h2, h3, h4, h5, h6, h7, h8⟩ := hI
  exact ⟨h1.fr hF (by decide), by rw [hF _ (xNh_N _)]; exact h2, fun e => (h3 e).fr hF (by decide), by rw [hF _ (xNh_N _)]; exact h4, fun j hj => by rw [hF _ (xNh_N _)]; exact h5 j hj, by rw [hF _ (xNh_N _)]; exact h6, fun j hj => by rw [hF _ (xNh_N _)]; exact h7 j hj, fun j hj => by rw [hF _ (xNh_N _)]; exact h8 j hj⟩
theorem xIc.nw {M M' : xM} {s : xS} (hI : xIc M s) (hF : xfr 0 M M') {n : Nat} {h : xh} (hR : xRc M' 0 n h) : xIc M' (sH s n h) := by
  obtain ⟨h1, h2, h3, h4, h5, h6, h7, h8⟩ := hI
  exact ⟨hR, by rw [hF _ (xNh_N _)]; exact h2, fun e => (h3 e).fr hF (by decide), by rw [hF _ (xNh_N _)]; exact h4, fun j hj => by rw [hF _ (xNh_N _)]; exact h5 j hj, by rw [hF _ (xNh_N _)]; exact h6, fun j hj => by rw [hF _ (xNh_N _)]; exact h7 j hj, fun j hj => by rw [hF _ (xNh_N _)]; exact h8 j hj⟩
theorem xWN {r : Fin 4} (k : Nat) : xN k ≠ xW r := fun e => by cases e
theorem xIm.th {M M' : xM} {s : xS} (hI : xIm M s) (hF : xfw 1 M M') : xIm M' s := by
  obtain ⟨h1, h2, h3, h4, h5, h6, h7, h8⟩ := hI
  exact ⟨h1.fr hF (by decide), by rw [hF _ (xWN _)]; exact h2, fun e => (h3 e).fr hF (by decide), by rw [hF _ (xWN _)]; exact h4, fun j hj => by rw [hF _ (xWN _)]; exact h5 j hj, by rw [hF _ (xWN _)]; exact h6, fun j hj => by rw [hF _ (xWN _)]; exact h7 j hj, fun j hj => by rw [hF _ (xWN _)]; exact h8 j hj⟩
theorem xIm.nw {M M' : xM} {s : xS} (hI : xIm M s) (hF : xfw 0 M M') {n : Nat} {h : xh} (hR : xRm M' 0 n h) : xIm M' (sH s n h) := by
  obtain ⟨h1, h2, h3, h4, h5, h6, h7, h8⟩ := hI
  exact ⟨hR, by rw [hF _ (xWN _)]; exact h2, fun e => (h3 e).fr hF (by decide), by rw [hF _ (xWN _)]; exact h4, fun j hj => by rw [hF _ (xWN _)]; exact h5 j hj, by rw [hF _ (xWN _)]; exact h6, fun j hj => by rw [hF _ (xWN _)]; exact h7 j hj, fun j hj => by rw [hF _ (xWN _)]; exact h8 j hj⟩
/-- the two, one behind the other -/
def xnr : xV → Bool
  | .inl _ => true
  | _ => false
def xnl : xV → Bool
  | .inr (.inl _) => true
  | _ => false
def xJt (pc pm : Nat → xI) (lc lm : List (Option xV)) : Prop := ∀ (M : xM) (s : xS) (K : Option xV → Option xV → xM → Prop), xIc M s → xIm M s → xIv s → (∀ v M' s', xIc M' s' → xIm M' s' → xIv s' → (h : xnr v = true := by rfl) → K (some v) (some v) M') → xWP pc 0 (lc, [], M) (fun v1 M1 => xWP pm 0 (lm, [], M1) (fun v2 M2 => K v1 v2 M2))
def xJl (pc pm : Nat → xI) (lc lm : List (Option xV)) : Prop := ∀ (M : xM) (s : xS) (K : Option xV → Option xV → xM → Prop), xIc M s → xIm M s → xIv s → (∀ v M' s', xIc M' s' → xIm M' s' → xIv s' → (h : xnl v = true := by rfl) → K (some v) (some v) M') → xWP pc 0 (lc, [], M) (fun v1 M1 => xWP pm 0 (lm, [], M1) (fun v2 M2 => K v1 v2 M2))
/-! refusals -/
section XRF
variable {M : xM} {s : xS} {R : xR}
theorem xng : ∀ k, 1 ≤ k → k ≤ 6 → ¬ (0 : Int32) ≤ -(nI k) ∧ ¬ -(nI k) < (-6 : Int32) ∧ - -(nI k) = nI k := by
  intro k h1 h2
  have hk : k = 1 ∨ k = 2 ∨ k = 3 ∨ k = 4 ∨ k = 5 ∨ k = 6 := by omega
  rcases hk with rfl | rfl | rfl | rfl | rfl | rfl <;> decide
theorem xrf_ok {g f : Nat → Int32} (H : ∀ j, j < 7 → g j = f j) (k : Nat) (hk : k < 7) : ∀ j, j < 7 → upd g k (g k + 1) j = upd f k (f k + 1) j := fun j hj => by
  by_cases e : j = k
  · subst e; rw [upd_s, upd_s, H j hj]
  · rw [upd_n _ e, upd_n _ e]; exact H j hj
theorem c2_refused (k : Nat) (h1 : 1 ≤ k) (h6 : k ≤ 6) (hI : xIc M s) (hk : ∀ M', xIc M' (sRf s k) → xFc M M' → R (some (xi (-(nI k)))) M') : xWP pg_X2_refused 0 ([some (xo (xN 0)), some (xi (-(nI k)))], [], M) R := by
  obtain ⟨e1, e2, e3⟩ := xng k h1 h6
  refine xgo [21] 100 ⟨fun c => absurd c e1, fun _ => ⟨fun c => absurd c e2, fun _ => ?_⟩⟩
  have hc : (nI k).toNatClampNeg = k := nI_clamp (by omega)
  have hin : vp_in (nI k) 7 := vp_in_nI (by omega) (by omega)
  show vp_in (- -(nI k)) 7 ∧ _
  rw [e3]
  refine ⟨hin, hin, ?_⟩
  show xWP pg_X2_refused 21 ([some (xo (xN 0)), some (xi (-(nI k)))], [], xup M (xN 5) (nI k).toNatClampNeg (M (xN 5) (nI k).toNatClampNeg + 1)) R
  rw [hc]
  refine xgo [] 100 ⟨trivial, hk _ ?_ (xFc.rf.u _ rfl _ _)⟩
  obtain ⟨a1, a2, a3, a4, a5, a6, a7, a8⟩ := hI
  have ne : ∀ j, j ≠ 5 → xN j ≠ xN 5 := fun j hj e => hj (Sum.inr.inj (Sum.inr.inj (Sum.inr.inj e)))
  have nH : ∀ i, xH i ≠ xN 5 := fun i e => (by cases e)
  have nA : ∀ a i, xA a i ≠ xN 5 := fun a i e => (by cases e)
  have rc : ∀ {i n h}, xRc M i n h → xRc (xup M (xN 5) k (M (xN 5) k + 1)) i n h := fun H => ⟨by rw [xup_n (nH _)]; exact H.1, fun j x y => by rw [xup_n (nH _)]; exact H.2.1 j x y, fun a p hp => by rw [xup_n (nA _ _)]; exact H.2.2 a p hp⟩
  refine ⟨rc a1, by rw [xup_n (ne _ (by omega))]; exact a2, fun e => rc (a3 e), by rw [xup_n (ne _ (by omega))]; exact a4, fun j hj => by rw [xup_n (ne _ (by omega))]; exact a5 j hj, by rw [xup_n (ne _ (by omega))]; exact a6, fun j hj => by rw [xup_n (ne _ (by omega))]; exact a7 j hj, ?_⟩
  rw [xup_s]
  exact xrf_ok a8 k (by omega)
theorem c3_no (k : Nat) (h1 : 1 ≤ k) (h6 : k ≤ 6) (hI : xIm M s) (hk : ∀ M', xIm M' (sRf s k) → xFm M M' → R (some (xi (-(nI k)))) M') : xWP pg_X3_no 0 ([some (xo (xN 2)), some (xi (-(nI k)))], [], M) R := by
  obtain ⟨-, -, e3⟩ := xng k h1 h6
  have hc : (nI k).toNatClampNeg = k := nI_clamp (by omega)
  have hin : vp_in (nI k) 7 := vp_in_nI (by omega) (by omega)
  refine xgo [] 100 ?_
  show vp_in (- -(nI k)) 7 ∧ _
  rw [e3]
  refine ⟨hin, hin, trivial, ?_⟩
  rw [hc]
  refine hk _ ?_ (xFm.rf.u _ rfl _ _)
  obtain ⟨a1, a2, a3, a4, a5, a6, a7, a8⟩ := hI
  have ne : ∀ j, j ≠ 8 → xN j ≠ xN 8 := fun j hj e => hj (Sum.inr.inj (Sum.inr.inj (Sum.inr.inj e)))
  have nW : ∀ r, xW r ≠ xN 8 := fun r e => (by cases e)
  have rm : ∀ {r n h}, xRm M r n h → xRm (xup M (xN 8) k (M (xN 8) k + 1)) r n h := fun H => ⟨fun j x => by rw [xup_n (nW _)]; exact H.1 j x, fun p hp w hw => by rw [xup_n (nW _)]; exact H.2 p hp w hw⟩
  refine ⟨rm a1, by rw [xup_n (ne _ (by omega))]; exact a2, fun e => rm (a3 e), by rw [xup_n (ne _ (by omega))]; exact a4, fun j hj => by rw [xup_n (ne _ (by omega))]; exact a5 j hj, by rw [xup_n (ne _ (by omega))]; exact a6, fun j hj => by rw [xup_n (ne _ (by omega))]; exact a7 j hj, ?_⟩
  rw [xup_s]
  exact xrf_ok a8 k (by omega)
theorem c2_rangeRefusal (v a b : Int32) (h0 : a ≤ v → v ≤ b → R (some (xi 0)) M) (h6 : a ≤ v → ¬ v ≤ b → R (some (xi (-6))) M) (h4 : ¬ a ≤ v → R (some (xi (-4))) M) : xWP pg_X2_rangeRefusal 0 ([some (xi v), some (xi a), some (xi b)], [], M) R :=
  xgo [] 100 ⟨fun c => ⟨fun c2 => ⟨trivial, h0 c c2⟩, fun c2 => ⟨trivial, h6 c c2⟩⟩, fun c => ⟨trivial, h4 c⟩⟩
theorem c3_wrongBy (v a b : Int32) (h0 : a ≤ v → v ≤ b → R (some (xi 0)) M) (h6 : a ≤ v → ¬ v ≤ b → R (some (xi (-6))) M) (h4 : ¬ a ≤ v → R (some (xi (-4))) M) : xWP pg_X3_wrongBy 0 ([some (xi v), some (xi a), some (xi b)], [], M) R :=
  xgo [] 100 ⟨fun c => ⟨fun c2 => ⟨trivial, h0 c c2⟩, fun c2 => ⟨trivial, h6 c c2⟩⟩, fun c => ⟨trivial, h4 c⟩⟩
theorem c2_whatRefusal (v b : Int32) (h0 : 0 ≤ v → v ≤ b → R (some (xi 0)) M) (h2 : ¬ (0 ≤ v ∧ v ≤ b) → R (some (xi (-2))) M) : xWP pg_X2_whatRefusal 0 ([some (xi v), some (xi b)], [], M) R :=
  xgo [] 100 ⟨fun c => ⟨trivial, h2 (fun z => absurd c (Int32.not_lt.mpr z.1))⟩, fun c => ⟨fun c2 => ⟨trivial, h0 (Int32.not_lt.mp c) c2⟩, fun c2 => ⟨trivial, h2 (fun z => c2 z.2)⟩⟩⟩
/-- a person who is there, as a number -/
theorem xper {p : Int32} {n : Nat} (hn : n ≤ 6) (h : 0 ≤ p ∧ p < nI n) : ∃ q, q < n ∧ p = nI q := by
  obtain ⟨q, hq, rfl⟩ := nI_of (Int32.not_lt.mpr h.1)
  exact ⟨q, (nI_ltI (by omega) (by omega)).mp h.2, rfl⟩
theorem xrng {v : Int32} {b : Nat} (hb : b < 2 ^ 31) (h1 : 0 ≤ v) (h2 : v ≤ nI b) : ∃ q, q ≤ b ∧ v = nI q := by
  obtain ⟨q, hq, rfl⟩ := nI_of (Int32.not_lt.mpr h1)
  exact ⟨q, (nI_leI (by omega) (by omega)).mp h2, rfl⟩
theorem c2_oneRefusal (p v b : Int32) {n : Nat} {h : xh} (hR : xRc M 0 n h) (h1 : ¬ (0 ≤ p ∧ p < nI n) → R (some (xi (-1))) M) (h0 : 0 ≤ p ∧ p < nI n → 0 ≤ v → v ≤ b → R (some (xi 0)) M) (h6 : 0 ≤ p ∧ p < nI n → 0 ≤ v → ¬ v ≤ b → R (some (xi (-6))) M) (h4 : 0 ≤ p ∧ p < nI n → ¬ 0 ≤ v → R (some (xi (-4))) M) : xWP pg_X2_oneRefusal 0 ([some (xo (xN 0)), some (xi p), some (xi v), some (xi b)], [], M) R := by
  refine xgo [] 100 ⟨rfl, c0_isThere p hR (fun q => ?_) (fun q => ?_)⟩
  · exact ⟨fun z => absurd z (by decide), fun _ => ⟨rfl, c2_rangeRefusal v 0 b (fun a c => ⟨trivial, h0 q a c⟩) (fun a c => ⟨trivial, h6 q a c⟩) (fun a => ⟨trivial, h4 q a⟩)⟩⟩
  · exact ⟨fun _ => ⟨trivial, h1 q⟩, fun z => absurd rfl z⟩
theorem xle_pred (p : Int32) {n : Nat} (hn : n ≤ 6) : (0 ≤ p ∧ p ≤ nI n - 1) ↔ (0 ≤ p ∧ p < nI n) := by
  constructor
  · rintro ⟨h1, h2⟩
    refine ⟨h1, ?_⟩
    obtain ⟨q, hq, rfl⟩ := nI_of (Int32.not_lt.mpr h1)
    by_cases h0 : n = 0
    · subst h0
      exact absurd (Int32.le_trans h1 h2) (by decide)
    · have : nI n - 1 = nI (n - 1) := pk_sub (b := 1) (by omega)
      rw [this] at h2
      have := (nI_leI (by omega) (by omega)).mp h2
      exact nI_lt (by omega) (by omega)
  · rintro ⟨h1, h2⟩
    refine ⟨h1, ?_⟩
    obtain ⟨q, hq, rfl⟩ := xper hn ⟨h1, h2⟩
    have : nI n - 1 = nI (n - 1) := pk_sub (b := 1) (by omega)
    rw [this]
    exact nI_le (by omega) (by omega)
theorem c3_isPerson (p : Int32) {n : Nat} {h : xh} (hn : n ≤ 6) (hR : xRm M 0 n h) (h1 : 0 ≤ p ∧ p < nI n → R (some (xi 1)) M) (h2 : ¬ (0 ≤ p ∧ p < nI n) → R (some (xi 0)) M) : xWP pg_X3_isPerson 0 ([some (xo (xN 2)), some (xi p)], [], M) R := by
  refine xgo [] 100 ⟨xin47 (k := 0) (by omega), rfl, ?_⟩
  rw [hR.g0]
  refine c3_isIn p 0 (nI n - 1) (fun q => ⟨Or.inr rfl, h1 ((xle_pred p hn).mp q)⟩) (fun q => ⟨Or.inl rfl, h2 (fun z => q ((xle_pred p hn).mpr z))⟩)
end XRF
