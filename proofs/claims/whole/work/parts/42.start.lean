/-! ===== the law from its entry ===== -/
def xtm (i : Nat) : Term := Term.string RX1 ((xtx.getD i (0, "")).1)
theorem xfl_s {b : Nat} {s : State} (hgv : (Jvm.Cond.and given_1 narrow_1).before #[Value.ref b] s = true) {c : Cond} (h : c ∈ flatC (Jvm.Cond.and given_1 narrow_1)) : c.before #[Value.ref b] s = true := flat_of_before _ hgv c h
set_option maxHeartbeats 4000000 in
set_option maxRecDepth 100000 in
theorem xstr0 {b : Nat} {s : State} (hgv : (Jvm.Cond.and given_1 narrow_1).before #[Value.ref b] s = true) : ∃ adK adV : Nat → Nat, vk_S 6 xlen xbyt adK adV (fun q => s.heap.size ≤ q) s s.heap ∧ ∀ i : Nat, i < 6 → (xtm i).eval #[Value.ref b] s none [] s = some (.ref (adK i)) := by
  refine vk_Sof (tm := xtm) (fun i hi => ?_) (fun i hi => ?_) (fun i hi => ?_) (fun i hi => ?_) (fun i hi => ?_) (fun i hi j hj => ?_) (fun i j hi hj hij => ?_) (fun a h => Nat.not_le.mpr h)
  · have : ∀ i, i < 6 → xlen.getD i 0 < 2 ^ 31 := by decide +kernel
    exact this i hi
  · have h : i = 0 ∨ i = 1 ∨ i = 2 ∨ i = 3 ∨ i = 4 ∨ i = 5 := by omega
    rcases h with rfl | rfl | rfl | rfl | rfl | rfl
    · exact xfl_s hgv (by decide +kernel)
    · exact xfl_s hgv (by decide +kernel)
    · exact xfl_s hgv (by decide +kernel)
    · exact xfl_s hgv (by decide +kernel)
    · exact xfl_s hgv (by decide +kernel)
    · exact xfl_s hgv (by decide +kernel)
  · have h : i = 0 ∨ i = 1 ∨ i = 2 ∨ i = 3 ∨ i = 4 ∨ i = 5 := by omega
    rcases h with rfl | rfl | rfl | rfl | rfl | rfl
    · exact xfl_s hgv (by decide +kernel)
    · exact xfl_s hgv (by decide +kernel)
    · exact xfl_s hgv (by decide +kernel)
    · exact xfl_s hgv (by decide +kernel)
    · exact xfl_s hgv (by decide +kernel)
    · exact xfl_s hgv (by decide +kernel)
  · have h : i = 0 ∨ i = 1 ∨ i = 2 ∨ i = 3 ∨ i = 4 ∨ i = 5 := by omega
    rcases h with rfl | rfl | rfl | rfl | rfl | rfl
    · exact xfl_s hgv (by decide +kernel)
    · exact xfl_s hgv (by decide +kernel)
    · exact xfl_s hgv (by decide +kernel)
    · exact xfl_s hgv (by decide +kernel)
    · exact xfl_s hgv (by decide +kernel)
    · exact xfl_s hgv (by decide +kernel)
  · have h : i = 0 ∨ i = 1 ∨ i = 2 ∨ i = 3 ∨ i = 4 ∨ i = 5 := by omega
    rcases h with rfl | rfl | rfl | rfl | rfl | rfl
    · exact xfl_s hgv (by decide +kernel)
    · exact xfl_s hgv (by decide +kernel)
    · exact xfl_s hgv (by decide +kernel)
    · exact xfl_s hgv (by decide +kernel)
    · exact xfl_s hgv (by decide +kernel)
    · exact xfl_s hgv (by decide +kernel)
  · have h : i = 0 ∨ i = 1 ∨ i = 2 ∨ i = 3 ∨ i = 4 ∨ i = 5 := by omega
    rcases h with rfl | rfl | rfl | rfl | rfl | rfl
    · have h : j = 0 ∨ j = 1 ∨ j = 2 ∨ j = 3 := by
        have : j < 4 := hj
        omega
      rcases h with rfl | rfl | rfl | rfl
      · exact xfl_s hgv (by decide +kernel)
      · exact xfl_s hgv (by decide +kernel)
      · exact xfl_s hgv (by decide +kernel)
      · exact xfl_s hgv (by decide +kernel)
    · have h : j = 0 ∨ j = 1 ∨ j = 2 := by
        have : j < 3 := hj
        omega
      rcases h with rfl | rfl | rfl
      · exact xfl_s hgv (by decide +kernel)
      · exact xfl_s hgv (by decide +kernel)
      · exact xfl_s hgv (by decide +kernel)
    · have h : j = 0 ∨ j = 1 ∨ j = 2 ∨ j = 3 := by
        have : j < 4 := hj
        omega
      rcases h with rfl | rfl | rfl | rfl
      · exact xfl_s hgv (by decide +kernel)
      · exact xfl_s hgv (by decide +kernel)
      · exact xfl_s hgv (by decide +kernel)
      · exact xfl_s hgv (by decide +kernel)
    · have h : j = 0 ∨ j = 1 := by
        have : j < 2 := hj
        omega
      rcases h with rfl | rfl
      · exact xfl_s hgv (by decide +kernel)
      · exact xfl_s hgv (by decide +kernel)
    · exact absurd hj (Nat.not_lt_zero j)
    · have h : j = 0 ∨ j = 1 ∨ j = 2 ∨ j = 3 ∨ j = 4 ∨ j = 5 := by
        have : j < 6 := hj
        omega
      rcases h with rfl | rfl | rfl | rfl | rfl | rfl
      · exact xfl_s hgv (by decide +kernel)
      · exact xfl_s hgv (by decide +kernel)
      · exact xfl_s hgv (by decide +kernel)
      · exact xfl_s hgv (by decide +kernel)
      · exact xfl_s hgv (by decide +kernel)
      · exact xfl_s hgv (by decide +kernel)
  · have h : i = 0 ∨ i = 1 ∨ i = 2 ∨ i = 3 ∨ i = 4 ∨ i = 5 := by omega
    rcases h with rfl | rfl | rfl | rfl | rfl | rfl <;> (have h : j = 0 ∨ j = 1 ∨ j = 2 ∨ j = 3 ∨ j = 4 ∨ j = 5 := by omega) <;> rcases h with rfl | rfl | rfl | rfl | rfl | rfl
    · exact absurd rfl hij
    · exact Or.inl (xfl_s hgv (by decide +kernel))
    · exact Or.inl (xfl_s hgv (by decide +kernel))
    · exact Or.inl (xfl_s hgv (by decide +kernel))
    · exact Or.inl (xfl_s hgv (by decide +kernel))
    · exact Or.inl (xfl_s hgv (by decide +kernel))
    · exact Or.inr (xfl_s hgv (by decide +kernel))
    · exact absurd rfl hij
    · exact Or.inl (xfl_s hgv (by decide +kernel))
    · exact Or.inl (xfl_s hgv (by decide +kernel))
    · exact Or.inl (xfl_s hgv (by decide +kernel))
    · exact Or.inl (xfl_s hgv (by decide +kernel))
    · exact Or.inr (xfl_s hgv (by decide +kernel))
    · exact Or.inr (xfl_s hgv (by decide +kernel))
    · exact absurd rfl hij
    · exact Or.inl (xfl_s hgv (by decide +kernel))
    · exact Or.inl (xfl_s hgv (by decide +kernel))
    · exact Or.inl (xfl_s hgv (by decide +kernel))
    · exact Or.inr (xfl_s hgv (by decide +kernel))
    · exact Or.inr (xfl_s hgv (by decide +kernel))
    · exact Or.inr (xfl_s hgv (by decide +kernel))
    · exact absurd rfl hij
    · exact Or.inl (xfl_s hgv (by decide +kernel))
    · exact Or.inl (xfl_s hgv (by decide +kernel))
    · exact Or.inr (xfl_s hgv (by decide +kernel))
    · exact Or.inr (xfl_s hgv (by decide +kernel))
    · exact Or.inr (xfl_s hgv (by decide +kernel))
    · exact Or.inr (xfl_s hgv (by decide +kernel))
    · exact absurd rfl hij
    · exact Or.inl (xfl_s hgv (by decide +kernel))
    · exact Or.inr (xfl_s hgv (by decide +kernel))
    · exact Or.inr (xfl_s hgv (by decide +kernel))
    · exact Or.inr (xfl_s hgv (by decide +kernel))
    · exact Or.inr (xfl_s hgv (by decide +kernel))
    · exact Or.inr (xfl_s hgv (by decide +kernel))
    · exact absurd rfl hij
def xadr (qs : List Nat) (b : Nat) (adK adV : Nat → Nat) : xOb → Nat := fun o => if xix o = 121 then b else if 42 ≤ xix o ∧ xix o < 48 then adK (xix o - 42) else if 62 ≤ xix o ∧ xix o < 68 then adV (xix o - 62) else qs.getD (xix o) 0
def xM0 : xM := fun o => match o with
  | .inl _ => fun k => if k = 6 then 20 else if k = 7 then 10 else 0
  | .inr (.inl _) => fun _ => 0
  | .inr (.inr (.inl r)) => if r.val = 0 then upd (upd (fun _ => 0) 2 20) 3 10 else fun _ => 0
  | .inr (.inr (.inr _)) => fun _ => 0
def xh0 : xh := fun j k => if j = 5 then (if k = 6 then 20 else if k = 7 then 10 else 0) else 0
def xs0 : xS := ((0, xh0), (false, (0, xh0)), (0, fun _ => 0), (0, fun _ => 0), fun _ => 0)
theorem xI0 : xIc xM0 xs0 ∧ xIm xM0 xs0 ∧ xIv xs0 := by
  refine ⟨⟨⟨rfl, fun k h1 h2 => ?_, fun k p hp => absurd hp (Nat.not_lt_zero p)⟩, rfl, fun e => (by cases e), rfl, fun j hj => absurd hj (Nat.not_lt_zero j), rfl, fun j hj => absurd hj (Nat.not_lt_zero j), fun j hj => rfl⟩, ⟨⟨fun k hk => ?_, fun p hp => absurd hp (Nat.not_lt_zero p)⟩, rfl, fun e => (by cases e), rfl, fun j hj => absurd hj (Nat.not_lt_zero j), rfl, fun j hj => absurd hj (Nat.not_lt_zero j), fun j hj => rfl⟩, ⟨⟨Nat.zero_le _, ⟨20, by omega, rfl⟩, ⟨10, by omega, rfl⟩, fun p hp => absurd hp (Nat.not_lt_zero p)⟩, ⟨0, by omega, rfl⟩, ⟨⟨0, by decide, rfl⟩, 0, by decide, rfl⟩, rfl⟩, fun e => (by cases e), Nat.zero_le _, fun j hj => absurd hj (Nat.not_lt_zero j), Nat.zero_le _⟩
  · rfl
  · rcases xw5 hk with rfl | rfl | rfl | rfl | rfl <;> rfl
theorem xJ_of {A : Nat → Prop} {ad : xOb → Nat} {cA : ClassId} {M : xM} (h : va_D A (xwd ad cA M)) : xJ ad ∧ ∀ q, xAd ad q → A q := by
  have at_ : ∀ i o, xobs[i]? = some o → (xwd ad cA M)[i]? = some (ad o, xen ad cA o (M o)) := fun i o ho => by
    unfold xwd
    rw [List.getElem?_map, ho]
    rfl
  refine ⟨fun i j o o' hi hj e => h.1 i j _ _ (at_ i o hi) (at_ j o' hj) e, fun q hq => ?_⟩
  obtain ⟨j, o, hj, rfl⟩ := hq
  exact h.2 j _ (at_ j o hj)
set_option maxHeartbeats 8000000 in
set_option maxRecDepth 100000 in
theorem law_enter {p : Program} {e : Env} {s : State} {m : MethodId} {below : List Frame} {meth : Method} {c : Code} (l : Launch) {b L : Nat} {xs : Nat → Int32} (hL : L ≤ 3072) (C0 : lw_At p s m meth c b L xs) {D : va_G} {cA : ClassId} (hK : va_K D vwCl [(cA, .int)] s) {H : Heap} {locs : List Loc} {ls : Array Slot} (a0 a1 a2 a3 a4 a5 a6 a7 a8 a9 a10 a11 a12 a13 a14 a15 a16 a17 a18 a19 a20 a21 a22 a23 a24 a25 a26 a27 a28 a29 a30 a31 : Nat)
    (hP : va_P D vwCl [(a0, .inr (2, [.ref a1, .ref a7, .ref a13, .ref a19, .ref a21, .ref a22, .int 0, .int 0])), (a1, .inr (0, [.ref a2, .ref a3, .ref a4, .ref a5, .ref a6, .int 0, .int 20, .int 10, .int 0, .int 0, .int 0, .int 0])), (a2, .inl (cA, 6, .inl (fun _ => 0))), (a3, .inl (cA, 6, .inl (fun _ => 0))), (a4, .inl (cA, 6, .inl (fun _ => 0))), (a5, .inl (cA, 6, .inl (fun _ => 0))), (a6, .inl (cA, 6, .inl (fun _ => 0))), (a7, .inr (0, [.ref a8, .ref a9, .ref a10, .ref a11, .ref a12, .int 0, .int 20, .int 10, .int 0, .int 0, .int 0, .int 0])), (a8, .inl (cA, 6, .inl (fun _ => 0))), (a9, .inl (cA, 6, .inl (fun _ => 0))), (a10, .inl (cA, 6, .inl (fun _ => 0))), (a11, .inl (cA, 6, .inl (fun _ => 0))), (a12, .inl (cA, 6, .inl (fun _ => 0))), (a13, .inr (0, [.ref a14, .ref a15, .ref a16, .ref a17, .ref a18, .int 0, .int 20, .int 10, .int 0, .int 0, .int 0, .int 0])), (a14, .inl (cA, 6, .inl (fun _ => 0))), (a15, .inl (cA, 6, .inl (fun _ => 0))), (a16, .inl (cA, 6, .inl (fun _ => 0))), (a17, .inl (cA, 6, .inl (fun _ => 0))), (a18, .inl (cA, 6, .inl (fun _ => 0))), (a19, .inr (1, [.ref a20, .int 0])), (a20, .inl (cA, 96, .inl (fun _ => 0))), (a21, .inl (cA, 16, .inl (fun _ => 0))), (a22, .inl (cA, 7, .inl (fun _ => 0))), (a23, .inr (3, [.ref a24, .ref a25, .ref a26, .ref a27, .int 0, .ref a28, .ref a29, .ref a30, .int 0, .int 0, .int 0, .ref a31, .int 0])), (a24, .inl (cA, 47, .inl (upd (upd (fun _ => 0) 2 20) 3 10))), (a25, .inl (cA, 47, .inl (fun _ => 0))), (a26, .inl (cA, 47, .inl (fun _ => 0))), (a27, .inl (cA, 47, .inl (fun _ => 0))), (a28, .inl (cA, 96, .inl (fun _ => 0))), (a29, .inl (cA, 16, .inl (fun _ => 0))), (a30, .inl (cA, 7, .inl (fun _ => 0))), (a31, .inl (cA, 3, .inl (fun _ => 0)))] H) (hD : va_D (fun q : Nat => s.heap.size ≤ q) [(a0, .inr (2, [.ref a1, .ref a7, .ref a13, .ref a19, .ref a21, .ref a22, .int 0, .int 0])), (a1, .inr (0, [.ref a2, .ref a3, .ref a4, .ref a5, .ref a6, .int 0, .int 20, .int 10, .int 0, .int 0, .int 0, .int 0])), (a2, .inl (cA, 6, .inl (fun _ => 0))), (a3, .inl (cA, 6, .inl (fun _ => 0))), (a4, .inl (cA, 6, .inl (fun _ => 0))), (a5, .inl (cA, 6, .inl (fun _ => 0))), (a6, .inl (cA, 6, .inl (fun _ => 0))), (a7, .inr (0, [.ref a8, .ref a9, .ref a10, .ref a11, .ref a12, .int 0, .int 20, .int 10, .int 0, .int 0, .int 0, .int 0])), (a8, .inl (cA, 6, .inl (fun _ => 0))), (a9, .inl (cA, 6, .inl (fun _ => 0))), (a10, .inl (cA, 6, .inl (fun _ => 0))), (a11, .inl (cA, 6, .inl (fun _ => 0))), (a12, .inl (cA, 6, .inl (fun _ => 0))), (a13, .inr (0, [.ref a14, .ref a15, .ref a16, .ref a17, .ref a18, .int 0, .int 20, .int 10, .int 0, .int 0, .int 0, .int 0])), (a14, .inl (cA, 6, .inl (fun _ => 0))), (a15, .inl (cA, 6, .inl (fun _ => 0))), (a16, .inl (cA, 6, .inl (fun _ => 0))), (a17, .inl (cA, 6, .inl (fun _ => 0))), (a18, .inl (cA, 6, .inl (fun _ => 0))), (a19, .inr (1, [.ref a20, .int 0])), (a20, .inl (cA, 96, .inl (fun _ => 0))), (a21, .inl (cA, 16, .inl (fun _ => 0))), (a22, .inl (cA, 7, .inl (fun _ => 0))), (a23, .inr (3, [.ref a24, .ref a25, .ref a26, .ref a27, .int 0, .ref a28, .ref a29, .ref a30, .int 0, .int 0, .int 0, .ref a31, .int 0])), (a24, .inl (cA, 47, .inl (upd (upd (fun _ => 0) 2 20) 3 10))), (a25, .inl (cA, 47, .inl (fun _ => 0))), (a26, .inl (cA, 47, .inl (fun _ => 0))), (a27, .inl (cA, 47, .inl (fun _ => 0))), (a28, .inl (cA, 96, .inl (fun _ => 0))), (a29, .inl (cA, 16, .inl (fun _ => 0))), (a30, .inl (cA, 7, .inl (fun _ => 0))), (a31, .inl (cA, 3, .inl (fun _ => 0)))]) (hS : va_S (fun q : Nat => s.heap.size ≤ q) s.heap H locs) (hl : lv_has ls 4 [(3, .int 0), (2, .ref a23), (1, .ref a0), (0, .ref b)]) : W p l e room_1 s m #[Value.ref b] below meth c H locs 32 578 (lw_Z below #[Value.ref b] s) (F0 m 18 ls []) := by
  obtain ⟨hx, hb, hr, hml, hown, hts, hX, hbl, hlocks, hgv⟩ := C0
  obtain ⟨adK, adV, hKs, hKe⟩ := xstr0 hgv
  have ew : [(a0, .inr (2, [.ref a1, .ref a7, .ref a13, .ref a19, .ref a21, .ref a22, .int 0, .int 0])), (a1, .inr (0, [.ref a2, .ref a3, .ref a4, .ref a5, .ref a6, .int 0, .int 20, .int 10, .int 0, .int 0, .int 0, .int 0])), (a2, .inl (cA, 6, .inl (fun _ => 0))), (a3, .inl (cA, 6, .inl (fun _ => 0))), (a4, .inl (cA, 6, .inl (fun _ => 0))), (a5, .inl (cA, 6, .inl (fun _ => 0))), (a6, .inl (cA, 6, .inl (fun _ => 0))), (a7, .inr (0, [.ref a8, .ref a9, .ref a10, .ref a11, .ref a12, .int 0, .int 20, .int 10, .int 0, .int 0, .int 0, .int 0])), (a8, .inl (cA, 6, .inl (fun _ => 0))), (a9, .inl (cA, 6, .inl (fun _ => 0))), (a10, .inl (cA, 6, .inl (fun _ => 0))), (a11, .inl (cA, 6, .inl (fun _ => 0))), (a12, .inl (cA, 6, .inl (fun _ => 0))), (a13, .inr (0, [.ref a14, .ref a15, .ref a16, .ref a17, .ref a18, .int 0, .int 20, .int 10, .int 0, .int 0, .int 0, .int 0])), (a14, .inl (cA, 6, .inl (fun _ => 0))), (a15, .inl (cA, 6, .inl (fun _ => 0))), (a16, .inl (cA, 6, .inl (fun _ => 0))), (a17, .inl (cA, 6, .inl (fun _ => 0))), (a18, .inl (cA, 6, .inl (fun _ => 0))), (a19, .inr (1, [.ref a20, .int 0])), (a20, .inl (cA, 96, .inl (fun _ => 0))), (a21, .inl (cA, 16, .inl (fun _ => 0))), (a22, .inl (cA, 7, .inl (fun _ => 0))), (a23, .inr (3, [.ref a24, .ref a25, .ref a26, .ref a27, .int 0, .ref a28, .ref a29, .ref a30, .int 0, .int 0, .int 0, .ref a31, .int 0])), (a24, .inl (cA, 47, .inl (upd (upd (fun _ => 0) 2 20) 3 10))), (a25, .inl (cA, 47, .inl (fun _ => 0))), (a26, .inl (cA, 47, .inl (fun _ => 0))), (a27, .inl (cA, 47, .inl (fun _ => 0))), (a28, .inl (cA, 96, .inl (fun _ => 0))), (a29, .inl (cA, 16, .inl (fun _ => 0))), (a30, .inl (cA, 7, .inl (fun _ => 0))), (a31, .inl (cA, 3, .inl (fun _ => 0)))] = xwd (xadr [a0, a1, a2, a3, a4, a5, a6, a7, a8, a9, a10, a11, a12, a13, a14, a15, a16, a17, a18, a19, a20, a21, a22, a23, a24, a25, a26, a27, a28, a29, a30, a31] b adK adV) cA xM0 := rfl
  rw [ew] at hP hD
  obtain ⟨hJ, hAd⟩ := xJ_of hD
  have e99 : xadr [a0, a1, a2, a3, a4, a5, a6, a7, a8, a9, a10, a11, a12, a13, a14, a15, a16, a17, a18, a19, a20, a21, a22, a23, a24, a25, a26, a27, a28, a29, a30, a31] b adK adV (xN 99) = b := rfl
  have e0 : xadr [a0, a1, a2, a3, a4, a5, a6, a7, a8, a9, a10, a11, a12, a13, a14, a15, a16, a17, a18, a19, a20, a21, a22, a23, a24, a25, a26, a27, a28, a29, a30, a31] b adK adV (xN 0) = a0 := rfl
  have e2 : xadr [a0, a1, a2, a3, a4, a5, a6, a7, a8, a9, a10, a11, a12, a13, a14, a15, a16, a17, a18, a19, a20, a21, a22, a23, a24, a25, a26, a27, a28, a29, a30, a31] b adK adV (xN 2) = a23 := rfl
  have eK : ∀ i, i < 6 → xadr [a0, a1, a2, a3, a4, a5, a6, a7, a8, a9, a10, a11, a12, a13, a14, a15, a16, a17, a18, a19, a20, a21, a22, a23, a24, a25, a26, a27, a28, a29, a30, a31] b adK adV (xN (20 + i)) = adK i := fun i hi => by
    have h : i = 0 ∨ i = 1 ∨ i = 2 ∨ i = 3 ∨ i = 4 ∨ i = 5 := by omega
    rcases h with rfl | rfl | rfl | rfl | rfl | rfl <;> rfl
  have eV : ∀ i, i < 6 → xadr [a0, a1, a2, a3, a4, a5, a6, a7, a8, a9, a10, a11, a12, a13, a14, a15, a16, a17, a18, a19, a20, a21, a22, a23, a24, a25, a26, a27, a28, a29, a30, a31] b adK adV (xN (40 + i)) = adV i := fun i hi => by
    have h : i = 0 ∨ i = 1 ∨ i = 2 ∨ i = 3 ∨ i = 4 ∨ i = 5 := by omega
    rcases h with rfl | rfl | rfl | rfl | rfl | rfl <;> rfl
  generalize xadr [a0, a1, a2, a3, a4, a5, a6, a7, a8, a9, a10, a11, a12, a13, a14, a15, a16, a17, a18, a19, a20, a21, a22, a23, a24, a25, a26, a27, a28, a29, a30, a31] b adK adV = ad at hP hD hJ hAd e99 e0 e2 eK eV
  have hin := law_xWP (L := L) (xs := xs) hL (L + 6) 0 xM0 xs0 (by omega) (by omega) xI0.1 xI0.2.1 xI0.2.2
  have hstr : xStr ad s := by
    refine ⟨?_, ?_, ?_, fun i q hq => ?_⟩
    · exact (va_Zof (A := fun q => s.heap.size ≤ q) (hts _ kls_J0_COMPACT_STRINGSS_) (hts _ (xAL_in _ kin_J0)) (va_eqt (xfl_s hgv (by decide +kernel))) (fun a h => Nat.not_le.mpr h)).narrow hAd
    · exact (va_Zqof (A := fun q => s.heap.size ≤ q) (hts _ kls_J3_SIOOBE_FORMATTERS_) (hts _ (xAL_in _ kin_J3)) (xfl_s hgv (by decide +kernel)) (fun a h => Nat.not_le.mpr h)).narrow hAd
    · have h2 := hKs.narrow hAd
      refine ⟨fun i hi => ?_, fun i j hi hj => ?_⟩
      · show va_O "java/lang/String" (ad (xN (20 + i))) _ _ _ ∧ va_OF "java/lang/String" "coder" "B" (.int 0) (ad (xN (20 + i))) _ _ _ ∧ va_OF "java/lang/String" "value" "[B" (.ref (ad (xN (40 + i)))) (ad (xN (20 + i))) _ _ _ ∧ va_T .byte (ad (xN (40 + i))) _ _ _ _ _
        rw [eK i hi, eV i hi]
        exact h2.1 i hi
      · show ad (xN (20 + i)) = ad (xN (20 + j)) → i = j
        rw [eK i hi, eK j hj]
        exact h2.2 i j hi hj
    · have hi : i < 6 := (List.getElem?_eq_some_iff.mp hq).1
      rw [eK i hi]
      match i, q, hq with
    | 0, q, h => cases h; exact vk_R.of (A := #[Value.ref b]) (hts _ ksr_X1_52) (hKe 0 (by omega))
    | 1, q, h => cases h; exact vk_R.of (A := #[Value.ref b]) (hts _ ksr_X1_54) (hKe 1 (by omega))
    | 2, q, h => cases h; exact vk_R.of (A := #[Value.ref b]) (hts _ ksr_X1_56) (hKe 2 (by omega))
    | 3, q, h => cases h; exact vk_R.of (A := #[Value.ref b]) (hts _ ksr_X1_58) (hKe 3 (by omega))
    | 4, q, h => cases h; exact vk_R.of (A := #[Value.ref b]) (hts _ ksr_X1_60) (hKe 4 (by omega))
    | 5, q, h => cases h; exact vk_R.of (A := #[Value.ref b]) (hts _ ksr_X1_65) (hKe 5 (by omega))
  have hC : xCx p s m #[Value.ref b] c RL cL_law 4 room_1 32 578 D cA ad := ⟨hx, hb, hml, hown, fun w h => hts w (xAL_in w h), ⟨hK, hJ, hstr⟩, Nat.le_refl _, Nat.le_refl _⟩
  have hscr : xScr b L xs s ad := ⟨e99, hX, hbl, hAd⟩
  have go : xPW p l e room_1 s m #[Value.ref b] below meth c 32 578 (lw_Z below #[Value.ref b] s) D cA ad 4 18 ([some (xo (xN 99)), some (xo (xN 0)), some (xo (xN 2)), some (xi (nI 0))], [], xM0) :=
    hin _ (fun pc f hi => okL_all L xs pc p l e s m below meth c D cA ad b _ hC hscr hr hlocks f hi)
  refine va_forget (fun q hq => hS.2.2 q hq) ?_
  refine go H [] ls hP ⟨hS.1, fun q h1 h2 => hS.2.1 q h1 (Nat.not_le.mpr h1), fun q hq => by cases hq⟩ ⟨rfl, hl.1, hl.2.1, fun q hq => ?_⟩
  have hq : q ∈ [(0, Value.ref (ad (xN 99))), (1, Value.ref (ad (xN 0))), (2, Value.ref (ad (xN 2))), (3, Value.int 0)] := hq
  rw [e99, e0, e2] at hq
  refine hl.2.2 q ?_
  simp only [List.mem_cons, List.not_mem_nil, or_false] at hq ⊢
  rcases hq with h | h | h | h
  · exact Or.inr (Or.inr (Or.inr h))
  · exact Or.inr (Or.inr (Or.inl h))
  · exact Or.inr (Or.inl h)
  · exact Or.inl h
set_option maxHeartbeats 8000000 in
set_option maxRecDepth 100000 in
theorem whole_start {p : Program} {e : Env} {s : State} {m : MethodId} {below : List Frame} {meth : Method} {c : Code} (l : Launch) (hflags : l.flags = flags0) {b L : Nat} {xs : Nat → Int32} (hL : L ≤ 3072) (C0 : lw_At p s m meth c b L xs) : W p l e room_1 s m #[Value.ref b] below meth c s.heap [] 0 0 (lw_Z below #[Value.ref b] s) (entryFrame m ([Value.ref b] : List Value).toArray 4) := by
  obtain ⟨hx, hb, hr, hml, hown, hts, hX, hbl, hlocks, hgv⟩ := id C0
  have htX : ∀ w ∈ xAL, w.before #[Value.ref b] s = true := fun w h => hts w (xAL_in w h)
  have hown : s.vm.findClass RL = some m.cls := hown
  have hA : ∀ q : Nat, s.heap.size ≤ q → (fun q : Nat => s.heap.size ≤ q) q := fun _ h => h
  obtain ⟨c0, iS0, hKn0⟩ := u_known (C := RX0) (T := TX0) (N := 12) (n := 12) htX kl_X0 (htX _ kit_X0)
  obtain ⟨c1, iS1, hKn1⟩ := u_known (C := RX1) (T := TX1) (N := 2) (n := 2) htX kl_X1 (htX _ kit_X1)
  obtain ⟨c2, iS2, hKn2⟩ := u_known (C := RX2) (T := TX2) (N := 8) (n := 8) htX kl_X2 (htX _ kit_X2)
  obtain ⟨c3, iS3, hKn3⟩ := u_known (C := RX3) (T := TX3) (N := 13) (n := 13) htX kl_X3 (htX _ kit_X3)
  obtain ⟨cA, hcA1, hcA2⟩ := xcA (htX _ kar_int)
  obtain ⟨D, hKc⟩ : ∃ D : va_G, ∀ (k : Nat) (q : vw_C), vwCl[k]? = some q → u_Kn s q.1 q.2.1 q.2.2 (D.1 k) (D.2 k) := by
    refine ⟨(fun k => if k = 0 then c0 else if k = 1 then c1 else if k = 2 then c2 else c3, fun k => if k = 0 then iS0 else if k = 1 then iS1 else if k = 2 then iS2 else iS3), ?_⟩
    intro k q hq
    match k, hq with
    | 0, hq => cases hq; exact hKn0
    | 1, hq => cases hq; exact hKn1
    | 2, hq => cases hq; exact hKn2
    | 3, hq => cases hq; exact hKn3
    | k + 4, hq => simp [vwCl] at hq
  have hS : va_S (fun q : Nat => s.heap.size ≤ q) s.heap s.heap [] := va_S.rf
  have hK : va_K D vwCl [(cA, .int)] s := ⟨hKc, fun k q h => by
    match k, h with
    | 0, h => cases h; exact ⟨hcA1, hcA2⟩
    | k + 1, h => simp at h⟩
  have hP : va_P D vwCl [] s.heap := fun k q h => by simp at h
  have hD : va_D (fun q : Nat => s.heap.size ≤ q) [] := ⟨fun i j p q h => by simp at h, fun k q h => by simp at h⟩
  have hl := lv_entry ([.ref b]) (n := 4) (Nat.le_of_ble_eq_true rfl)
  rw [lg_entry_eq]
  generalize (lg_sl ([.ref b]) ++ List.replicate (4 - (lg_sl ([.ref b])).length) Slot.unset).toArray = ls at hl ⊢
  have hl : lv_has ls 4 [(0, .ref b)] := hl
  refine va_new (ci := 2) (fs := [.null, .null, .null, .null, .null, .null, .int 0, .int 0]) (C := RX2) (T := TX2) (N := 8) hx hb htX kl_X2 tyX2 tyX2_ok hown (htX _ kcl_L_7) (htX _ kit_X2) (htX _ kin_X2) hK hP hD hS hA rfl df_X2 (Nat.le_of_ble_eq_true rfl) (Nat.le_of_ble_eq_true rfl) dL_law_0 (fun a0 H hP hD hS => ?_)
  have hP : va_P D vwCl [(a0, .inr (2, [.null, .null, .null, .null, .null, .null, .int 0, .int 0]))] H := hP
  have hD : va_D (fun q : Nat => s.heap.size ≤ q) [(a0, .inr (2, [.null, .null, .null, .null, .null, .null, .int 0, .int 0]))] := hD
  refine W.widen (k := 1) (n := 8) (Nat.le_refl _) (Nat.le_refl _) ?_
  refine lv_dup hx hb dL_law_3 rfl ?_
  have hPc := hP.sub (ws' := [(a0, .inr (2, [.null, .null, .null, .null, .null, .null, .int 0, .int 0]))]) [0] rfl
  have hDc := hD.sub (ws' := [(a0, .inr (2, [.null, .null, .null, .null, .null, .null, .int 0, .int 0]))]) [0] (by decide) rfl
  have hFc := va_free (wc := [(a0, .inr (2, [.null, .null, .null, .null, .null, .null, .int 0, .int 0]))]) hD hS hA [0] rfl
  refine va_callv (va_runI (As := []) (rest := [.ref a0]) ⟨hx, hb, hml, hown, htX⟩ (ci_X2 l D cA a0 H.size) (cwI 0 htX (xgood kc_X2_init) rfl rfl rfl (htX _ kin_X2) (htX _ km_L_9) (htX _ ki_X2_init) rfl ⟨by decide +kernel, by decide +kernel, by decide +kernel⟩ ⟨Nat.le_of_ble_eq_true rfl, Nat.le_of_ble_eq_true rfl⟩) ⟨fun a U g mk q => by obtain ⟨q0, q1, qP, qK, qD, qn, qm⟩ := q; exact ⟨q0, q1, qP, va_K.moved (u := U) (U := U.calling g mk a) (Vm.Alike.refl U.vm) qK, qD, va_Nw.same (u := U) (U := U.calling g mk a) rfl rfl qn, va_Nw.same (u := U) (U := U.calling g mk a) rfl rfl qm⟩, fun U hU hW => ⟨rfl, by rw [hU], by rw [hU]; exact hPc, va_K.moved hW.alike hK, hDc.weaken (fun _ _ _ _ => trivial), va_Nw.warmM hW (va_Nw.of rfl (hts _ kmn_X2_9)), va_Nw.warmM hW (va_Nw.of rfl (hts _ kmn_X2_24))⟩⟩ rfl rfl hl.1 rfl (lv_room (Nat.le_of_ble_eq_true rfl)) dL_law_4 ⟨Nat.le_of_ble_eq_true rfl, Nat.le_of_ble_eq_true rfl⟩) hS (fun q _ h => hFc q h) hFc (fun u t H1 locs ht hvm _ hB hz1 hk1 hS => ?_)
  obtain ⟨a1, a2, a3, a4, a5, a6, a7, a8, a9, a10, a11, a12, a13, a14, a15, a16, a17, a18, a19, a20, a21, a22, hP1, hD1⟩ := hB
  rw [ht] at hP1
  obtain ⟨hP, hD⟩ := va_join (wr := []) (w1 := [(a0, .inr (2, [.ref a1, .ref a7, .ref a13, .ref a19, .ref a21, .ref a22, .int 0, .int 0])), (a1, .inr (0, [.ref a2, .ref a3, .ref a4, .ref a5, .ref a6, .int 0, .int 20, .int 10, .int 0, .int 0, .int 0, .int 0])), (a2, .inl (cA, 6, .inl (fun _ => 0))), (a3, .inl (cA, 6, .inl (fun _ => 0))), (a4, .inl (cA, 6, .inl (fun _ => 0))), (a5, .inl (cA, 6, .inl (fun _ => 0))), (a6, .inl (cA, 6, .inl (fun _ => 0))), (a7, .inr (0, [.ref a8, .ref a9, .ref a10, .ref a11, .ref a12, .int 0, .int 20, .int 10, .int 0, .int 0, .int 0, .int 0])), (a8, .inl (cA, 6, .inl (fun _ => 0))), (a9, .inl (cA, 6, .inl (fun _ => 0))), (a10, .inl (cA, 6, .inl (fun _ => 0))), (a11, .inl (cA, 6, .inl (fun _ => 0))), (a12, .inl (cA, 6, .inl (fun _ => 0))), (a13, .inr (0, [.ref a14, .ref a15, .ref a16, .ref a17, .ref a18, .int 0, .int 20, .int 10, .int 0, .int 0, .int 0, .int 0])), (a14, .inl (cA, 6, .inl (fun _ => 0))), (a15, .inl (cA, 6, .inl (fun _ => 0))), (a16, .inl (cA, 6, .inl (fun _ => 0))), (a17, .inl (cA, 6, .inl (fun _ => 0))), (a18, .inl (cA, 6, .inl (fun _ => 0))), (a19, .inr (1, [.ref a20, .int 0])), (a20, .inl (cA, 96, .inl (fun _ => 0))), (a21, .inl (cA, 16, .inl (fun _ => 0))), (a22, .inl (cA, 7, .inl (fun _ => 0)))]) hP hD [0] [] rfl rfl (by decide) (by decide) hk1 hFc hP1 hD1
  generalize H1 = H at hP hS ⊢
  have hP : va_P D vwCl [(a0, .inr (2, [.ref a1, .ref a7, .ref a13, .ref a19, .ref a21, .ref a22, .int 0, .int 0])), (a1, .inr (0, [.ref a2, .ref a3, .ref a4, .ref a5, .ref a6, .int 0, .int 20, .int 10, .int 0, .int 0, .int 0, .int 0])), (a2, .inl (cA, 6, .inl (fun _ => 0))), (a3, .inl (cA, 6, .inl (fun _ => 0))), (a4, .inl (cA, 6, .inl (fun _ => 0))), (a5, .inl (cA, 6, .inl (fun _ => 0))), (a6, .inl (cA, 6, .inl (fun _ => 0))), (a7, .inr (0, [.ref a8, .ref a9, .ref a10, .ref a11, .ref a12, .int 0, .int 20, .int 10, .int 0, .int 0, .int 0, .int 0])), (a8, .inl (cA, 6, .inl (fun _ => 0))), (a9, .inl (cA, 6, .inl (fun _ => 0))), (a10, .inl (cA, 6, .inl (fun _ => 0))), (a11, .inl (cA, 6, .inl (fun _ => 0))), (a12, .inl (cA, 6, .inl (fun _ => 0))), (a13, .inr (0, [.ref a14, .ref a15, .ref a16, .ref a17, .ref a18, .int 0, .int 20, .int 10, .int 0, .int 0, .int 0, .int 0])), (a14, .inl (cA, 6, .inl (fun _ => 0))), (a15, .inl (cA, 6, .inl (fun _ => 0))), (a16, .inl (cA, 6, .inl (fun _ => 0))), (a17, .inl (cA, 6, .inl (fun _ => 0))), (a18, .inl (cA, 6, .inl (fun _ => 0))), (a19, .inr (1, [.ref a20, .int 0])), (a20, .inl (cA, 96, .inl (fun _ => 0))), (a21, .inl (cA, 16, .inl (fun _ => 0))), (a22, .inl (cA, 7, .inl (fun _ => 0)))] H := hP
  have hD : va_D (fun q : Nat => s.heap.size ≤ q) [(a0, .inr (2, [.ref a1, .ref a7, .ref a13, .ref a19, .ref a21, .ref a22, .int 0, .int 0])), (a1, .inr (0, [.ref a2, .ref a3, .ref a4, .ref a5, .ref a6, .int 0, .int 20, .int 10, .int 0, .int 0, .int 0, .int 0])), (a2, .inl (cA, 6, .inl (fun _ => 0))), (a3, .inl (cA, 6, .inl (fun _ => 0))), (a4, .inl (cA, 6, .inl (fun _ => 0))), (a5, .inl (cA, 6, .inl (fun _ => 0))), (a6, .inl (cA, 6, .inl (fun _ => 0))), (a7, .inr (0, [.ref a8, .ref a9, .ref a10, .ref a11, .ref a12, .int 0, .int 20, .int 10, .int 0, .int 0, .int 0, .int 0])), (a8, .inl (cA, 6, .inl (fun _ => 0))), (a9, .inl (cA, 6, .inl (fun _ => 0))), (a10, .inl (cA, 6, .inl (fun _ => 0))), (a11, .inl (cA, 6, .inl (fun _ => 0))), (a12, .inl (cA, 6, .inl (fun _ => 0))), (a13, .inr (0, [.ref a14, .ref a15, .ref a16, .ref a17, .ref a18, .int 0, .int 20, .int 10, .int 0, .int 0, .int 0, .int 0])), (a14, .inl (cA, 6, .inl (fun _ => 0))), (a15, .inl (cA, 6, .inl (fun _ => 0))), (a16, .inl (cA, 6, .inl (fun _ => 0))), (a17, .inl (cA, 6, .inl (fun _ => 0))), (a18, .inl (cA, 6, .inl (fun _ => 0))), (a19, .inr (1, [.ref a20, .int 0])), (a20, .inl (cA, 96, .inl (fun _ => 0))), (a21, .inl (cA, 16, .inl (fun _ => 0))), (a22, .inl (cA, 7, .inl (fun _ => 0)))] := hD
  refine W.widen (k := 23) (n := 255) (Nat.le_refl _) (Nat.le_refl _) ?_
  refine lv_astore_n (lv' := [(1, .ref a0), (0, .ref b)]) hx hb dL_law_7 rfl hl (by decide) rfl (fun ls hl => ?_)
  refine va_new (ci := 3) (fs := [.null, .null, .null, .null, .int 0, .null, .null, .null, .int 0, .int 0, .int 0, .null, .int 0]) (C := RX3) (T := TX3) (N := 13) hx hb htX kl_X3 tyX3 tyX3_ok hown (htX _ kcl_L_10) (htX _ kit_X3) (htX _ kin_X3) hK hP hD hS hA rfl df_X3 (Nat.le_of_ble_eq_true rfl) (Nat.le_of_ble_eq_true rfl) dL_law_8 (fun a23 H hP hD hS => ?_)
  have hP : va_P D vwCl [(a0, .inr (2, [.ref a1, .ref a7, .ref a13, .ref a19, .ref a21, .ref a22, .int 0, .int 0])), (a1, .inr (0, [.ref a2, .ref a3, .ref a4, .ref a5, .ref a6, .int 0, .int 20, .int 10, .int 0, .int 0, .int 0, .int 0])), (a2, .inl (cA, 6, .inl (fun _ => 0))), (a3, .inl (cA, 6, .inl (fun _ => 0))), (a4, .inl (cA, 6, .inl (fun _ => 0))), (a5, .inl (cA, 6, .inl (fun _ => 0))), (a6, .inl (cA, 6, .inl (fun _ => 0))), (a7, .inr (0, [.ref a8, .ref a9, .ref a10, .ref a11, .ref a12, .int 0, .int 20, .int 10, .int 0, .int 0, .int 0, .int 0])), (a8, .inl (cA, 6, .inl (fun _ => 0))), (a9, .inl (cA, 6, .inl (fun _ => 0))), (a10, .inl (cA, 6, .inl (fun _ => 0))), (a11, .inl (cA, 6, .inl (fun _ => 0))), (a12, .inl (cA, 6, .inl (fun _ => 0))), (a13, .inr (0, [.ref a14, .ref a15, .ref a16, .ref a17, .ref a18, .int 0, .int 20, .int 10, .int 0, .int 0, .int 0, .int 0])), (a14, .inl (cA, 6, .inl (fun _ => 0))), (a15, .inl (cA, 6, .inl (fun _ => 0))), (a16, .inl (cA, 6, .inl (fun _ => 0))), (a17, .inl (cA, 6, .inl (fun _ => 0))), (a18, .inl (cA, 6, .inl (fun _ => 0))), (a19, .inr (1, [.ref a20, .int 0])), (a20, .inl (cA, 96, .inl (fun _ => 0))), (a21, .inl (cA, 16, .inl (fun _ => 0))), (a22, .inl (cA, 7, .inl (fun _ => 0))), (a23, .inr (3, [.null, .null, .null, .null, .int 0, .null, .null, .null, .int 0, .int 0, .int 0, .null, .int 0]))] H := hP
  have hD : va_D (fun q : Nat => s.heap.size ≤ q) [(a0, .inr (2, [.ref a1, .ref a7, .ref a13, .ref a19, .ref a21, .ref a22, .int 0, .int 0])), (a1, .inr (0, [.ref a2, .ref a3, .ref a4, .ref a5, .ref a6, .int 0, .int 20, .int 10, .int 0, .int 0, .int 0, .int 0])), (a2, .inl (cA, 6, .inl (fun _ => 0))), (a3, .inl (cA, 6, .inl (fun _ => 0))), (a4, .inl (cA, 6, .inl (fun _ => 0))), (a5, .inl (cA, 6, .inl (fun _ => 0))), (a6, .inl (cA, 6, .inl (fun _ => 0))), (a7, .inr (0, [.ref a8, .ref a9, .ref a10, .ref a11, .ref a12, .int 0, .int 20, .int 10, .int 0, .int 0, .int 0, .int 0])), (a8, .inl (cA, 6, .inl (fun _ => 0))), (a9, .inl (cA, 6, .inl (fun _ => 0))), (a10, .inl (cA, 6, .inl (fun _ => 0))), (a11, .inl (cA, 6, .inl (fun _ => 0))), (a12, .inl (cA, 6, .inl (fun _ => 0))), (a13, .inr (0, [.ref a14, .ref a15, .ref a16, .ref a17, .ref a18, .int 0, .int 20, .int 10, .int 0, .int 0, .int 0, .int 0])), (a14, .inl (cA, 6, .inl (fun _ => 0))), (a15, .inl (cA, 6, .inl (fun _ => 0))), (a16, .inl (cA, 6, .inl (fun _ => 0))), (a17, .inl (cA, 6, .inl (fun _ => 0))), (a18, .inl (cA, 6, .inl (fun _ => 0))), (a19, .inr (1, [.ref a20, .int 0])), (a20, .inl (cA, 96, .inl (fun _ => 0))), (a21, .inl (cA, 16, .inl (fun _ => 0))), (a22, .inl (cA, 7, .inl (fun _ => 0))), (a23, .inr (3, [.null, .null, .null, .null, .int 0, .null, .null, .null, .int 0, .int 0, .int 0, .null, .int 0]))] := hD
  refine W.widen (k := 24) (n := 268) (Nat.le_refl _) (Nat.le_refl _) ?_
  refine lv_dup hx hb dL_law_11 rfl ?_
  have hPc := hP.sub (ws' := [(a23, .inr (3, [.null, .null, .null, .null, .int 0, .null, .null, .null, .int 0, .int 0, .int 0, .null, .int 0]))]) [23] rfl
  have hDc := hD.sub (ws' := [(a23, .inr (3, [.null, .null, .null, .null, .int 0, .null, .null, .null, .int 0, .int 0, .int 0, .null, .int 0]))]) [23] (by decide) rfl
  have hFc := va_free (wc := [(a23, .inr (3, [.null, .null, .null, .null, .int 0, .null, .null, .null, .int 0, .int 0, .int 0, .null, .int 0]))]) hD hS hA [23] rfl
  refine va_callv (va_runI (As := []) (rest := [.ref a23]) ⟨hx, hb, hml, hown, htX⟩ (ci_X3 l D cA a23 H.size) (cwI 0 htX (xgood kc_X3_init) rfl rfl rfl (htX _ kin_X3) (htX _ km_L_12) (htX _ ki_X3_init) rfl ⟨by decide +kernel, by decide +kernel, by decide +kernel⟩ ⟨Nat.le_of_ble_eq_true rfl, Nat.le_of_ble_eq_true rfl⟩) ⟨fun a U g mk q => by obtain ⟨q0, q1, qP, qK, qD⟩ := q; exact ⟨q0, q1, qP, va_K.moved (u := U) (U := U.calling g mk a) (Vm.Alike.refl U.vm) qK, qD⟩, fun U hU hW => ⟨rfl, by rw [hU], by rw [hU]; exact hPc, va_K.moved hW.alike hK, hDc.weaken (fun _ _ _ _ => trivial)⟩⟩ rfl rfl hl.1 rfl (lv_room (Nat.le_of_ble_eq_true rfl)) dL_law_12 ⟨Nat.le_of_ble_eq_true rfl, Nat.le_of_ble_eq_true rfl⟩) hS (fun q _ h => hFc q h) hFc (fun u t H1 locs ht hvm _ hB hz1 hk1 hS => ?_)
  obtain ⟨a24, a25, a26, a27, a28, a29, a30, a31, hP1, hD1⟩ := hB
  rw [ht] at hP1
  obtain ⟨hP, hD⟩ := va_join (wr := [(a0, .inr (2, [.ref a1, .ref a7, .ref a13, .ref a19, .ref a21, .ref a22, .int 0, .int 0])), (a1, .inr (0, [.ref a2, .ref a3, .ref a4, .ref a5, .ref a6, .int 0, .int 20, .int 10, .int 0, .int 0, .int 0, .int 0])), (a2, .inl (cA, 6, .inl (fun _ => 0))), (a3, .inl (cA, 6, .inl (fun _ => 0))), (a4, .inl (cA, 6, .inl (fun _ => 0))), (a5, .inl (cA, 6, .inl (fun _ => 0))), (a6, .inl (cA, 6, .inl (fun _ => 0))), (a7, .inr (0, [.ref a8, .ref a9, .ref a10, .ref a11, .ref a12, .int 0, .int 20, .int 10, .int 0, .int 0, .int 0, .int 0])), (a8, .inl (cA, 6, .inl (fun _ => 0))), (a9, .inl (cA, 6, .inl (fun _ => 0))), (a10, .inl (cA, 6, .inl (fun _ => 0))), (a11, .inl (cA, 6, .inl (fun _ => 0))), (a12, .inl (cA, 6, .inl (fun _ => 0))), (a13, .inr (0, [.ref a14, .ref a15, .ref a16, .ref a17, .ref a18, .int 0, .int 20, .int 10, .int 0, .int 0, .int 0, .int 0])), (a14, .inl (cA, 6, .inl (fun _ => 0))), (a15, .inl (cA, 6, .inl (fun _ => 0))), (a16, .inl (cA, 6, .inl (fun _ => 0))), (a17, .inl (cA, 6, .inl (fun _ => 0))), (a18, .inl (cA, 6, .inl (fun _ => 0))), (a19, .inr (1, [.ref a20, .int 0])), (a20, .inl (cA, 96, .inl (fun _ => 0))), (a21, .inl (cA, 16, .inl (fun _ => 0))), (a22, .inl (cA, 7, .inl (fun _ => 0)))]) (w1 := [(a23, .inr (3, [.ref a24, .ref a25, .ref a26, .ref a27, .int 0, .ref a28, .ref a29, .ref a30, .int 0, .int 0, .int 0, .ref a31, .int 0])), (a24, .inl (cA, 47, .inl (upd (upd (fun _ => 0) 2 20) 3 10))), (a25, .inl (cA, 47, .inl (fun _ => 0))), (a26, .inl (cA, 47, .inl (fun _ => 0))), (a27, .inl (cA, 47, .inl (fun _ => 0))), (a28, .inl (cA, 96, .inl (fun _ => 0))), (a29, .inl (cA, 16, .inl (fun _ => 0))), (a30, .inl (cA, 7, .inl (fun _ => 0))), (a31, .inl (cA, 3, .inl (fun _ => 0)))]) hP hD [23] [0, 1, 2, 3, 4, 5, 6, 7, 8, 9, 10, 11, 12, 13, 14, 15, 16, 17, 18, 19, 20, 21, 22] rfl rfl (by decide) (by decide) hk1 hFc hP1 hD1
  generalize H1 = H at hP hS ⊢
  have hP : va_P D vwCl [(a0, .inr (2, [.ref a1, .ref a7, .ref a13, .ref a19, .ref a21, .ref a22, .int 0, .int 0])), (a1, .inr (0, [.ref a2, .ref a3, .ref a4, .ref a5, .ref a6, .int 0, .int 20, .int 10, .int 0, .int 0, .int 0, .int 0])), (a2, .inl (cA, 6, .inl (fun _ => 0))), (a3, .inl (cA, 6, .inl (fun _ => 0))), (a4, .inl (cA, 6, .inl (fun _ => 0))), (a5, .inl (cA, 6, .inl (fun _ => 0))), (a6, .inl (cA, 6, .inl (fun _ => 0))), (a7, .inr (0, [.ref a8, .ref a9, .ref a10, .ref a11, .ref a12, .int 0, .int 20, .int 10, .int 0, .int 0, .int 0, .int 0])), (a8, .inl (cA, 6, .inl (fun _ => 0))), (a9, .inl (cA, 6, .inl (fun _ => 0))), (a10, .inl (cA, 6, .inl (fun _ => 0))), (a11, .inl (cA, 6, .inl (fun _ => 0))), (a12, .inl (cA, 6, .inl (fun _ => 0))), (a13, .inr (0, [.ref a14, .ref a15, .ref a16, .ref a17, .ref a18, .int 0, .int 20, .int 10, .int 0, .int 0, .int 0, .int 0])), (a14, .inl (cA, 6, .inl (fun _ => 0))), (a15, .inl (cA, 6, .inl (fun _ => 0))), (a16, .inl (cA, 6, .inl (fun _ => 0))), (a17, .inl (cA, 6, .inl (fun _ => 0))), (a18, .inl (cA, 6, .inl (fun _ => 0))), (a19, .inr (1, [.ref a20, .int 0])), (a20, .inl (cA, 96, .inl (fun _ => 0))), (a21, .inl (cA, 16, .inl (fun _ => 0))), (a22, .inl (cA, 7, .inl (fun _ => 0))), (a23, .inr (3, [.ref a24, .ref a25, .ref a26, .ref a27, .int 0, .ref a28, .ref a29, .ref a30, .int 0, .int 0, .int 0, .ref a31, .int 0])), (a24, .inl (cA, 47, .inl (upd (upd (fun _ => 0) 2 20) 3 10))), (a25, .inl (cA, 47, .inl (fun _ => 0))), (a26, .inl (cA, 47, .inl (fun _ => 0))), (a27, .inl (cA, 47, .inl (fun _ => 0))), (a28, .inl (cA, 96, .inl (fun _ => 0))), (a29, .inl (cA, 16, .inl (fun _ => 0))), (a30, .inl (cA, 7, .inl (fun _ => 0))), (a31, .inl (cA, 3, .inl (fun _ => 0)))] H := hP
  have hD : va_D (fun q : Nat => s.heap.size ≤ q) [(a0, .inr (2, [.ref a1, .ref a7, .ref a13, .ref a19, .ref a21, .ref a22, .int 0, .int 0])), (a1, .inr (0, [.ref a2, .ref a3, .ref a4, .ref a5, .ref a6, .int 0, .int 20, .int 10, .int 0, .int 0, .int 0, .int 0])), (a2, .inl (cA, 6, .inl (fun _ => 0))), (a3, .inl (cA, 6, .inl (fun _ => 0))), (a4, .inl (cA, 6, .inl (fun _ => 0))), (a5, .inl (cA, 6, .inl (fun _ => 0))), (a6, .inl (cA, 6, .inl (fun _ => 0))), (a7, .inr (0, [.ref a8, .ref a9, .ref a10, .ref a11, .ref a12, .int 0, .int 20, .int 10, .int 0, .int 0, .int 0, .int 0])), (a8, .inl (cA, 6, .inl (fun _ => 0))), (a9, .inl (cA, 6, .inl (fun _ => 0))), (a10, .inl (cA, 6, .inl (fun _ => 0))), (a11, .inl (cA, 6, .inl (fun _ => 0))), (a12, .inl (cA, 6, .inl (fun _ => 0))), (a13, .inr (0, [.ref a14, .ref a15, .ref a16, .ref a17, .ref a18, .int 0, .int 20, .int 10, .int 0, .int 0, .int 0, .int 0])), (a14, .inl (cA, 6, .inl (fun _ => 0))), (a15, .inl (cA, 6, .inl (fun _ => 0))), (a16, .inl (cA, 6, .inl (fun _ => 0))), (a17, .inl (cA, 6, .inl (fun _ => 0))), (a18, .inl (cA, 6, .inl (fun _ => 0))), (a19, .inr (1, [.ref a20, .int 0])), (a20, .inl (cA, 96, .inl (fun _ => 0))), (a21, .inl (cA, 16, .inl (fun _ => 0))), (a22, .inl (cA, 7, .inl (fun _ => 0))), (a23, .inr (3, [.ref a24, .ref a25, .ref a26, .ref a27, .int 0, .ref a28, .ref a29, .ref a30, .int 0, .int 0, .int 0, .ref a31, .int 0])), (a24, .inl (cA, 47, .inl (upd (upd (fun _ => 0) 2 20) 3 10))), (a25, .inl (cA, 47, .inl (fun _ => 0))), (a26, .inl (cA, 47, .inl (fun _ => 0))), (a27, .inl (cA, 47, .inl (fun _ => 0))), (a28, .inl (cA, 96, .inl (fun _ => 0))), (a29, .inl (cA, 16, .inl (fun _ => 0))), (a30, .inl (cA, 7, .inl (fun _ => 0))), (a31, .inl (cA, 3, .inl (fun _ => 0)))] := hD
  refine W.widen (k := 32) (n := 578) (Nat.le_refl _) (Nat.le_refl _) ?_
  refine lv_astore_n (lv' := [(2, .ref a23), (1, .ref a0), (0, .ref b)]) hx hb dL_law_15 rfl hl (by decide) rfl (fun ls hl => ?_)
  refine lv_iconst (v := 0) hx hb dL_law_16 (by decide) ?_
  refine lv_istore_n (lv' := [(3, .int 0), (2, .ref a23), (1, .ref a0), (0, .ref b)]) hx hb dL_law_17 rfl hl (by decide) rfl (fun ls hl => ?_)
  exact law_enter l hL C0 hK a0 a1 a2 a3 a4 a5 a6 a7 a8 a9 a10 a11 a12 a13 a14 a15 a16 a17 a18 a19 a20 a21 a22 a23 a24 a25 a26 a27 a28 a29 a30 a31 hP hD hS hl
