/-! ===== the 39 calls, the loop ===== -/
theorem xv {L i j : Nat} (h : i + j < L) (hL : L ≤ 3072) : vp_in (nI i + nI j) L := by
  rw [nI_add]
  exact vp_in_nI h (by omega)
theorem lc_letter {L i : Nat} {xs : Nat → Int32} {M : xM} {s : xS} {R : xR} (hL : L ≤ 3072) (hi : i + 6 ≤ L) (hC : xIc M s) (hM : xIm M s) (hV : xIv s) (nxt : ∀ M' s', xIc M' s' → xIm M' s' → xIv s' → xWP (pg_L L xs) 1223 ([some (xo (xN 99)), some (xo (xN 0)), some (xo (xN 2)), some (xi (nI i))], [], M') R) : xWP (pg_L L xs) 204 ([some (xo (xN 99)), some (xo (xN 0)), some (xo (xN 2)), some (xi (nI i))], [], M) R := by
  refine xgo [213] 100 ⟨xv (j := 1) (by omega) hL, rfl, xWP_mono (fun v1 M1 h => ?_) (j_letter _ M s (fun v1 v2 M2 => xWP (pg_L L xs) 222 ([some (xo (xN 99)), some (xo (xN 0)), some (xo (xN 2)), some (xi (nI i))], v2.toList ++ v1.toList, M2) R) hC hM hV (fun v M' s' a1 a2 a3 hn => ?_))⟩
  · match v1, h with
    | none, h => exact xgo [222] 100 ⟨xv (j := 1) (by omega) hL, rfl, h⟩
    | some (.inl a), h => exact xgo [222] 100 ⟨xv (j := 1) (by omega) hL, rfl, h⟩
    | some (.inr (.inl a)), h => exact xgo [222] 100 ⟨xv (j := 1) (by omega) hL, rfl, h⟩
    | some (.inr (.inr a)), h => exact xgo [222] 100 ⟨xv (j := 1) (by omega) hL, rfl, h⟩
  · show xWP (pg_L L xs) 222 ([some (xo (xN 99)), some (xo (xN 0)), some (xo (xN 2)), some (xi (nI i))], [v, v], M') R
    match v, hn with
      | .inl a, _ => exact xgo [1223] 100 ⟨fun _ => nxt M' s' a1 a2 a3, fun z => absurd rfl z⟩
theorem lc_hill {L i : Nat} {xs : Nat → Int32} {M : xM} {s : xS} {R : xR} (hL : L ≤ 3072) (hi : i + 6 ≤ L) (hC : xIc M s) (hM : xIm M s) (hV : xIv s) (nxt : ∀ M' s', xIc M' s' → xIm M' s' → xIv s' → xWP (pg_L L xs) 1223 ([some (xo (xN 99)), some (xo (xN 0)), some (xo (xN 2)), some (xi (nI i))], [], M') R) : xWP (pg_L L xs) 227 ([some (xo (xN 99)), some (xo (xN 0)), some (xo (xN 2)), some (xi (nI i))], [], M) R := by
  refine xgo [231] 100 ⟨rfl, xWP_mono (fun v1 M1 h => ?_) (j_hill  M s (fun v1 v2 M2 => xWP (pg_L L xs) 235 ([some (xo (xN 99)), some (xo (xN 0)), some (xo (xN 2)), some (xi (nI i))], v2.toList ++ v1.toList, M2) R) hC hM hV (fun v M' s' a1 a2 a3 hn => ?_))⟩
  · match v1, h with
    | none, h => exact xgo [235] 100 ⟨rfl, h⟩
    | some (.inl a), h => exact xgo [235] 100 ⟨rfl, h⟩
    | some (.inr (.inl a)), h => exact xgo [235] 100 ⟨rfl, h⟩
    | some (.inr (.inr a)), h => exact xgo [235] 100 ⟨rfl, h⟩
  · show xWP (pg_L L xs) 235 ([some (xo (xN 99)), some (xo (xN 0)), some (xo (xN 2)), some (xi (nI i))], [v, v], M') R
    match v, hn with
      | .inl a, _ => exact xgo [1223] 100 ⟨fun _ => nxt M' s' a1 a2 a3, fun z => absurd rfl z⟩
theorem lc_person {L i : Nat} {xs : Nat → Int32} {M : xM} {s : xS} {R : xR} (hL : L ≤ 3072) (hi : i + 6 ≤ L) (hC : xIc M s) (hM : xIm M s) (hV : xIv s) (nxt : ∀ M' s', xIc M' s' → xIm M' s' → xIv s' → xWP (pg_L L xs) 1223 ([some (xo (xN 99)), some (xo (xN 0)), some (xo (xN 2)), some (xi (nI i))], [], M') R) : xWP (pg_L L xs) 240 ([some (xo (xN 99)), some (xo (xN 0)), some (xo (xN 2)), some (xi (nI i))], [], M) R := by
  refine xgo [254] 100 ⟨xv (j := 1) (by omega) hL, xv (j := 2) (by omega) hL, rfl, xWP_mono (fun v1 M1 h => ?_) (j_person _ _ M s (fun v1 v2 M2 => xWP (pg_L L xs) 268 ([some (xo (xN 99)), some (xo (xN 0)), some (xo (xN 2)), some (xi (nI i))], v2.toList ++ v1.toList, M2) R) hC hM hV (fun v M' s' a1 a2 a3 hn => ?_))⟩
  · match v1, h with
    | none, h => exact xgo [268] 100 ⟨xv (j := 1) (by omega) hL, xv (j := 2) (by omega) hL, rfl, h⟩
    | some (.inl a), h => exact xgo [268] 100 ⟨xv (j := 1) (by omega) hL, xv (j := 2) (by omega) hL, rfl, h⟩
    | some (.inr (.inl a)), h => exact xgo [268] 100 ⟨xv (j := 1) (by omega) hL, xv (j := 2) (by omega) hL, rfl, h⟩
    | some (.inr (.inr a)), h => exact xgo [268] 100 ⟨xv (j := 1) (by omega) hL, xv (j := 2) (by omega) hL, rfl, h⟩
  · show xWP (pg_L L xs) 268 ([some (xo (xN 99)), some (xo (xN 0)), some (xo (xN 2)), some (xi (nI i))], [v, v], M') R
    match v, hn with
      | .inl a, _ => exact xgo [1223] 100 ⟨fun _ => nxt M' s' a1 a2 a3, fun z => absurd rfl z⟩
theorem lc_speaks {L i : Nat} {xs : Nat → Int32} {M : xM} {s : xS} {R : xR} (hL : L ≤ 3072) (hi : i + 6 ≤ L) (hC : xIc M s) (hM : xIm M s) (hV : xIv s) (nxt : ∀ M' s', xIc M' s' → xIm M' s' → xIv s' → xWP (pg_L L xs) 1223 ([some (xo (xN 99)), some (xo (xN 0)), some (xo (xN 2)), some (xi (nI i))], [], M') R) : xWP (pg_L L xs) 273 ([some (xo (xN 99)), some (xo (xN 0)), some (xo (xN 2)), some (xi (nI i))], [], M) R := by
  refine xgo [282] 100 ⟨xv (j := 1) (by omega) hL, rfl, xWP_mono (fun v1 M1 h => ?_) (j_speaks _ M s (fun v1 v2 M2 => xWP (pg_L L xs) 291 ([some (xo (xN 99)), some (xo (xN 0)), some (xo (xN 2)), some (xi (nI i))], v2.toList ++ v1.toList, M2) R) hC hM hV (fun v M' s' a1 a2 a3 hn => ?_))⟩
  · match v1, h with
    | none, h => exact xgo [291] 100 ⟨xv (j := 1) (by omega) hL, rfl, h⟩
    | some (.inl a), h => exact xgo [291] 100 ⟨xv (j := 1) (by omega) hL, rfl, h⟩
    | some (.inr (.inl a)), h => exact xgo [291] 100 ⟨xv (j := 1) (by omega) hL, rfl, h⟩
    | some (.inr (.inr a)), h => exact xgo [291] 100 ⟨xv (j := 1) (by omega) hL, rfl, h⟩
  · show xWP (pg_L L xs) 291 ([some (xo (xN 99)), some (xo (xN 0)), some (xo (xN 2)), some (xi (nI i))], [v, v], M') R
    match v, hn with
      | .inl a, _ => exact xgo [1223] 100 ⟨fun _ => nxt M' s' a1 a2 a3, fun z => absurd rfl z⟩
theorem lc_befriends {L i : Nat} {xs : Nat → Int32} {M : xM} {s : xS} {R : xR} (hL : L ≤ 3072) (hi : i + 6 ≤ L) (hC : xIc M s) (hM : xIm M s) (hV : xIv s) (nxt : ∀ M' s', xIc M' s' → xIm M' s' → xIv s' → xWP (pg_L L xs) 1223 ([some (xo (xN 99)), some (xo (xN 0)), some (xo (xN 2)), some (xi (nI i))], [], M') R) : xWP (pg_L L xs) 296 ([some (xo (xN 99)), some (xo (xN 0)), some (xo (xN 2)), some (xi (nI i))], [], M) R := by
  refine xgo [310] 100 ⟨xv (j := 1) (by omega) hL, xv (j := 2) (by omega) hL, rfl, xWP_mono (fun v1 M1 h => ?_) (j_befriends _ _ M s (fun v1 v2 M2 => xWP (pg_L L xs) 324 ([some (xo (xN 99)), some (xo (xN 0)), some (xo (xN 2)), some (xi (nI i))], v2.toList ++ v1.toList, M2) R) hC hM hV (fun v M' s' a1 a2 a3 hn => ?_))⟩
  · match v1, h with
    | none, h => exact xgo [324] 100 ⟨xv (j := 1) (by omega) hL, xv (j := 2) (by omega) hL, rfl, h⟩
    | some (.inl a), h => exact xgo [324] 100 ⟨xv (j := 1) (by omega) hL, xv (j := 2) (by omega) hL, rfl, h⟩
    | some (.inr (.inl a)), h => exact xgo [324] 100 ⟨xv (j := 1) (by omega) hL, xv (j := 2) (by omega) hL, rfl, h⟩
    | some (.inr (.inr a)), h => exact xgo [324] 100 ⟨xv (j := 1) (by omega) hL, xv (j := 2) (by omega) hL, rfl, h⟩
  · show xWP (pg_L L xs) 324 ([some (xo (xN 99)), some (xo (xN 0)), some (xo (xN 2)), some (xi (nI i))], [v, v], M') R
    match v, hn with
      | .inl a, _ => exact xgo [1223] 100 ⟨fun _ => nxt M' s' a1 a2 a3, fun z => absurd rfl z⟩
theorem lc_pours {L i : Nat} {xs : Nat → Int32} {M : xM} {s : xS} {R : xR} (hL : L ≤ 3072) (hi : i + 6 ≤ L) (hC : xIc M s) (hM : xIm M s) (hV : xIv s) (nxt : ∀ M' s', xIc M' s' → xIm M' s' → xIv s' → xWP (pg_L L xs) 1223 ([some (xo (xN 99)), some (xo (xN 0)), some (xo (xN 2)), some (xi (nI i))], [], M') R) : xWP (pg_L L xs) 329 ([some (xo (xN 99)), some (xo (xN 0)), some (xo (xN 2)), some (xi (nI i))], [], M) R := by
  refine xgo [343] 100 ⟨xv (j := 1) (by omega) hL, xv (j := 2) (by omega) hL, rfl, xWP_mono (fun v1 M1 h => ?_) (j_pours _ _ M s (fun v1 v2 M2 => xWP (pg_L L xs) 357 ([some (xo (xN 99)), some (xo (xN 0)), some (xo (xN 2)), some (xi (nI i))], v2.toList ++ v1.toList, M2) R) hC hM hV (fun v M' s' a1 a2 a3 hn => ?_))⟩
  · match v1, h with
    | none, h => exact xgo [357] 100 ⟨xv (j := 1) (by omega) hL, xv (j := 2) (by omega) hL, rfl, h⟩
    | some (.inl a), h => exact xgo [357] 100 ⟨xv (j := 1) (by omega) hL, xv (j := 2) (by omega) hL, rfl, h⟩
    | some (.inr (.inl a)), h => exact xgo [357] 100 ⟨xv (j := 1) (by omega) hL, xv (j := 2) (by omega) hL, rfl, h⟩
    | some (.inr (.inr a)), h => exact xgo [357] 100 ⟨xv (j := 1) (by omega) hL, xv (j := 2) (by omega) hL, rfl, h⟩
  · show xWP (pg_L L xs) 357 ([some (xo (xN 99)), some (xo (xN 0)), some (xo (xN 2)), some (xi (nI i))], [v, v], M') R
    match v, hn with
      | .inl a, _ => exact xgo [1223] 100 ⟨fun _ => nxt M' s' a1 a2 a3, fun z => absurd rfl z⟩
theorem lc_cans {L i : Nat} {xs : Nat → Int32} {M : xM} {s : xS} {R : xR} (hL : L ≤ 3072) (hi : i + 6 ≤ L) (hC : xIc M s) (hM : xIm M s) (hV : xIv s) (nxt : ∀ M' s', xIc M' s' → xIm M' s' → xIv s' → xWP (pg_L L xs) 1223 ([some (xo (xN 99)), some (xo (xN 0)), some (xo (xN 2)), some (xi (nI i))], [], M') R) : xWP (pg_L L xs) 362 ([some (xo (xN 99)), some (xo (xN 0)), some (xo (xN 2)), some (xi (nI i))], [], M) R := by
  refine xgo [376] 100 ⟨xv (j := 1) (by omega) hL, xv (j := 2) (by omega) hL, rfl, xWP_mono (fun v1 M1 h => ?_) (j_cans _ _ M s (fun v1 v2 M2 => xWP (pg_L L xs) 390 ([some (xo (xN 99)), some (xo (xN 0)), some (xo (xN 2)), some (xi (nI i))], v2.toList ++ v1.toList, M2) R) hC hM hV (fun v M' s' a1 a2 a3 hn => ?_))⟩
  · match v1, h with
    | none, h => exact xgo [390] 100 ⟨xv (j := 1) (by omega) hL, xv (j := 2) (by omega) hL, rfl, h⟩
    | some (.inl a), h => exact xgo [390] 100 ⟨xv (j := 1) (by omega) hL, xv (j := 2) (by omega) hL, rfl, h⟩
    | some (.inr (.inl a)), h => exact xgo [390] 100 ⟨xv (j := 1) (by omega) hL, xv (j := 2) (by omega) hL, rfl, h⟩
    | some (.inr (.inr a)), h => exact xgo [390] 100 ⟨xv (j := 1) (by omega) hL, xv (j := 2) (by omega) hL, rfl, h⟩
  · show xWP (pg_L L xs) 390 ([some (xo (xN 99)), some (xo (xN 0)), some (xo (xN 2)), some (xi (nI i))], [v, v], M') R
    match v, hn with
      | .inl a, _ => exact xgo [1223] 100 ⟨fun _ => nxt M' s' a1 a2 a3, fun z => absurd rfl z⟩
theorem lc_water {L i : Nat} {xs : Nat → Int32} {M : xM} {s : xS} {R : xR} (hL : L ≤ 3072) (hi : i + 6 ≤ L) (hC : xIc M s) (hM : xIm M s) (hV : xIv s) (nxt : ∀ M' s', xIc M' s' → xIm M' s' → xIv s' → xWP (pg_L L xs) 1223 ([some (xo (xN 99)), some (xo (xN 0)), some (xo (xN 2)), some (xi (nI i))], [], M') R) : xWP (pg_L L xs) 395 ([some (xo (xN 99)), some (xo (xN 0)), some (xo (xN 2)), some (xi (nI i))], [], M) R := by
  refine xgo [404] 100 ⟨xv (j := 1) (by omega) hL, rfl, xWP_mono (fun v1 M1 h => ?_) (j_water _ M s (fun v1 v2 M2 => xWP (pg_L L xs) 413 ([some (xo (xN 99)), some (xo (xN 0)), some (xo (xN 2)), some (xi (nI i))], v2.toList ++ v1.toList, M2) R) hC hM hV (fun v M' s' a1 a2 a3 hn => ?_))⟩
  · match v1, h with
    | none, h => exact xgo [413] 100 ⟨xv (j := 1) (by omega) hL, rfl, h⟩
    | some (.inl a), h => exact xgo [413] 100 ⟨xv (j := 1) (by omega) hL, rfl, h⟩
    | some (.inr (.inl a)), h => exact xgo [413] 100 ⟨xv (j := 1) (by omega) hL, rfl, h⟩
    | some (.inr (.inr a)), h => exact xgo [413] 100 ⟨xv (j := 1) (by omega) hL, rfl, h⟩
  · show xWP (pg_L L xs) 413 ([some (xo (xN 99)), some (xo (xN 0)), some (xo (xN 2)), some (xi (nI i))], [v, v], M') R
    match v, hn with
      | .inl a, _ => exact xgo [1223] 100 ⟨fun _ => nxt M' s' a1 a2 a3, fun z => absurd rfl z⟩
theorem lc_flow {L i : Nat} {xs : Nat → Int32} {M : xM} {s : xS} {R : xR} (hL : L ≤ 3072) (hi : i + 6 ≤ L) (hC : xIc M s) (hM : xIm M s) (hV : xIv s) (nxt : ∀ M' s', xIc M' s' → xIm M' s' → xIv s' → xWP (pg_L L xs) 1223 ([some (xo (xN 99)), some (xo (xN 0)), some (xo (xN 2)), some (xi (nI i))], [], M') R) : xWP (pg_L L xs) 418 ([some (xo (xN 99)), some (xo (xN 0)), some (xo (xN 2)), some (xi (nI i))], [], M) R := by
  refine xgo [427] 100 ⟨xv (j := 1) (by omega) hL, rfl, xWP_mono (fun v1 M1 h => ?_) (j_flow _ M s (fun v1 v2 M2 => xWP (pg_L L xs) 436 ([some (xo (xN 99)), some (xo (xN 0)), some (xo (xN 2)), some (xi (nI i))], v2.toList ++ v1.toList, M2) R) hC hM hV (fun v M' s' a1 a2 a3 hn => ?_))⟩
  · match v1, h with
    | none, h => exact xgo [436] 100 ⟨xv (j := 1) (by omega) hL, rfl, h⟩
    | some (.inl a), h => exact xgo [436] 100 ⟨xv (j := 1) (by omega) hL, rfl, h⟩
    | some (.inr (.inl a)), h => exact xgo [436] 100 ⟨xv (j := 1) (by omega) hL, rfl, h⟩
    | some (.inr (.inr a)), h => exact xgo [436] 100 ⟨xv (j := 1) (by omega) hL, rfl, h⟩
  · show xWP (pg_L L xs) 436 ([some (xo (xN 99)), some (xo (xN 0)), some (xo (xN 2)), some (xi (nI i))], [v, v], M') R
    match v, hn with
      | .inl a, _ => exact xgo [1223] 100 ⟨fun _ => nxt M' s' a1 a2 a3, fun z => absurd rfl z⟩
theorem lc_turn {L i : Nat} {xs : Nat → Int32} {M : xM} {s : xS} {R : xR} (hL : L ≤ 3072) (hi : i + 6 ≤ L) (hC : xIc M s) (hM : xIm M s) (hV : xIv s) (nxt : ∀ M' s', xIc M' s' → xIm M' s' → xIv s' → xWP (pg_L L xs) 1223 ([some (xo (xN 99)), some (xo (xN 0)), some (xo (xN 2)), some (xi (nI i))], [], M') R) : xWP (pg_L L xs) 441 ([some (xo (xN 99)), some (xo (xN 0)), some (xo (xN 2)), some (xi (nI i))], [], M) R := by
  refine xgo [460] 100 ⟨xv (j := 1) (by omega) hL, xv (j := 2) (by omega) hL, xv (j := 3) (by omega) hL, rfl, xWP_mono (fun v1 M1 h => ?_) (j_turn _ _ _ M s (fun v1 v2 M2 => xWP (pg_L L xs) 479 ([some (xo (xN 99)), some (xo (xN 0)), some (xo (xN 2)), some (xi (nI i))], v2.toList ++ v1.toList, M2) R) hC hM hV (fun v M' s' a1 a2 a3 hn => ?_))⟩
  · match v1, h with
    | none, h => exact xgo [479] 100 ⟨xv (j := 1) (by omega) hL, xv (j := 2) (by omega) hL, xv (j := 3) (by omega) hL, rfl, h⟩
    | some (.inl a), h => exact xgo [479] 100 ⟨xv (j := 1) (by omega) hL, xv (j := 2) (by omega) hL, xv (j := 3) (by omega) hL, rfl, h⟩
    | some (.inr (.inl a)), h => exact xgo [479] 100 ⟨xv (j := 1) (by omega) hL, xv (j := 2) (by omega) hL, xv (j := 3) (by omega) hL, rfl, h⟩
    | some (.inr (.inr a)), h => exact xgo [479] 100 ⟨xv (j := 1) (by omega) hL, xv (j := 2) (by omega) hL, xv (j := 3) (by omega) hL, rfl, h⟩
  · show xWP (pg_L L xs) 479 ([some (xo (xN 99)), some (xo (xN 0)), some (xo (xN 2)), some (xi (nI i))], [v, v], M') R
    match v, hn with
      | .inl a, _ => exact xgo [1223] 100 ⟨fun _ => nxt M' s' a1 a2 a3, fun z => absurd rfl z⟩
theorem lc_hours {L i : Nat} {xs : Nat → Int32} {M : xM} {s : xS} {R : xR} (hL : L ≤ 3072) (hi : i + 6 ≤ L) (hC : xIc M s) (hM : xIm M s) (hV : xIv s) (nxt : ∀ M' s', xIc M' s' → xIm M' s' → xIv s' → xWP (pg_L L xs) 1223 ([some (xo (xN 99)), some (xo (xN 0)), some (xo (xN 2)), some (xi (nI i))], [], M') R) : xWP (pg_L L xs) 484 ([some (xo (xN 99)), some (xo (xN 0)), some (xo (xN 2)), some (xi (nI i))], [], M) R := by
  refine xgo [493] 100 ⟨xv (j := 1) (by omega) hL, rfl, xWP_mono (fun v1 M1 h => ?_) (j_hours _ M s (fun v1 v2 M2 => xWP (pg_L L xs) 502 ([some (xo (xN 99)), some (xo (xN 0)), some (xo (xN 2)), some (xi (nI i))], v2.toList ++ v1.toList, M2) R) hC hM hV (fun v M' s' a1 a2 a3 hn => ?_))⟩
  · match v1, h with
    | none, h => exact xgo [502] 100 ⟨xv (j := 1) (by omega) hL, rfl, h⟩
    | some (.inl a), h => exact xgo [502] 100 ⟨xv (j := 1) (by omega) hL, rfl, h⟩
    | some (.inr (.inl a)), h => exact xgo [502] 100 ⟨xv (j := 1) (by omega) hL, rfl, h⟩
    | some (.inr (.inr a)), h => exact xgo [502] 100 ⟨xv (j := 1) (by omega) hL, rfl, h⟩
  · show xWP (pg_L L xs) 502 ([some (xo (xN 99)), some (xo (xN 0)), some (xo (xN 2)), some (xi (nI i))], [v, v], M') R
    match v, hn with
      | .inl a, _ => exact xgo [1223] 100 ⟨fun _ => nxt M' s' a1 a2 a3, fun z => absurd rfl z⟩
theorem lc_hasThen {L i : Nat} {xs : Nat → Int32} {M : xM} {s : xS} {R : xR} (hL : L ≤ 3072) (hi : i + 6 ≤ L) (hC : xIc M s) (hM : xIm M s) (hV : xIv s) (nxt : ∀ M' s', xIc M' s' → xIm M' s' → xIv s' → xWP (pg_L L xs) 1223 ([some (xo (xN 99)), some (xo (xN 0)), some (xo (xN 2)), some (xi (nI i))], [], M') R) : xWP (pg_L L xs) 507 ([some (xo (xN 99)), some (xo (xN 0)), some (xo (xN 2)), some (xi (nI i))], [], M) R := by
  refine xgo [521] 100 ⟨xv (j := 1) (by omega) hL, xv (j := 2) (by omega) hL, rfl, xWP_mono (fun v1 M1 h => ?_) (j_hasThen _ _ M s (fun v1 v2 M2 => xWP (pg_L L xs) 535 ([some (xo (xN 99)), some (xo (xN 0)), some (xo (xN 2)), some (xi (nI i))], v2.toList ++ v1.toList, M2) R) hC hM hV (fun v M' s' a1 a2 a3 hn => ?_))⟩
  · match v1, h with
    | none, h => exact xgo [535] 100 ⟨xv (j := 1) (by omega) hL, xv (j := 2) (by omega) hL, rfl, h⟩
    | some (.inl a), h => exact xgo [535] 100 ⟨xv (j := 1) (by omega) hL, xv (j := 2) (by omega) hL, rfl, h⟩
    | some (.inr (.inl a)), h => exact xgo [535] 100 ⟨xv (j := 1) (by omega) hL, xv (j := 2) (by omega) hL, rfl, h⟩
    | some (.inr (.inr a)), h => exact xgo [535] 100 ⟨xv (j := 1) (by omega) hL, xv (j := 2) (by omega) hL, rfl, h⟩
  · show xWP (pg_L L xs) 535 ([some (xo (xN 99)), some (xo (xN 0)), some (xo (xN 2)), some (xi (nI i))], [v, v], M') R
    match v, hn with
      | .inl a, _ => exact xgo [1223] 100 ⟨fun _ => nxt M' s' a1 a2 a3, fun z => absurd rfl z⟩
theorem lc_then {L i : Nat} {xs : Nat → Int32} {M : xM} {s : xS} {R : xR} (hL : L ≤ 3072) (hi : i + 6 ≤ L) (hC : xIc M s) (hM : xIm M s) (hV : xIv s) (nxt : ∀ M' s', xIc M' s' → xIm M' s' → xIv s' → xWP (pg_L L xs) 1223 ([some (xo (xN 99)), some (xo (xN 0)), some (xo (xN 2)), some (xi (nI i))], [], M') R) : xWP (pg_L L xs) 540 ([some (xo (xN 99)), some (xo (xN 0)), some (xo (xN 2)), some (xi (nI i))], [], M) R := by
  refine xgo [554] 100 ⟨xv (j := 1) (by omega) hL, xv (j := 2) (by omega) hL, rfl, xWP_mono (fun v1 M1 h => ?_) (j_then _ _ M s (fun v1 v2 M2 => xWP (pg_L L xs) 568 ([some (xo (xN 99)), some (xo (xN 0)), some (xo (xN 2)), some (xi (nI i))], v2.toList ++ v1.toList, M2) R) hC hM hV (fun v M' s' a1 a2 a3 hn => ?_))⟩
  · match v1, h with
    | none, h => exact xgo [568] 100 ⟨xv (j := 1) (by omega) hL, xv (j := 2) (by omega) hL, rfl, h⟩
    | some (.inl a), h => exact xgo [568] 100 ⟨xv (j := 1) (by omega) hL, xv (j := 2) (by omega) hL, rfl, h⟩
    | some (.inr (.inl a)), h => exact xgo [568] 100 ⟨xv (j := 1) (by omega) hL, xv (j := 2) (by omega) hL, rfl, h⟩
    | some (.inr (.inr a)), h => exact xgo [568] 100 ⟨xv (j := 1) (by omega) hL, xv (j := 2) (by omega) hL, rfl, h⟩
  · show xWP (pg_L L xs) 568 ([some (xo (xN 99)), some (xo (xN 0)), some (xo (xN 2)), some (xi (nI i))], [v, v], M') R
    match v, hn with
      | .inl a, _ => exact xgo [1223] 100 ⟨fun _ => nxt M' s' a1 a2 a3, fun z => absurd rfl z⟩
theorem lc_dry {L i : Nat} {xs : Nat → Int32} {M : xM} {s : xS} {R : xR} (hL : L ≤ 3072) (hi : i + 6 ≤ L) (hC : xIc M s) (hM : xIm M s) (hV : xIv s) (nxt : ∀ M' s', xIc M' s' → xIm M' s' → xIv s' → xWP (pg_L L xs) 1223 ([some (xo (xN 99)), some (xo (xN 0)), some (xo (xN 2)), some (xi (nI i))], [], M') R) : xWP (pg_L L xs) 573 ([some (xo (xN 99)), some (xo (xN 0)), some (xo (xN 2)), some (xi (nI i))], [], M) R := by
  refine xgo [582] 100 ⟨xv (j := 1) (by omega) hL, rfl, xWP_mono (fun v1 M1 h => ?_) (j_dry _ M s (fun v1 v2 M2 => xWP (pg_L L xs) 591 ([some (xo (xN 99)), some (xo (xN 0)), some (xo (xN 2)), some (xi (nI i))], v2.toList ++ v1.toList, M2) R) hC hM hV (fun v M' s' a1 a2 a3 hn => ?_))⟩
  · match v1, h with
    | none, h => exact xgo [591] 100 ⟨xv (j := 1) (by omega) hL, rfl, h⟩
    | some (.inl a), h => exact xgo [591] 100 ⟨xv (j := 1) (by omega) hL, rfl, h⟩
    | some (.inr (.inl a)), h => exact xgo [591] 100 ⟨xv (j := 1) (by omega) hL, rfl, h⟩
    | some (.inr (.inr a)), h => exact xgo [591] 100 ⟨xv (j := 1) (by omega) hL, rfl, h⟩
  · show xWP (pg_L L xs) 591 ([some (xo (xN 99)), some (xo (xN 0)), some (xo (xN 2)), some (xi (nI i))], [v, v], M') R
    match v, hn with
      | .inl a, _ => exact xgo [1223] 100 ⟨fun _ => nxt M' s' a1 a2 a3, fun z => absurd rfl z⟩
theorem lc_empty {L i : Nat} {xs : Nat → Int32} {M : xM} {s : xS} {R : xR} (hL : L ≤ 3072) (hi : i + 6 ≤ L) (hC : xIc M s) (hM : xIm M s) (hV : xIv s) (nxt : ∀ M' s', xIc M' s' → xIm M' s' → xIv s' → xWP (pg_L L xs) 1223 ([some (xo (xN 99)), some (xo (xN 0)), some (xo (xN 2)), some (xi (nI i))], [], M') R) : xWP (pg_L L xs) 596 ([some (xo (xN 99)), some (xo (xN 0)), some (xo (xN 2)), some (xi (nI i))], [], M) R := by
  refine xgo [600] 100 ⟨rfl, xWP_mono (fun v1 M1 h => ?_) (j_empty  M s (fun v1 v2 M2 => xWP (pg_L L xs) 604 ([some (xo (xN 99)), some (xo (xN 0)), some (xo (xN 2)), some (xi (nI i))], v2.toList ++ v1.toList, M2) R) hC hM hV (fun v M' s' a1 a2 a3 hn => ?_))⟩
  · match v1, h with
    | none, h => exact xgo [604] 100 ⟨rfl, h⟩
    | some (.inl a), h => exact xgo [604] 100 ⟨rfl, h⟩
    | some (.inr (.inl a)), h => exact xgo [604] 100 ⟨rfl, h⟩
    | some (.inr (.inr a)), h => exact xgo [604] 100 ⟨rfl, h⟩
  · show xWP (pg_L L xs) 604 ([some (xo (xN 99)), some (xo (xN 0)), some (xo (xN 2)), some (xi (nI i))], [v, v], M') R
    match v, hn with
      | .inl a, _ => exact xgo [1223] 100 ⟨fun _ => nxt M' s' a1 a2 a3, fun z => absurd rfl z⟩
theorem lc_flowBest {L i : Nat} {xs : Nat → Int32} {M : xM} {s : xS} {R : xR} (hL : L ≤ 3072) (hi : i + 6 ≤ L) (hC : xIc M s) (hM : xIm M s) (hV : xIv s) (nxt : ∀ M' s', xIc M' s' → xIm M' s' → xIv s' → xWP (pg_L L xs) 1223 ([some (xo (xN 99)), some (xo (xN 0)), some (xo (xN 2)), some (xi (nI i))], [], M') R) : xWP (pg_L L xs) 609 ([some (xo (xN 99)), some (xo (xN 0)), some (xo (xN 2)), some (xi (nI i))], [], M) R := by
  refine xgo [618] 100 ⟨xv (j := 1) (by omega) hL, rfl, xWP_mono (fun v1 M1 h => ?_) (j_flowBest _ M s (fun v1 v2 M2 => xWP (pg_L L xs) 627 ([some (xo (xN 99)), some (xo (xN 0)), some (xo (xN 2)), some (xi (nI i))], v2.toList ++ v1.toList, M2) R) hC hM hV (fun v M' s' a1 a2 a3 hn => ?_))⟩
  · match v1, h with
    | none, h => exact xgo [627] 100 ⟨xv (j := 1) (by omega) hL, rfl, h⟩
    | some (.inl a), h => exact xgo [627] 100 ⟨xv (j := 1) (by omega) hL, rfl, h⟩
    | some (.inr (.inl a)), h => exact xgo [627] 100 ⟨xv (j := 1) (by omega) hL, rfl, h⟩
    | some (.inr (.inr a)), h => exact xgo [627] 100 ⟨xv (j := 1) (by omega) hL, rfl, h⟩
  · show xWP (pg_L L xs) 627 ([some (xo (xN 99)), some (xo (xN 0)), some (xo (xN 2)), some (xi (nI i))], [v, v], M') R
    match v, hn with
      | .inl a, _ => exact xgo [1223] 100 ⟨fun _ => nxt M' s' a1 a2 a3, fun z => absurd rfl z⟩
theorem lc_canBest {L i : Nat} {xs : Nat → Int32} {M : xM} {s : xS} {R : xR} (hL : L ≤ 3072) (hi : i + 6 ≤ L) (hC : xIc M s) (hM : xIm M s) (hV : xIv s) (nxt : ∀ M' s', xIc M' s' → xIm M' s' → xIv s' → xWP (pg_L L xs) 1223 ([some (xo (xN 99)), some (xo (xN 0)), some (xo (xN 2)), some (xi (nI i))], [], M') R) : xWP (pg_L L xs) 632 ([some (xo (xN 99)), some (xo (xN 0)), some (xo (xN 2)), some (xi (nI i))], [], M) R := by
  refine xgo [646] 100 ⟨xv (j := 1) (by omega) hL, xv (j := 2) (by omega) hL, rfl, xWP_mono (fun v1 M1 h => ?_) (j_canBest _ _ M s (fun v1 v2 M2 => xWP (pg_L L xs) 660 ([some (xo (xN 99)), some (xo (xN 0)), some (xo (xN 2)), some (xi (nI i))], v2.toList ++ v1.toList, M2) R) hC hM hV (fun v M' s' a1 a2 a3 hn => ?_))⟩
  · match v1, h with
    | none, h => exact xgo [660] 100 ⟨xv (j := 1) (by omega) hL, xv (j := 2) (by omega) hL, rfl, h⟩
    | some (.inl a), h => exact xgo [660] 100 ⟨xv (j := 1) (by omega) hL, xv (j := 2) (by omega) hL, rfl, h⟩
    | some (.inr (.inl a)), h => exact xgo [660] 100 ⟨xv (j := 1) (by omega) hL, xv (j := 2) (by omega) hL, rfl, h⟩
    | some (.inr (.inr a)), h => exact xgo [660] 100 ⟨xv (j := 1) (by omega) hL, xv (j := 2) (by omega) hL, rfl, h⟩
  · show xWP (pg_L L xs) 660 ([some (xo (xN 99)), some (xo (xN 0)), some (xo (xN 2)), some (xi (nI i))], [v, v], M') R
    match v, hn with
      | .inl a, _ => exact xgo [1223] 100 ⟨fun _ => nxt M' s' a1 a2 a3, fun z => absurd rfl z⟩
theorem lc_friendBest {L i : Nat} {xs : Nat → Int32} {M : xM} {s : xS} {R : xR} (hL : L ≤ 3072) (hi : i + 6 ≤ L) (hC : xIc M s) (hM : xIm M s) (hV : xIv s) (nxt : ∀ M' s', xIc M' s' → xIm M' s' → xIv s' → xWP (pg_L L xs) 1223 ([some (xo (xN 99)), some (xo (xN 0)), some (xo (xN 2)), some (xi (nI i))], [], M') R) : xWP (pg_L L xs) 665 ([some (xo (xN 99)), some (xo (xN 0)), some (xo (xN 2)), some (xi (nI i))], [], M) R := by
  refine xgo [679] 100 ⟨xv (j := 1) (by omega) hL, xv (j := 2) (by omega) hL, rfl, xWP_mono (fun v1 M1 h => ?_) (j_friendBest _ _ M s (fun v1 v2 M2 => xWP (pg_L L xs) 693 ([some (xo (xN 99)), some (xo (xN 0)), some (xo (xN 2)), some (xi (nI i))], v2.toList ++ v1.toList, M2) R) hC hM hV (fun v M' s' a1 a2 a3 hn => ?_))⟩
  · match v1, h with
    | none, h => exact xgo [693] 100 ⟨xv (j := 1) (by omega) hL, xv (j := 2) (by omega) hL, rfl, h⟩
    | some (.inl a), h => exact xgo [693] 100 ⟨xv (j := 1) (by omega) hL, xv (j := 2) (by omega) hL, rfl, h⟩
    | some (.inr (.inl a)), h => exact xgo [693] 100 ⟨xv (j := 1) (by omega) hL, xv (j := 2) (by omega) hL, rfl, h⟩
    | some (.inr (.inr a)), h => exact xgo [693] 100 ⟨xv (j := 1) (by omega) hL, xv (j := 2) (by omega) hL, rfl, h⟩
  · show xWP (pg_L L xs) 693 ([some (xo (xN 99)), some (xo (xN 0)), some (xo (xN 2)), some (xi (nI i))], [v, v], M') R
    match v, hn with
      | .inl a, _ => exact xgo [1223] 100 ⟨fun _ => nxt M' s' a1 a2 a3, fun z => absurd rfl z⟩
theorem lc_hush {L i : Nat} {xs : Nat → Int32} {M : xM} {s : xS} {R : xR} (hL : L ≤ 3072) (hi : i + 6 ≤ L) (hC : xIc M s) (hM : xIm M s) (hV : xIv s) (nxt : ∀ M' s', xIc M' s' → xIm M' s' → xIv s' → xWP (pg_L L xs) 1223 ([some (xo (xN 99)), some (xo (xN 0)), some (xo (xN 2)), some (xi (nI i))], [], M') R) : xWP (pg_L L xs) 698 ([some (xo (xN 99)), some (xo (xN 0)), some (xo (xN 2)), some (xi (nI i))], [], M) R := by
  refine xgo [707] 100 ⟨xv (j := 1) (by omega) hL, rfl, xWP_mono (fun v1 M1 h => ?_) (j_hush _ M s (fun v1 v2 M2 => xWP (pg_L L xs) 716 ([some (xo (xN 99)), some (xo (xN 0)), some (xo (xN 2)), some (xi (nI i))], v2.toList ++ v1.toList, M2) R) hC hM hV (fun v M' s' a1 a2 a3 hn => ?_))⟩
  · match v1, h with
    | none, h => exact xgo [716] 100 ⟨xv (j := 1) (by omega) hL, rfl, h⟩
    | some (.inl a), h => exact xgo [716] 100 ⟨xv (j := 1) (by omega) hL, rfl, h⟩
    | some (.inr (.inl a)), h => exact xgo [716] 100 ⟨xv (j := 1) (by omega) hL, rfl, h⟩
    | some (.inr (.inr a)), h => exact xgo [716] 100 ⟨xv (j := 1) (by omega) hL, rfl, h⟩
  · show xWP (pg_L L xs) 716 ([some (xo (xN 99)), some (xo (xN 0)), some (xo (xN 2)), some (xi (nI i))], [v, v], M') R
    match v, hn with
      | .inl a, _ => exact xgo [1223] 100 ⟨fun _ => nxt M' s' a1 a2 a3, fun z => absurd rfl z⟩
theorem lc_fewest {L i : Nat} {xs : Nat → Int32} {M : xM} {s : xS} {R : xR} (hL : L ≤ 3072) (hi : i + 6 ≤ L) (hC : xIc M s) (hM : xIm M s) (hV : xIv s) (nxt : ∀ M' s', xIc M' s' → xIm M' s' → xIv s' → xWP (pg_L L xs) 1223 ([some (xo (xN 99)), some (xo (xN 0)), some (xo (xN 2)), some (xi (nI i))], [], M') R) : xWP (pg_L L xs) 721 ([some (xo (xN 99)), some (xo (xN 0)), some (xo (xN 2)), some (xi (nI i))], [], M) R := by
  refine xgo [730] 100 ⟨xv (j := 1) (by omega) hL, rfl, xWP_mono (fun v1 M1 h => ?_) (j_fewest _ M s (fun v1 v2 M2 => xWP (pg_L L xs) 739 ([some (xo (xN 99)), some (xo (xN 0)), some (xo (xN 2)), some (xi (nI i))], v2.toList ++ v1.toList, M2) R) hC hM hV (fun v M' s' a1 a2 a3 hn => ?_))⟩
  · match v1, h with
    | none, h => exact xgo [739] 100 ⟨xv (j := 1) (by omega) hL, rfl, h⟩
    | some (.inl a), h => exact xgo [739] 100 ⟨xv (j := 1) (by omega) hL, rfl, h⟩
    | some (.inr (.inl a)), h => exact xgo [739] 100 ⟨xv (j := 1) (by omega) hL, rfl, h⟩
    | some (.inr (.inr a)), h => exact xgo [739] 100 ⟨xv (j := 1) (by omega) hL, rfl, h⟩
  · show xWP (pg_L L xs) 739 ([some (xo (xN 99)), some (xo (xN 0)), some (xo (xN 2)), some (xi (nI i))], [v, v], M') R
    match v, hn with
      | .inl a, _ => exact xgo [1223] 100 ⟨fun _ => nxt M' s' a1 a2 a3, fun z => absurd rfl z⟩
theorem lc_word {L i : Nat} {xs : Nat → Int32} {M : xM} {s : xS} {R : xR} (hL : L ≤ 3072) (hi : i + 6 ≤ L) (hC : xIc M s) (hM : xIm M s) (hV : xIv s) (nxt : ∀ M' s', xIc M' s' → xIm M' s' → xIv s' → xWP (pg_L L xs) 1223 ([some (xo (xN 99)), some (xo (xN 0)), some (xo (xN 2)), some (xi (nI i))], [], M') R) : xWP (pg_L L xs) 744 ([some (xo (xN 99)), some (xo (xN 0)), some (xo (xN 2)), some (xi (nI i))], [], M) R := by
  refine xgo [753] 100 ⟨xv (j := 1) (by omega) hL, rfl, xWP_mono (fun v1 M1 h => ?_) (j_word _ M s (fun v1 v2 M2 => xWP (pg_L L xs) 762 ([some (xo (xN 99)), some (xo (xN 0)), some (xo (xN 2)), some (xi (nI i))], v2.toList ++ v1.toList, M2) R) hC hM hV (fun v M' s' a1 a2 a3 hn => ?_))⟩
  · match v1, h with
    | none, h => exact xgo [762] 100 ⟨xv (j := 1) (by omega) hL, rfl, h⟩
    | some (.inl a), h => exact xgo [762] 100 ⟨xv (j := 1) (by omega) hL, rfl, h⟩
    | some (.inr (.inl a)), h => exact xgo [762] 100 ⟨xv (j := 1) (by omega) hL, rfl, h⟩
    | some (.inr (.inr a)), h => exact xgo [762] 100 ⟨xv (j := 1) (by omega) hL, rfl, h⟩
  · show xWP (pg_L L xs) 762 ([some (xo (xN 99)), some (xo (xN 0)), some (xo (xN 2)), some (xi (nI i))], [v, v], M') R
    match v, hn with
      | .inl a, _ => exact xgo [1223] 100 ⟨fun _ => nxt M' s' a1 a2 a3, fun z => absurd rfl z⟩
theorem lc_send {L i : Nat} {xs : Nat → Int32} {M : xM} {s : xS} {R : xR} (hL : L ≤ 3072) (hi : i + 6 ≤ L) (hC : xIc M s) (hM : xIm M s) (hV : xIv s) (nxt : ∀ M' s', xIc M' s' → xIm M' s' → xIv s' → xWP (pg_L L xs) 1223 ([some (xo (xN 99)), some (xo (xN 0)), some (xo (xN 2)), some (xi (nI i))], [], M') R) : xWP (pg_L L xs) 767 ([some (xo (xN 99)), some (xo (xN 0)), some (xo (xN 2)), some (xi (nI i))], [], M) R := by
  refine xgo [781] 100 ⟨xv (j := 1) (by omega) hL, xv (j := 2) (by omega) hL, rfl, xWP_mono (fun v1 M1 h => ?_) (j_send _ _ M s (fun v1 v2 M2 => xWP (pg_L L xs) 795 ([some (xo (xN 99)), some (xo (xN 0)), some (xo (xN 2)), some (xi (nI i))], v2.toList ++ v1.toList, M2) R) hC hM hV (fun v M' s' a1 a2 a3 hn => ?_))⟩
  · match v1, h with
    | none, h => exact xgo [795] 100 ⟨xv (j := 1) (by omega) hL, xv (j := 2) (by omega) hL, rfl, h⟩
    | some (.inl a), h => exact xgo [795] 100 ⟨xv (j := 1) (by omega) hL, xv (j := 2) (by omega) hL, rfl, h⟩
    | some (.inr (.inl a)), h => exact xgo [795] 100 ⟨xv (j := 1) (by omega) hL, xv (j := 2) (by omega) hL, rfl, h⟩
    | some (.inr (.inr a)), h => exact xgo [795] 100 ⟨xv (j := 1) (by omega) hL, xv (j := 2) (by omega) hL, rfl, h⟩
  · show xWP (pg_L L xs) 795 ([some (xo (xN 99)), some (xo (xN 0)), some (xo (xN 2)), some (xi (nI i))], [v, v], M') R
    match v, hn with
      | .inl a, _ => exact xgo [1223] 100 ⟨fun _ => nxt M' s' a1 a2 a3, fun z => absurd rfl z⟩
theorem lc_next {L i : Nat} {xs : Nat → Int32} {M : xM} {s : xS} {R : xR} (hL : L ≤ 3072) (hi : i + 6 ≤ L) (hC : xIc M s) (hM : xIm M s) (hV : xIv s) (nxt : ∀ M' s', xIc M' s' → xIm M' s' → xIv s' → xWP (pg_L L xs) 1223 ([some (xo (xN 99)), some (xo (xN 0)), some (xo (xN 2)), some (xi (nI i))], [], M') R) : xWP (pg_L L xs) 800 ([some (xo (xN 99)), some (xo (xN 0)), some (xo (xN 2)), some (xi (nI i))], [], M) R := by
  refine xgo [804] 100 ⟨rfl, xWP_mono (fun v1 M1 h => ?_) (j_next  M s (fun v1 v2 M2 => xWP (pg_L L xs) 808 ([some (xo (xN 99)), some (xo (xN 0)), some (xo (xN 2)), some (xi (nI i))], v2.toList ++ v1.toList, M2) R) hC hM hV (fun v M' s' a1 a2 a3 hn => ?_))⟩
  · match v1, h with
    | none, h => exact xgo [808] 100 ⟨rfl, h⟩
    | some (.inl a), h => exact xgo [808] 100 ⟨rfl, h⟩
    | some (.inr (.inl a)), h => exact xgo [808] 100 ⟨rfl, h⟩
    | some (.inr (.inr a)), h => exact xgo [808] 100 ⟨rfl, h⟩
  · show xWP (pg_L L xs) 808 ([some (xo (xN 99)), some (xo (xN 0)), some (xo (xN 2)), some (xi (nI i))], [v, v], M') R
    match v, hn with
      | .inl a, _ => exact xgo [1223] 100 ⟨fun _ => nxt M' s' a1 a2 a3, fun z => absurd rfl z⟩
theorem lc_richest {L i : Nat} {xs : Nat → Int32} {M : xM} {s : xS} {R : xR} (hL : L ≤ 3072) (hi : i + 6 ≤ L) (hC : xIc M s) (hM : xIm M s) (hV : xIv s) (nxt : ∀ M' s', xIc M' s' → xIm M' s' → xIv s' → xWP (pg_L L xs) 1223 ([some (xo (xN 99)), some (xo (xN 0)), some (xo (xN 2)), some (xi (nI i))], [], M') R) : xWP (pg_L L xs) 813 ([some (xo (xN 99)), some (xo (xN 0)), some (xo (xN 2)), some (xi (nI i))], [], M) R := by
  refine xgo [822] 100 ⟨xv (j := 1) (by omega) hL, rfl, xWP_mono (fun v1 M1 h => ?_) (j_richest _ M s (fun v1 v2 M2 => xWP (pg_L L xs) 831 ([some (xo (xN 99)), some (xo (xN 0)), some (xo (xN 2)), some (xi (nI i))], v2.toList ++ v1.toList, M2) R) hC hM hV (fun v M' s' a1 a2 a3 hn => ?_))⟩
  · match v1, h with
    | none, h => exact xgo [831] 100 ⟨xv (j := 1) (by omega) hL, rfl, h⟩
    | some (.inl a), h => exact xgo [831] 100 ⟨xv (j := 1) (by omega) hL, rfl, h⟩
    | some (.inr (.inl a)), h => exact xgo [831] 100 ⟨xv (j := 1) (by omega) hL, rfl, h⟩
    | some (.inr (.inr a)), h => exact xgo [831] 100 ⟨xv (j := 1) (by omega) hL, rfl, h⟩
  · show xWP (pg_L L xs) 831 ([some (xo (xN 99)), some (xo (xN 0)), some (xo (xN 2)), some (xi (nI i))], [v, v], M') R
    match v, hn with
      | .inl a, _ => exact xgo [1223] 100 ⟨fun _ => nxt M' s' a1 a2 a3, fun z => absurd rfl z⟩
theorem lc_quiet {L i : Nat} {xs : Nat → Int32} {M : xM} {s : xS} {R : xR} (hL : L ≤ 3072) (hi : i + 6 ≤ L) (hC : xIc M s) (hM : xIm M s) (hV : xIv s) (nxt : ∀ M' s', xIc M' s' → xIm M' s' → xIv s' → xWP (pg_L L xs) 1223 ([some (xo (xN 99)), some (xo (xN 0)), some (xo (xN 2)), some (xi (nI i))], [], M') R) : xWP (pg_L L xs) 836 ([some (xo (xN 99)), some (xo (xN 0)), some (xo (xN 2)), some (xi (nI i))], [], M) R := by
  refine xgo [845] 100 ⟨xv (j := 1) (by omega) hL, rfl, xWP_mono (fun v1 M1 h => ?_) (j_quiet _ M s (fun v1 v2 M2 => xWP (pg_L L xs) 854 ([some (xo (xN 99)), some (xo (xN 0)), some (xo (xN 2)), some (xi (nI i))], v2.toList ++ v1.toList, M2) R) hC hM hV (fun v M' s' a1 a2 a3 hn => ?_))⟩
  · match v1, h with
    | none, h => exact xgo [854] 100 ⟨xv (j := 1) (by omega) hL, rfl, h⟩
    | some (.inl a), h => exact xgo [854] 100 ⟨xv (j := 1) (by omega) hL, rfl, h⟩
    | some (.inr (.inl a)), h => exact xgo [854] 100 ⟨xv (j := 1) (by omega) hL, rfl, h⟩
    | some (.inr (.inr a)), h => exact xgo [854] 100 ⟨xv (j := 1) (by omega) hL, rfl, h⟩
  · show xWP (pg_L L xs) 854 ([some (xo (xN 99)), some (xo (xN 0)), some (xo (xN 2)), some (xi (nI i))], [v, v], M') R
    match v, hn with
      | .inl a, _ => exact xgo [1223] 100 ⟨fun _ => nxt M' s' a1 a2 a3, fun z => absurd rfl z⟩
theorem lc_thirst {L i : Nat} {xs : Nat → Int32} {M : xM} {s : xS} {R : xR} (hL : L ≤ 3072) (hi : i + 6 ≤ L) (hC : xIc M s) (hM : xIm M s) (hV : xIv s) (nxt : ∀ M' s', xIc M' s' → xIm M' s' → xIv s' → xWP (pg_L L xs) 1223 ([some (xo (xN 99)), some (xo (xN 0)), some (xo (xN 2)), some (xi (nI i))], [], M') R) : xWP (pg_L L xs) 859 ([some (xo (xN 99)), some (xo (xN 0)), some (xo (xN 2)), some (xi (nI i))], [], M) R := by
  refine xgo [863] 100 ⟨rfl, xWP_mono (fun v1 M1 h => ?_) (j_thirst  M s (fun v1 v2 M2 => xWP (pg_L L xs) 867 ([some (xo (xN 99)), some (xo (xN 0)), some (xo (xN 2)), some (xi (nI i))], v2.toList ++ v1.toList, M2) R) hC hM hV (fun v M' s' a1 a2 a3 hn => ?_))⟩
  · match v1, h with
    | none, h => exact xgo [867] 100 ⟨rfl, h⟩
    | some (.inl a), h => exact xgo [867] 100 ⟨rfl, h⟩
    | some (.inr (.inl a)), h => exact xgo [867] 100 ⟨rfl, h⟩
    | some (.inr (.inr a)), h => exact xgo [867] 100 ⟨rfl, h⟩
  · show xWP (pg_L L xs) 867 ([some (xo (xN 99)), some (xo (xN 0)), some (xo (xN 2)), some (xi (nI i))], [v, v], M') R
    match v, hn with
      | .inl a, _ => exact xgo [1223] 100 ⟨fun _ => nxt M' s' a1 a2 a3, fun z => absurd rfl z⟩
theorem lc_lasts {L i : Nat} {xs : Nat → Int32} {M : xM} {s : xS} {R : xR} (hL : L ≤ 3072) (hi : i + 6 ≤ L) (hC : xIc M s) (hM : xIm M s) (hV : xIv s) (nxt : ∀ M' s', xIc M' s' → xIm M' s' → xIv s' → xWP (pg_L L xs) 1223 ([some (xo (xN 99)), some (xo (xN 0)), some (xo (xN 2)), some (xi (nI i))], [], M') R) : xWP (pg_L L xs) 872 ([some (xo (xN 99)), some (xo (xN 0)), some (xo (xN 2)), some (xi (nI i))], [], M) R := by
  refine xgo [881] 100 ⟨xv (j := 1) (by omega) hL, rfl, xWP_mono (fun v1 M1 h => ?_) (j_lasts _ M s (fun v1 v2 M2 => xWP (pg_L L xs) 890 ([some (xo (xN 99)), some (xo (xN 0)), some (xo (xN 2)), some (xi (nI i))], v2.toList ++ v1.toList, M2) R) hC hM hV (fun v M' s' a1 a2 a3 hn => ?_))⟩
  · match v1, h with
    | none, h => exact xgo [890] 100 ⟨xv (j := 1) (by omega) hL, rfl, h⟩
    | some (.inl a), h => exact xgo [890] 100 ⟨xv (j := 1) (by omega) hL, rfl, h⟩
    | some (.inr (.inl a)), h => exact xgo [890] 100 ⟨xv (j := 1) (by omega) hL, rfl, h⟩
    | some (.inr (.inr a)), h => exact xgo [890] 100 ⟨xv (j := 1) (by omega) hL, rfl, h⟩
  · show xWP (pg_L L xs) 890 ([some (xo (xN 99)), some (xo (xN 0)), some (xo (xN 2)), some (xi (nI i))], [v, v], M') R
    match v, hn with
      | .inl a, _ => exact xgo [1223] 100 ⟨fun _ => nxt M' s' a1 a2 a3, fun z => absurd rfl z⟩
theorem lc_carries {L i : Nat} {xs : Nat → Int32} {M : xM} {s : xS} {R : xR} (hL : L ≤ 3072) (hi : i + 6 ≤ L) (hC : xIc M s) (hM : xIm M s) (hV : xIv s) (nxt : ∀ M' s', xIc M' s' → xIm M' s' → xIv s' → xWP (pg_L L xs) 1223 ([some (xo (xN 99)), some (xo (xN 0)), some (xo (xN 2)), some (xi (nI i))], [], M') R) : xWP (pg_L L xs) 895 ([some (xo (xN 99)), some (xo (xN 0)), some (xo (xN 2)), some (xi (nI i))], [], M) R := by
  refine xgo [904] 100 ⟨xv (j := 1) (by omega) hL, rfl, xWP_mono (fun v1 M1 h => ?_) (j_carries _ M s (fun v1 v2 M2 => xWP (pg_L L xs) 913 ([some (xo (xN 99)), some (xo (xN 0)), some (xo (xN 2)), some (xi (nI i))], v2.toList ++ v1.toList, M2) R) hC hM hV (fun v M' s' a1 a2 a3 hn => ?_))⟩
  · match v1, h with
    | none, h => exact xgo [913] 100 ⟨xv (j := 1) (by omega) hL, rfl, h⟩
    | some (.inl a), h => exact xgo [913] 100 ⟨xv (j := 1) (by omega) hL, rfl, h⟩
    | some (.inr (.inl a)), h => exact xgo [913] 100 ⟨xv (j := 1) (by omega) hL, rfl, h⟩
    | some (.inr (.inr a)), h => exact xgo [913] 100 ⟨xv (j := 1) (by omega) hL, rfl, h⟩
  · show xWP (pg_L L xs) 913 ([some (xo (xN 99)), some (xo (xN 0)), some (xo (xN 2)), some (xi (nI i))], [v, v], M') R
    match v, hn with
      | .inl a, _ => exact xgo [1223] 100 ⟨fun _ => nxt M' s' a1 a2 a3, fun z => absurd rfl z⟩
theorem lc_two {L i : Nat} {xs : Nat → Int32} {M : xM} {s : xS} {R : xR} (hL : L ≤ 3072) (hi : i + 6 ≤ L) (hC : xIc M s) (hM : xIm M s) (hV : xIv s) (nxt : ∀ M' s', xIc M' s' → xIm M' s' → xIv s' → xWP (pg_L L xs) 1223 ([some (xo (xN 99)), some (xo (xN 0)), some (xo (xN 2)), some (xi (nI i))], [], M') R) : xWP (pg_L L xs) 918 ([some (xo (xN 99)), some (xo (xN 0)), some (xo (xN 2)), some (xi (nI i))], [], M) R := by
  refine xgo [937] 100 ⟨xv (j := 1) (by omega) hL, xv (j := 2) (by omega) hL, xv (j := 3) (by omega) hL, rfl, xWP_mono (fun v1 M1 h => ?_) (j_two _ _ _ M s (fun v1 v2 M2 => xWP (pg_L L xs) 956 ([some (xo (xN 99)), some (xo (xN 0)), some (xo (xN 2)), some (xi (nI i))], v2.toList ++ v1.toList, M2) R) hC hM hV (fun v M' s' a1 a2 a3 hn => ?_))⟩
  · match v1, h with
    | none, h => exact xgo [956] 100 ⟨xv (j := 1) (by omega) hL, xv (j := 2) (by omega) hL, xv (j := 3) (by omega) hL, rfl, h⟩
    | some (.inl a), h => exact xgo [956] 100 ⟨xv (j := 1) (by omega) hL, xv (j := 2) (by omega) hL, xv (j := 3) (by omega) hL, rfl, h⟩
    | some (.inr (.inl a)), h => exact xgo [956] 100 ⟨xv (j := 1) (by omega) hL, xv (j := 2) (by omega) hL, xv (j := 3) (by omega) hL, rfl, h⟩
    | some (.inr (.inr a)), h => exact xgo [956] 100 ⟨xv (j := 1) (by omega) hL, xv (j := 2) (by omega) hL, xv (j := 3) (by omega) hL, rfl, h⟩
  · show xWP (pg_L L xs) 956 ([some (xo (xN 99)), some (xo (xN 0)), some (xo (xN 2)), some (xi (nI i))], [v, v], M') R
    match v, hn with
      | .inl a, _ => exact xgo [1223] 100 ⟨fun _ => nxt M' s' a1 a2 a3, fun z => absurd rfl z⟩
theorem lc_sneeze {L i : Nat} {xs : Nat → Int32} {M : xM} {s : xS} {R : xR} (hL : L ≤ 3072) (hi : i + 6 ≤ L) (hC : xIc M s) (hM : xIm M s) (hV : xIv s) (nxt : ∀ M' s', xIc M' s' → xIm M' s' → xIv s' → xWP (pg_L L xs) 1223 ([some (xo (xN 99)), some (xo (xN 0)), some (xo (xN 2)), some (xi (nI i))], [], M') R) : xWP (pg_L L xs) 961 ([some (xo (xN 99)), some (xo (xN 0)), some (xo (xN 2)), some (xi (nI i))], [], M) R := by
  refine xgo [990] 100 ⟨xv (j := 1) (by omega) hL, xv (j := 2) (by omega) hL, xv (j := 3) (by omega) hL, xv (j := 4) (by omega) hL, xv (j := 5) (by omega) hL, rfl, xWP_mono (fun v1 M1 h => ?_) (j_sneeze _ _ _ _ _ M s (fun v1 v2 M2 => xWP (pg_L L xs) 1019 ([some (xo (xN 99)), some (xo (xN 0)), some (xo (xN 2)), some (xi (nI i))], v2.toList ++ v1.toList, M2) R) hC hM hV (fun v M' s' a1 a2 a3 hn => ?_))⟩
  · match v1, h with
    | none, h => exact xgo [1019] 100 ⟨xv (j := 1) (by omega) hL, xv (j := 2) (by omega) hL, xv (j := 3) (by omega) hL, xv (j := 4) (by omega) hL, xv (j := 5) (by omega) hL, rfl, h⟩
    | some (.inl a), h => exact xgo [1019] 100 ⟨xv (j := 1) (by omega) hL, xv (j := 2) (by omega) hL, xv (j := 3) (by omega) hL, xv (j := 4) (by omega) hL, xv (j := 5) (by omega) hL, rfl, h⟩
    | some (.inr (.inl a)), h => exact xgo [1019] 100 ⟨xv (j := 1) (by omega) hL, xv (j := 2) (by omega) hL, xv (j := 3) (by omega) hL, xv (j := 4) (by omega) hL, xv (j := 5) (by omega) hL, rfl, h⟩
    | some (.inr (.inr a)), h => exact xgo [1019] 100 ⟨xv (j := 1) (by omega) hL, xv (j := 2) (by omega) hL, xv (j := 3) (by omega) hL, xv (j := 4) (by omega) hL, xv (j := 5) (by omega) hL, rfl, h⟩
  · show xWP (pg_L L xs) 1019 ([some (xo (xN 99)), some (xo (xN 0)), some (xo (xN 2)), some (xi (nI i))], [v, v], M') R
    match v, hn with
      | .inr (.inl a), _ => exact xgo [1223] 100 ⟨fun _ => nxt M' s' a1 a2 a3, fun z => absurd ((lg_cmp_eq _ _).mpr rfl) z⟩
theorem lc_mean {L i : Nat} {xs : Nat → Int32} {M : xM} {s : xS} {R : xR} (hL : L ≤ 3072) (hi : i + 6 ≤ L) (hC : xIc M s) (hM : xIm M s) (hV : xIv s) (nxt : ∀ M' s', xIc M' s' → xIm M' s' → xIv s' → xWP (pg_L L xs) 1223 ([some (xo (xN 99)), some (xo (xN 0)), some (xo (xN 2)), some (xi (nI i))], [], M') R) : xWP (pg_L L xs) 1025 ([some (xo (xN 99)), some (xo (xN 0)), some (xo (xN 2)), some (xi (nI i))], [], M) R := by
  refine xgo [1034] 100 ⟨xv (j := 1) (by omega) hL, rfl, xWP_mono (fun v1 M1 h => ?_) (j_mean _ M s (fun v1 v2 M2 => xWP (pg_L L xs) 1043 ([some (xo (xN 99)), some (xo (xN 0)), some (xo (xN 2)), some (xi (nI i))], v2.toList ++ v1.toList, M2) R) hC hM hV (fun v M' s' a1 a2 a3 hn => ?_))⟩
  · match v1, h with
    | none, h => exact xgo [1043] 100 ⟨xv (j := 1) (by omega) hL, rfl, h⟩
    | some (.inl a), h => exact xgo [1043] 100 ⟨xv (j := 1) (by omega) hL, rfl, h⟩
    | some (.inr (.inl a)), h => exact xgo [1043] 100 ⟨xv (j := 1) (by omega) hL, rfl, h⟩
    | some (.inr (.inr a)), h => exact xgo [1043] 100 ⟨xv (j := 1) (by omega) hL, rfl, h⟩
  · show xWP (pg_L L xs) 1043 ([some (xo (xN 99)), some (xo (xN 0)), some (xo (xN 2)), some (xi (nI i))], [v, v], M') R
    match v, hn with
      | .inr (.inl a), _ => exact xgo [1223] 100 ⟨fun _ => nxt M' s' a1 a2 a3, fun z => absurd ((lg_cmp_eq _ _).mpr rfl) z⟩
theorem lc_whatIs {L i : Nat} {xs : Nat → Int32} {M : xM} {s : xS} {R : xR} (hL : L ≤ 3072) (hi : i + 6 ≤ L) (hC : xIc M s) (hM : xIm M s) (hV : xIv s) (nxt : ∀ M' s', xIc M' s' → xIm M' s' → xIv s' → xWP (pg_L L xs) 1223 ([some (xo (xN 99)), some (xo (xN 0)), some (xo (xN 2)), some (xi (nI i))], [], M') R) : xWP (pg_L L xs) 1049 ([some (xo (xN 99)), some (xo (xN 0)), some (xo (xN 2)), some (xi (nI i))], [], M) R := by
  refine xgo [1063] 100 ⟨xv (j := 1) (by omega) hL, xv (j := 2) (by omega) hL, rfl, xWP_mono (fun v1 M1 h => ?_) (j_whatIs _ _ M s (fun v1 v2 M2 => xWP (pg_L L xs) 1077 ([some (xo (xN 99)), some (xo (xN 0)), some (xo (xN 2)), some (xi (nI i))], v2.toList ++ v1.toList, M2) R) hC hM hV (fun v M' s' a1 a2 a3 hn => ?_))⟩
  · match v1, h with
    | none, h => exact xgo [1077] 100 ⟨xv (j := 1) (by omega) hL, xv (j := 2) (by omega) hL, rfl, h⟩
    | some (.inl a), h => exact xgo [1077] 100 ⟨xv (j := 1) (by omega) hL, xv (j := 2) (by omega) hL, rfl, h⟩
    | some (.inr (.inl a)), h => exact xgo [1077] 100 ⟨xv (j := 1) (by omega) hL, xv (j := 2) (by omega) hL, rfl, h⟩
    | some (.inr (.inr a)), h => exact xgo [1077] 100 ⟨xv (j := 1) (by omega) hL, xv (j := 2) (by omega) hL, rfl, h⟩
  · show xWP (pg_L L xs) 1077 ([some (xo (xN 99)), some (xo (xN 0)), some (xo (xN 2)), some (xi (nI i))], [v, v], M') R
    match v, hn with
      | .inl a, _ => exact xgo [1223] 100 ⟨fun _ => nxt M' s' a1 a2 a3, fun z => absurd rfl z⟩
theorem lc_row {L i : Nat} {xs : Nat → Int32} {M : xM} {s : xS} {R : xR} (hL : L ≤ 3072) (hi : i + 6 ≤ L) (hC : xIc M s) (hM : xIm M s) (hV : xIv s) (nxt : ∀ M' s', xIc M' s' → xIm M' s' → xIv s' → xWP (pg_L L xs) 1223 ([some (xo (xN 99)), some (xo (xN 0)), some (xo (xN 2)), some (xi (nI i))], [], M') R) : xWP (pg_L L xs) 1082 ([some (xo (xN 99)), some (xo (xN 0)), some (xo (xN 2)), some (xi (nI i))], [], M) R := by
  refine xgo [1091] 100 ⟨xv (j := 1) (by omega) hL, rfl, xWP_mono (fun v1 M1 h => ?_) (j_row _ M s (fun v1 v2 M2 => xWP (pg_L L xs) 1100 ([some (xo (xN 99)), some (xo (xN 0)), some (xo (xN 2)), some (xi (nI i))], v2.toList ++ v1.toList, M2) R) hC hM hV (fun v M' s' a1 a2 a3 hn => ?_))⟩
  · match v1, h with
    | none, h => exact xgo [1100] 100 ⟨xv (j := 1) (by omega) hL, rfl, h⟩
    | some (.inl a), h => exact xgo [1100] 100 ⟨xv (j := 1) (by omega) hL, rfl, h⟩
    | some (.inr (.inl a)), h => exact xgo [1100] 100 ⟨xv (j := 1) (by omega) hL, rfl, h⟩
    | some (.inr (.inr a)), h => exact xgo [1100] 100 ⟨xv (j := 1) (by omega) hL, rfl, h⟩
  · show xWP (pg_L L xs) 1100 ([some (xo (xN 99)), some (xo (xN 0)), some (xo (xN 2)), some (xi (nI i))], [v, v], M') R
    match v, hn with
      | .inl a, _ => exact xgo [1223] 100 ⟨fun _ => nxt M' s' a1 a2 a3, fun z => absurd rfl z⟩
theorem lc_judge {L i : Nat} {xs : Nat → Int32} {M : xM} {s : xS} {R : xR} (hL : L ≤ 3072) (hi : i + 6 ≤ L) (hC : xIc M s) (hM : xIm M s) (hV : xIv s) (nxt : ∀ M' s', xIc M' s' → xIm M' s' → xIv s' → xWP (pg_L L xs) 1223 ([some (xo (xN 99)), some (xo (xN 0)), some (xo (xN 2)), some (xi (nI i))], [], M') R) : xWP (pg_L L xs) 1105 ([some (xo (xN 99)), some (xo (xN 0)), some (xo (xN 2)), some (xi (nI i))], [], M) R := by
  refine xgo [1109] 100 ⟨rfl, xWP_mono (fun v1 M1 h => ?_) (j_judge  M s (fun v1 v2 M2 => xWP (pg_L L xs) 1113 ([some (xo (xN 99)), some (xo (xN 0)), some (xo (xN 2)), some (xi (nI i))], v2.toList ++ v1.toList, M2) R) hC hM hV (fun v M' s' a1 a2 a3 hn => ?_))⟩
  · match v1, h with
    | none, h => exact xgo [1113] 100 ⟨rfl, h⟩
    | some (.inl a), h => exact xgo [1113] 100 ⟨rfl, h⟩
    | some (.inr (.inl a)), h => exact xgo [1113] 100 ⟨rfl, h⟩
    | some (.inr (.inr a)), h => exact xgo [1113] 100 ⟨rfl, h⟩
  · show xWP (pg_L L xs) 1113 ([some (xo (xN 99)), some (xo (xN 0)), some (xo (xN 2)), some (xi (nI i))], [v, v], M') R
    match v, hn with
      | .inl a, _ => exact xgo [1223] 100 ⟨fun _ => nxt M' s' a1 a2 a3, fun z => absurd rfl z⟩
theorem lc_clear {L i : Nat} {xs : Nat → Int32} {M : xM} {s : xS} {R : xR} (hL : L ≤ 3072) (hi : i + 6 ≤ L) (hC : xIc M s) (hM : xIm M s) (hV : xIv s) (nxt : ∀ M' s', xIc M' s' → xIm M' s' → xIv s' → xWP (pg_L L xs) 1223 ([some (xo (xN 99)), some (xo (xN 0)), some (xo (xN 2)), some (xi (nI i))], [], M') R) : xWP (pg_L L xs) 1118 ([some (xo (xN 99)), some (xo (xN 0)), some (xo (xN 2)), some (xi (nI i))], [], M) R := by
  refine xgo [1122] 100 ⟨rfl, xWP_mono (fun v1 M1 h => ?_) (j_clear  M s (fun v1 v2 M2 => xWP (pg_L L xs) 1126 ([some (xo (xN 99)), some (xo (xN 0)), some (xo (xN 2)), some (xi (nI i))], v2.toList ++ v1.toList, M2) R) hC hM hV (fun v M' s' a1 a2 a3 hn => ?_))⟩
  · match v1, h with
    | none, h => exact xgo [1126] 100 ⟨rfl, h⟩
    | some (.inl a), h => exact xgo [1126] 100 ⟨rfl, h⟩
    | some (.inr (.inl a)), h => exact xgo [1126] 100 ⟨rfl, h⟩
    | some (.inr (.inr a)), h => exact xgo [1126] 100 ⟨rfl, h⟩
  · show xWP (pg_L L xs) 1126 ([some (xo (xN 99)), some (xo (xN 0)), some (xo (xN 2)), some (xi (nI i))], [v, v], M') R
    match v, hn with
      | .inl a, _ => exact xgo [1223] 100 ⟨fun _ => nxt M' s' a1 a2 a3, fun z => absurd rfl z⟩
theorem lc_lots {L i : Nat} {xs : Nat → Int32} {M : xM} {s : xS} {R : xR} (hL : L ≤ 3072) (hi : i + 6 ≤ L) (hC : xIc M s) (hM : xIm M s) (hV : xIv s) (nxt : ∀ M' s', xIc M' s' → xIm M' s' → xIv s' → xWP (pg_L L xs) 1223 ([some (xo (xN 99)), some (xo (xN 0)), some (xo (xN 2)), some (xi (nI i))], [], M') R) : xWP (pg_L L xs) 1131 ([some (xo (xN 99)), some (xo (xN 0)), some (xo (xN 2)), some (xi (nI i))], [], M) R := by
  refine xgo [1150] 100 ⟨xv (j := 1) (by omega) hL, xv (j := 2) (by omega) hL, xv (j := 3) (by omega) hL, rfl, xWP_mono (fun v1 M1 h => ?_) (j_lots _ _ _ M s (fun v1 v2 M2 => xWP (pg_L L xs) 1169 ([some (xo (xN 99)), some (xo (xN 0)), some (xo (xN 2)), some (xi (nI i))], v2.toList ++ v1.toList, M2) R) hC hM hV (fun v M' s' a1 a2 a3 hn => ?_))⟩
  · match v1, h with
    | none, h => exact xgo [1169] 100 ⟨xv (j := 1) (by omega) hL, xv (j := 2) (by omega) hL, xv (j := 3) (by omega) hL, rfl, h⟩
    | some (.inl a), h => exact xgo [1169] 100 ⟨xv (j := 1) (by omega) hL, xv (j := 2) (by omega) hL, xv (j := 3) (by omega) hL, rfl, h⟩
    | some (.inr (.inl a)), h => exact xgo [1169] 100 ⟨xv (j := 1) (by omega) hL, xv (j := 2) (by omega) hL, xv (j := 3) (by omega) hL, rfl, h⟩
    | some (.inr (.inr a)), h => exact xgo [1169] 100 ⟨xv (j := 1) (by omega) hL, xv (j := 2) (by omega) hL, xv (j := 3) (by omega) hL, rfl, h⟩
  · show xWP (pg_L L xs) 1169 ([some (xo (xN 99)), some (xo (xN 0)), some (xo (xN 2)), some (xi (nI i))], [v, v], M') R
    match v, hn with
      | .inl a, _ => exact xgo [1223] 100 ⟨fun _ => nxt M' s' a1 a2 a3, fun z => absurd rfl z⟩
theorem lc_image {L i : Nat} {xs : Nat → Int32} {M : xM} {s : xS} {R : xR} (hL : L ≤ 3072) (hi : i + 6 ≤ L) (hC : xIc M s) (hM : xIm M s) (hV : xIv s) (nxt : ∀ M' s', xIc M' s' → xIm M' s' → xIv s' → xWP (pg_L L xs) 1223 ([some (xo (xN 99)), some (xo (xN 0)), some (xo (xN 2)), some (xi (nI i))], [], M') R) : xWP (pg_L L xs) 1174 ([some (xo (xN 99)), some (xo (xN 0)), some (xo (xN 2)), some (xi (nI i))], [], M) R := by
  refine xgo [1178] 100 ⟨rfl, xWP_mono (fun v1 M1 h => ?_) (j_image  M s (fun v1 v2 M2 => xWP (pg_L L xs) 1182 ([some (xo (xN 99)), some (xo (xN 0)), some (xo (xN 2)), some (xi (nI i))], v2.toList ++ v1.toList, M2) R) hC hM hV (fun v M' s' a1 a2 a3 hn => ?_))⟩
  · match v1, h with
    | none, h => exact xgo [1182] 100 ⟨rfl, h⟩
    | some (.inl a), h => exact xgo [1182] 100 ⟨rfl, h⟩
    | some (.inr (.inl a)), h => exact xgo [1182] 100 ⟨rfl, h⟩
    | some (.inr (.inr a)), h => exact xgo [1182] 100 ⟨rfl, h⟩
  · show xWP (pg_L L xs) 1182 ([some (xo (xN 99)), some (xo (xN 0)), some (xo (xN 2)), some (xi (nI i))], [v, v], M') R
    match v, hn with
      | .inl a, _ => exact xgo [1223] 100 ⟨fun _ => nxt M' s' a1 a2 a3, fun z => absurd rfl z⟩
theorem lc_on {L i : Nat} {xs : Nat → Int32} {M : xM} {s : xS} {R : xR} (hL : L ≤ 3072) (hi : i + 6 ≤ L) (hC : xIc M s) (hM : xIm M s) (hV : xIv s) (nxt : ∀ M' s', xIc M' s' → xIm M' s' → xIv s' → xWP (pg_L L xs) 1223 ([some (xo (xN 99)), some (xo (xN 0)), some (xo (xN 2)), some (xi (nI i))], [], M') R) : xWP (pg_L L xs) 1187 ([some (xo (xN 99)), some (xo (xN 0)), some (xo (xN 2)), some (xi (nI i))], [], M) R := by
  refine xgo [1191] 100 ⟨rfl, xWP_mono (fun v1 M1 h => ?_) (j_on  M s (fun v1 v2 M2 => xWP (pg_L L xs) 1195 ([some (xo (xN 99)), some (xo (xN 0)), some (xo (xN 2)), some (xi (nI i))], v2.toList ++ v1.toList, M2) R) hC hM hV (fun v M' s' a1 a2 a3 hn => ?_))⟩
  · match v1, h with
    | none, h => exact xgo [1195] 100 ⟨rfl, h⟩
    | some (.inl a), h => exact xgo [1195] 100 ⟨rfl, h⟩
    | some (.inr (.inl a)), h => exact xgo [1195] 100 ⟨rfl, h⟩
    | some (.inr (.inr a)), h => exact xgo [1195] 100 ⟨rfl, h⟩
  · show xWP (pg_L L xs) 1195 ([some (xo (xN 99)), some (xo (xN 0)), some (xo (xN 2)), some (xi (nI i))], [v, v], M') R
    match v, hn with
      | .inl a, _ => exact xgo [1223] 100 ⟨fun _ => nxt M' s' a1 a2 a3, fun z => absurd rfl z⟩
theorem lc_count {L i : Nat} {xs : Nat → Int32} {M : xM} {s : xS} {R : xR} (hL : L ≤ 3072) (hi : i + 6 ≤ L) (hC : xIc M s) (hM : xIm M s) (hV : xIv s) (nxt : ∀ M' s', xIc M' s' → xIm M' s' → xIv s' → xWP (pg_L L xs) 1223 ([some (xo (xN 99)), some (xo (xN 0)), some (xo (xN 2)), some (xi (nI i))], [], M') R) : xWP (pg_L L xs) 1200 ([some (xo (xN 99)), some (xo (xN 0)), some (xo (xN 2)), some (xi (nI i))], [], M) R := by
  refine xgo [1209] 100 ⟨xv (j := 1) (by omega) hL, rfl, xWP_mono (fun v1 M1 h => ?_) (j_count _ M s (fun v1 v2 M2 => xWP (pg_L L xs) 1218 ([some (xo (xN 99)), some (xo (xN 0)), some (xo (xN 2)), some (xi (nI i))], v2.toList ++ v1.toList, M2) R) hC hM hV (fun v M' s' a1 a2 a3 hn => ?_))⟩
  · match v1, h with
    | none, h => exact xgo [1218] 100 ⟨xv (j := 1) (by omega) hL, rfl, h⟩
    | some (.inl a), h => exact xgo [1218] 100 ⟨xv (j := 1) (by omega) hL, rfl, h⟩
    | some (.inr (.inl a)), h => exact xgo [1218] 100 ⟨xv (j := 1) (by omega) hL, rfl, h⟩
    | some (.inr (.inr a)), h => exact xgo [1218] 100 ⟨xv (j := 1) (by omega) hL, rfl, h⟩
  · show xWP (pg_L L xs) 1218 ([some (xo (xN 99)), some (xo (xN 0)), some (xo (xN 2)), some (xi (nI i))], [v, v], M') R
    match v, hn with
      | .inl a, _ => exact xgo [1223] 100 ⟨fun _ => nxt M' s' a1 a2 a3, fun z => absurd rfl z⟩
theorem lim6 {L i : Nat} (hL : L ≤ 3072) (hi : i ≤ 3100) : Int32.ofNat L - 6 < nI i ↔ ¬ i + 6 ≤ L := by
  by_cases h : 6 ≤ L
  · have e : Int32.ofNat L - 6 = nI (L - 6) := by
      have := nI_add (L - 6) 6
      rw [show L - 6 + 6 = L by omega] at this
      show nI L - nI 6 = _
      rw [← this, Int32.add_sub_cancel]
    rw [e, nI_ltI (by omega) (by omega)]
    omega
  · have h6 : ∀ L, L < 6 → Int32.ofNat L - 6 < 0 := by decide +kernel
    refine ⟨fun _ => by omega, fun _ => ?_⟩
    exact Int32.lt_of_lt_of_le (h6 L (by omega)) (nI_le (a := 0) (by omega) (by omega))
theorem law_xWP {L : Nat} {xs : Nat → Int32} (hL : L ≤ 3072) : ∀ n i (M : xM) (s : xS), i ≤ L + 5 → L + 6 ≤ i + 6 * n → xIc M s → xIm M s → xIv s → xWP (pg_L L xs) 18 ([some (xo (xN 99)), some (xo (xN 0)), some (xo (xN 2)), some (xi (nI i))], [], M) (fun _ _ => True) := by
  intro n
  induction n with
  | zero => intro i M s hi hn; omega
  | succ n ih =>
    intro i M s hi hn hC hM hV
    have lim := lim6 (L := L) (i := i) hL (by omega)
    refine xgo [27] 100 ⟨fun z => rfl, fun z => ?_⟩
    have h6 : i + 6 ≤ L := by
      by_cases c : i + 6 ≤ L
      · exact c
      · exact absurd (lim.mpr c) z
    have nx : ∀ M' s', xIc M' s' → xIm M' s' → xIv s' → xWP (pg_L L xs) 1223 ([some (xo (xN 99)), some (xo (xN 0)), some (xo (xN 2)), some (xi (nI i))], [], M') (fun _ _ => True) := by
      intro M' s' a b c
      refine xgo [18] 100 ?_
      show xWP (pg_L L xs) 18 ([some (xo (xN 99)), some (xo (xN 0)), some (xo (xN 2)), some (xi (nI i + nI 6))], [], M') _
      rw [nI_add]
      exact ih (i + 6) M' s' (by omega) (by omega) a b c
    show xWP (pg_L L xs) 27 ([some (xo (xN 99)), some (xo (xN 0)), some (xo (xN 2)), some (xi (nI i))], [], M) _
    exact xgo [204, 227, 240, 273, 296, 329, 362, 395, 418, 441, 484, 507, 540, 573, 596, 609, 632, 665, 698, 721, 744, 767, 800, 813, 836, 859, 872, 895, 918, 961, 1025, 1049, 1082, 1105, 1118, 1131, 1174, 1187, 1200, 1223] 100 ⟨vp_in_nI (show i < L by omega) (by omega), ⟨fun _ => lc_letter hL h6 hC hM hV nx, fun _ => ⟨fun _ => lc_hill hL h6 hC hM hV nx, fun _ => ⟨fun _ => lc_person hL h6 hC hM hV nx, fun _ => ⟨fun _ => lc_speaks hL h6 hC hM hV nx, fun _ => ⟨fun _ => lc_befriends hL h6 hC hM hV nx, fun _ => ⟨fun _ => lc_pours hL h6 hC hM hV nx, fun _ => ⟨fun _ => lc_cans hL h6 hC hM hV nx, fun _ => ⟨fun _ => lc_water hL h6 hC hM hV nx, fun _ => ⟨fun _ => lc_flow hL h6 hC hM hV nx, fun _ => ⟨fun _ => lc_turn hL h6 hC hM hV nx, fun _ => ⟨fun _ => lc_hours hL h6 hC hM hV nx, fun _ => ⟨fun _ => lc_hasThen hL h6 hC hM hV nx, fun _ => ⟨fun _ => lc_then hL h6 hC hM hV nx, fun _ => ⟨fun _ => lc_dry hL h6 hC hM hV nx, fun _ => ⟨fun _ => lc_empty hL h6 hC hM hV nx, fun _ => ⟨fun _ => lc_flowBest hL h6 hC hM hV nx, fun _ => ⟨fun _ => lc_canBest hL h6 hC hM hV nx, fun _ => ⟨fun _ => lc_friendBest hL h6 hC hM hV nx, fun _ => ⟨fun _ => lc_hush hL h6 hC hM hV nx, fun _ => ⟨fun _ => lc_fewest hL h6 hC hM hV nx, fun _ => ⟨fun _ => lc_word hL h6 hC hM hV nx, fun _ => ⟨fun _ => lc_send hL h6 hC hM hV nx, fun _ => ⟨fun _ => lc_next hL h6 hC hM hV nx, fun _ => ⟨fun _ => lc_richest hL h6 hC hM hV nx, fun _ => ⟨fun _ => lc_quiet hL h6 hC hM hV nx, fun _ => ⟨fun _ => lc_thirst hL h6 hC hM hV nx, fun _ => ⟨fun _ => lc_lasts hL h6 hC hM hV nx, fun _ => ⟨fun _ => lc_carries hL h6 hC hM hV nx, fun _ => ⟨fun _ => lc_two hL h6 hC hM hV nx, fun _ => ⟨fun _ => lc_sneeze hL h6 hC hM hV nx, fun _ => ⟨fun _ => lc_mean hL h6 hC hM hV nx, fun _ => ⟨fun _ => lc_whatIs hL h6 hC hM hV nx, fun _ => ⟨fun _ => lc_row hL h6 hC hM hV nx, fun _ => ⟨fun _ => lc_judge hL h6 hC hM hV nx, fun _ => ⟨fun _ => lc_clear hL h6 hC hM hV nx, fun _ => ⟨fun _ => lc_lots hL h6 hC hM hV nx, fun _ => ⟨fun _ => lc_image hL h6 hC hM hV nx, fun _ => ⟨fun _ => lc_on hL h6 hC hM hV nx, fun _ => ⟨fun _ => lc_count hL h6 hC hM hV nx, fun _ => nx M s hC hM hV⟩⟩⟩⟩⟩⟩⟩⟩⟩⟩⟩⟩⟩⟩⟩⟩⟩⟩⟩⟩⟩⟩⟩⟩⟩⟩⟩⟩⟩⟩⟩⟩⟩⟩⟩⟩⟩⟩⟩⟩
