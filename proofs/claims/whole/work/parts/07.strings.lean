/-! the fields of ints, a row each: writing one is writing the memory -/
theorem fs_0_5 : ∀ (o : xOb) (g : Nat → Int32) (a : Int32), xci o = 0 → (xfl o g).set 5 (xi a) = xfl o (upd g 5 a) ∧ 5 < (xfl o g).length := fun o g a h => match o, h with
  | .inl i, _ => ⟨rfl, (by show 5 < 12; omega)⟩
  | .inr (.inl _), h => by cases h
  | .inr (.inr (.inl _)), h => by cases h
  | .inr (.inr (.inr 0)), h => by cases h
  | .inr (.inr (.inr 1)), h => by cases h
  | .inr (.inr (.inr 2)), h => by cases h
  | .inr (.inr (.inr (_ + 3))), h => by cases h
theorem fs_0_6 : ∀ (o : xOb) (g : Nat → Int32) (a : Int32), xci o = 0 → (xfl o g).set 6 (xi a) = xfl o (upd g 6 a) ∧ 6 < (xfl o g).length := fun o g a h => match o, h with
  | .inl i, _ => ⟨rfl, (by show 6 < 12; omega)⟩
  | .inr (.inl _), h => by cases h
  | .inr (.inr (.inl _)), h => by cases h
  | .inr (.inr (.inr 0)), h => by cases h
  | .inr (.inr (.inr 1)), h => by cases h
  | .inr (.inr (.inr 2)), h => by cases h
  | .inr (.inr (.inr (_ + 3))), h => by cases h
theorem fs_0_7 : ∀ (o : xOb) (g : Nat → Int32) (a : Int32), xci o = 0 → (xfl o g).set 7 (xi a) = xfl o (upd g 7 a) ∧ 7 < (xfl o g).length := fun o g a h => match o, h with
  | .inl i, _ => ⟨rfl, (by show 7 < 12; omega)⟩
  | .inr (.inl _), h => by cases h
  | .inr (.inr (.inl _)), h => by cases h
  | .inr (.inr (.inr 0)), h => by cases h
  | .inr (.inr (.inr 1)), h => by cases h
  | .inr (.inr (.inr 2)), h => by cases h
  | .inr (.inr (.inr (_ + 3))), h => by cases h
theorem fs_0_8 : ∀ (o : xOb) (g : Nat → Int32) (a : Int32), xci o = 0 → (xfl o g).set 8 (xi a) = xfl o (upd g 8 a) ∧ 8 < (xfl o g).length := fun o g a h => match o, h with
  | .inl i, _ => ⟨rfl, (by show 8 < 12; omega)⟩
  | .inr (.inl _), h => by cases h
  | .inr (.inr (.inl _)), h => by cases h
  | .inr (.inr (.inr 0)), h => by cases h
  | .inr (.inr (.inr 1)), h => by cases h
  | .inr (.inr (.inr 2)), h => by cases h
  | .inr (.inr (.inr (_ + 3))), h => by cases h
theorem fs_0_9 : ∀ (o : xOb) (g : Nat → Int32) (a : Int32), xci o = 0 → (xfl o g).set 9 (xi a) = xfl o (upd g 9 a) ∧ 9 < (xfl o g).length := fun o g a h => match o, h with
  | .inl i, _ => ⟨rfl, (by show 9 < 12; omega)⟩
  | .inr (.inl _), h => by cases h
  | .inr (.inr (.inl _)), h => by cases h
  | .inr (.inr (.inr 0)), h => by cases h
  | .inr (.inr (.inr 1)), h => by cases h
  | .inr (.inr (.inr 2)), h => by cases h
  | .inr (.inr (.inr (_ + 3))), h => by cases h
theorem fs_0_10 : ∀ (o : xOb) (g : Nat → Int32) (a : Int32), xci o = 0 → (xfl o g).set 10 (xi a) = xfl o (upd g 10 a) ∧ 10 < (xfl o g).length := fun o g a h => match o, h with
  | .inl i, _ => ⟨rfl, (by show 10 < 12; omega)⟩
  | .inr (.inl _), h => by cases h
  | .inr (.inr (.inl _)), h => by cases h
  | .inr (.inr (.inr 0)), h => by cases h
  | .inr (.inr (.inr 1)), h => by cases h
  | .inr (.inr (.inr 2)), h => by cases h
  | .inr (.inr (.inr (_ + 3))), h => by cases h
theorem fs_0_11 : ∀ (o : xOb) (g : Nat → Int32) (a : Int32), xci o = 0 → (xfl o g).set 11 (xi a) = xfl o (upd g 11 a) ∧ 11 < (xfl o g).length := fun o g a h => match o, h with
  | .inl i, _ => ⟨rfl, (by show 11 < 12; omega)⟩
  | .inr (.inl _), h => by cases h
  | .inr (.inr (.inl _)), h => by cases h
  | .inr (.inr (.inr 0)), h => by cases h
  | .inr (.inr (.inr 1)), h => by cases h
  | .inr (.inr (.inr 2)), h => by cases h
  | .inr (.inr (.inr (_ + 3))), h => by cases h
theorem fs_1_1 : ∀ (o : xOb) (g : Nat → Int32) (a : Int32), xci o = 1 → (xfl o g).set 1 (xi a) = xfl o (upd g 1 a) ∧ 1 < (xfl o g).length := fun o g a h => match o, h with
  | .inl i, h => by cases h
  | .inr (.inl _), h => by cases h
  | .inr (.inr (.inl _)), h => by cases h
  | .inr (.inr (.inr 0)), h => by cases h
  | .inr (.inr (.inr 1)), _ => ⟨rfl, (by show 1 < 2; omega)⟩
  | .inr (.inr (.inr 2)), h => by cases h
  | .inr (.inr (.inr (_ + 3))), h => by cases h
theorem fs_2_6 : ∀ (o : xOb) (g : Nat → Int32) (a : Int32), xci o = 2 → (xfl o g).set 6 (xi a) = xfl o (upd g 6 a) ∧ 6 < (xfl o g).length := fun o g a h => match o, h with
  | .inl i, h => by cases h
  | .inr (.inl _), h => by cases h
  | .inr (.inr (.inl _)), h => by cases h
  | .inr (.inr (.inr 0)), _ => ⟨rfl, (by show 6 < 8; omega)⟩
  | .inr (.inr (.inr 1)), h => by cases h
  | .inr (.inr (.inr 2)), h => by cases h
  | .inr (.inr (.inr (_ + 3))), h => by cases h
theorem fs_2_7 : ∀ (o : xOb) (g : Nat → Int32) (a : Int32), xci o = 2 → (xfl o g).set 7 (xi a) = xfl o (upd g 7 a) ∧ 7 < (xfl o g).length := fun o g a h => match o, h with
  | .inl i, h => by cases h
  | .inr (.inl _), h => by cases h
  | .inr (.inr (.inl _)), h => by cases h
  | .inr (.inr (.inr 0)), _ => ⟨rfl, (by show 7 < 8; omega)⟩
  | .inr (.inr (.inr 1)), h => by cases h
  | .inr (.inr (.inr 2)), h => by cases h
  | .inr (.inr (.inr (_ + 3))), h => by cases h
theorem fs_3_4 : ∀ (o : xOb) (g : Nat → Int32) (a : Int32), xci o = 3 → (xfl o g).set 4 (xi a) = xfl o (upd g 4 a) ∧ 4 < (xfl o g).length := fun o g a h => match o, h with
  | .inl i, h => by cases h
  | .inr (.inl _), h => by cases h
  | .inr (.inr (.inl _)), h => by cases h
  | .inr (.inr (.inr 0)), h => by cases h
  | .inr (.inr (.inr 1)), h => by cases h
  | .inr (.inr (.inr 2)), _ => ⟨rfl, (by show 4 < 13; omega)⟩
  | .inr (.inr (.inr (_ + 3))), h => by cases h
theorem fs_3_8 : ∀ (o : xOb) (g : Nat → Int32) (a : Int32), xci o = 3 → (xfl o g).set 8 (xi a) = xfl o (upd g 8 a) ∧ 8 < (xfl o g).length := fun o g a h => match o, h with
  | .inl i, h => by cases h
  | .inr (.inl _), h => by cases h
  | .inr (.inr (.inl _)), h => by cases h
  | .inr (.inr (.inr 0)), h => by cases h
  | .inr (.inr (.inr 1)), h => by cases h
  | .inr (.inr (.inr 2)), _ => ⟨rfl, (by show 8 < 13; omega)⟩
  | .inr (.inr (.inr (_ + 3))), h => by cases h
theorem fs_3_9 : ∀ (o : xOb) (g : Nat → Int32) (a : Int32), xci o = 3 → (xfl o g).set 9 (xi a) = xfl o (upd g 9 a) ∧ 9 < (xfl o g).length := fun o g a h => match o, h with
  | .inl i, h => by cases h
  | .inr (.inl _), h => by cases h
  | .inr (.inr (.inl _)), h => by cases h
  | .inr (.inr (.inr 0)), h => by cases h
  | .inr (.inr (.inr 1)), h => by cases h
  | .inr (.inr (.inr 2)), _ => ⟨rfl, (by show 9 < 13; omega)⟩
  | .inr (.inr (.inr (_ + 3))), h => by cases h
theorem fs_3_10 : ∀ (o : xOb) (g : Nat → Int32) (a : Int32), xci o = 3 → (xfl o g).set 10 (xi a) = xfl o (upd g 10 a) ∧ 10 < (xfl o g).length := fun o g a h => match o, h with
  | .inl i, h => by cases h
  | .inr (.inl _), h => by cases h
  | .inr (.inr (.inl _)), h => by cases h
  | .inr (.inr (.inr 0)), h => by cases h
  | .inr (.inr (.inr 1)), h => by cases h
  | .inr (.inr (.inr 2)), _ => ⟨rfl, (by show 10 < 13; omega)⟩
  | .inr (.inr (.inr (_ + 3))), h => by cases h
theorem fs_3_12 : ∀ (o : xOb) (g : Nat → Int32) (a : Int32), xci o = 3 → (xfl o g).set 12 (xi a) = xfl o (upd g 12 a) ∧ 12 < (xfl o g).length := fun o g a h => match o, h with
  | .inl i, h => by cases h
  | .inr (.inl _), h => by cases h
  | .inr (.inr (.inl _)), h => by cases h
  | .inr (.inr (.inr 0)), h => by cases h
  | .inr (.inr (.inr 1)), h => by cases h
  | .inr (.inr (.inr 2)), _ => ⟨rfl, (by show 12 < 13; omega)⟩
  | .inr (.inr (.inr (_ + 3))), h => by cases h
/-! the String constants: what their methods read -/
def xsb (n : Nat) : Bool := Nat.ble 40 n && Nat.ble n 45
def x_sval (nx : Nat) : xI := xdet fun f => match f with
  | (ls, .inr (.inr (.inr (.inr (.inr n)))) :: st, M) => cond (Nat.ble 20 n && Nat.ble n 25) (some (nx, ls, xo (xN (n + 20)) :: st, M)) none
  | _ => none
def x_scod (nx : Nat) : xI := xdet fun f => match f with
  | (ls, .inr (.inr (.inr (.inr (.inr n)))) :: st, M) => cond (Nat.ble 20 n && Nat.ble n 25) (some (nx, ls, xi 0 :: st, M)) none
  | _ => none
def x_alen (nx : Nat) : xI := xdet fun f => match f with
  | (ls, .inr (.inr (.inr (.inr (.inr n)))) :: st, M) => cond (Nat.ble 40 n && Nat.ble n 45) (some (nx, ls, xi (Int32.ofNat (xlen.getD (n - 40) 0)) :: st, M)) none
  | _ => none
def x_bald (nx : Nat) : xI := xdec fun f => match f with
  | (ls, .inl a :: .inr (.inr (.inr (.inr (.inr n)))) :: st, M) => cond (Nat.ble 40 n && Nat.ble n 45) (some (vp_in a (xlen.getD (n - 40) 0), nx, ls, xi ((xbyt.getD (n - 40) []).getD a.toNatClampNeg 0) :: st, M)) none
  | _ => none
def x_i2b (nx : Nat) : xI := xdet fun f => match f with
  | (ls, .inl a :: st, M) => some (nx, ls, .inl a.toInt8.toInt32 :: st, M)
  | _ => none
def x_bret : xI := xre fun f => match f with
  | (_, [.inl a], M) => some (narrow .byte (.int a) = .int a, some (.inl a), M)
  | _ => none
def x_cret : xI := xre fun f => match f with
  | (_, [.inl a], M) => some (narrow .char (.int a) = .int a, some (.inl a), M)
  | _ => none
section XOK4
variable {own : String} {cc : ByteArray} {mL : Nat} {R : Room} {pc nx tg : Nat}
theorem ok_i2b (hd : decode cc pc = .ok (.i2b, 1)) (hn : pc + 1 = nx) : xOk own cc mL R pc (x_i2b nx) := by
  subst hn
  intro p l e s m args below meth c cells slots Q D cA ad Rt hC f hi
  obtain ⟨n, f', hg, hk⟩ := xdet_inv hi
  (try dsimp only at hg)
  split at hg <;> cases hg
  exact fun H locs ls hP hS hL => lv_i2b hC.1 hC.2.1 hd rfl (hk H locs ls hP hS hL)
theorem ok_gcs {ix : Nat} (hw : Cond.fieldLink own ix "java/lang/String" "COMPACT_STRINGS" "Z" ∈ xAL) (hd : decode cc pc = .ok (.getstatic ix, 3)) (hn : pc + 3 = nx) : xOk own cc mL R pc (x_push (xi 1) nx) := by
  subst hn
  intro p l e s m args below meth c cells slots Q D cA ad Rt hC f hi
  exact fun H locs ls hP hS hL => va_gets hC.1 hC.2.1 hC.2.2.2.2.2.1.2.2.1 hS hC.2.2.2.1 (hC.2.2.2.2.1 _ hw) (fun _ h9 => h9) hd (hi H locs ls hP hS hL)
theorem ok_sval {ix : Nat} (hw : Cond.fieldLink own ix "java/lang/String" "value" "[B" ∈ xAL) (hd : decode cc pc = .ok (.getfield ix, 3)) (hn : pc + 3 = nx) : xOk own cc mL R pc (x_sval nx) := by
  subst hn
  intro p l e s m args below meth c cells slots Q D cA ad Rt hC f hi
  obtain ⟨n, f', hg, hk⟩ := xdet_inv hi
  (try dsimp only at hg)
  split at hg
  · rename_i ls0 k st M
    cases hb : (Nat.ble 20 k && Nat.ble k 25) with
    | false => rw [hb] at hg; cases hg
    | true =>
      rw [hb] at hg
      have hg : some (pc + 3, ls0, xo (xN (k + 20)) :: st, M) = some (n, f') := hg
      cases hg
      have hb2 := Bool.and_eq_true_iff.mp hb
      have k1 := Nat.le_of_ble_eq_true hb2.1
      have k2 := Nat.le_of_ble_eq_true hb2.2
      obtain ⟨i, rfl⟩ : ∃ i, k = 20 + i := ⟨k - 20, by omega⟩
      have h1 := (hC.2.2.2.2.2.1.2.2.2.2.1.1 i (by omega)).2.2.1
      have he : xN (20 + i + 20) = xN (40 + i) := by rw [show 20 + i + 20 = 40 + i by omega]
      rw [he] at hk
      exact fun H locs ls hP hS hL => vk_getf hC.1 hC.2.1 h1 hS hC.2.2.2.1 (hC.2.2.2.2.1 _ hw) (fun _ h9 => h9) hd (hk H locs ls hP hS hL)
  · cases hg
theorem ok_scod {ix : Nat} (hw : Cond.fieldLink own ix "java/lang/String" "coder" "B" ∈ xAL) (hd : decode cc pc = .ok (.getfield ix, 3)) (hn : pc + 3 = nx) : xOk own cc mL R pc (x_scod nx) := by
  subst hn
  intro p l e s m args below meth c cells slots Q D cA ad Rt hC f hi
  obtain ⟨n, f', hg, hk⟩ := xdet_inv hi
  (try dsimp only at hg)
  split at hg
  · rename_i ls0 k st M
    cases hb : (Nat.ble 20 k && Nat.ble k 25) with
    | false => rw [hb] at hg; cases hg
    | true =>
      rw [hb] at hg
      have hg : some (pc + 3, ls0, xi 0 :: st, M) = some (n, f') := hg
      cases hg
      have hb2 := Bool.and_eq_true_iff.mp hb
      have k1 := Nat.le_of_ble_eq_true hb2.1
      have k2 := Nat.le_of_ble_eq_true hb2.2
      obtain ⟨i, rfl⟩ : ∃ i, k = 20 + i := ⟨k - 20, by omega⟩
      have h1 := (hC.2.2.2.2.2.1.2.2.2.2.1.1 i (by omega)).2.1
      exact fun H locs ls hP hS hL => vk_getf hC.1 hC.2.1 h1 hS hC.2.2.2.1 (hC.2.2.2.2.1 _ hw) (fun _ h9 => h9) hd (hk H locs ls hP hS hL)
  · cases hg
theorem ok_alen (hd : decode cc pc = .ok (.arraylength, 1)) (hn : pc + 1 = nx) : xOk own cc mL R pc (x_alen nx) := by
  subst hn
  intro p l e s m args below meth c cells slots Q D cA ad Rt hC f hi
  obtain ⟨n, f', hg, hk⟩ := xdet_inv hi
  (try dsimp only at hg)
  split at hg
  · rename_i ls0 k st M
    cases hb : (Nat.ble 40 k && Nat.ble k 45) with
    | false => rw [hb] at hg; cases hg
    | true =>
      rw [hb] at hg
      have hg : some (pc + 1, ls0, xi (Int32.ofNat (xlen.getD (k - 40) 0)) :: st, M) = some (n, f') := hg
      cases hg
      have hb2 := Bool.and_eq_true_iff.mp hb
      have k1 := Nat.le_of_ble_eq_true hb2.1
      have k2 := Nat.le_of_ble_eq_true hb2.2
      obtain ⟨i, rfl⟩ : ∃ i, k = 40 + i := ⟨k - 40, by omega⟩
      have h1 := (hC.2.2.2.2.2.1.2.2.2.2.1.1 i (by omega)).2.2.2
      rw [show 40 + i - 40 = i by omega] at hk
      exact fun H locs ls hP hS hL => va_tlen hC.1 hC.2.1 h1 hS rfl hd (hk H locs ls hP hS hL)
  · cases hg
theorem ok_bald (hd : decode cc pc = .ok (.baload, 1)) (hn : pc + 1 = nx) : xOk own cc mL R pc (x_bald nx) := by
  subst hn
  intro p l e s m args below meth c cells slots Q D cA ad Rt hC f hi
  obtain ⟨cd, n, f', hg, hcd, hk⟩ := xdec_inv hi
  (try dsimp only at hg)
  split at hg
  · rename_i ls0 a k st M
    cases hb : (Nat.ble 40 k && Nat.ble k 45) with
    | false => rw [hb] at hg; cases hg
    | true =>
      rw [hb] at hg
      have hg : some (vp_in a (xlen.getD (k - 40) 0), pc + 1, ls0, xi ((xbyt.getD (k - 40) []).getD a.toNatClampNeg 0) :: st, M) = some (cd, n, f') := hg
      cases hg
      have hb2 := Bool.and_eq_true_iff.mp hb
      have k1 := Nat.le_of_ble_eq_true hb2.1
      have k2 := Nat.le_of_ble_eq_true hb2.2
      obtain ⟨i, rfl⟩ : ∃ i, k = 40 + i := ⟨k - 40, by omega⟩
      have h1 := (hC.2.2.2.2.2.1.2.2.2.2.1.1 i (by omega)).2.2.2
      rw [show 40 + i - 40 = i by omega] at hk hcd
      exact fun H locs ls hP hS hL => va_tb hC.1 hC.2.1 h1 hS hcd rfl hd (hk H locs ls hP hS hL)
  · cases hg
theorem ok_bret (hd : decode cc pc = .ok (.ireturn, 1)) : xOkM own cc mL (some .byte) R pc x_bret := by
  intro p l e s m args below meth c D cA ad Rt hC hr hlk f hi
  obtain ⟨cd, v, M, hg, hcd, hk⟩ := xre_inv hi
  (try dsimp only at hg)
  split at hg <;> cases hg
  exact fun H locs ls hP hS hL => W.zret hC.1 hC.2.1 hr hcd (fun t ht hW => ⟨⟨_, _, rfl, hk, by rw [ht]; exact hP⟩, hS.F ht⟩) hS.2.2 hd
theorem ok_cret (hd : decode cc pc = .ok (.ireturn, 1)) : xOkM own cc mL (some .char) R pc x_cret := by
  intro p l e s m args below meth c D cA ad Rt hC hr hlk f hi
  obtain ⟨cd, v, M, hg, hcd, hk⟩ := xre_inv hi
  (try dsimp only at hg)
  split at hg <;> cases hg
  exact fun H locs ls hP hS hL => W.zret hC.1 hC.2.1 hr hcd (fun t ht hW => ⟨⟨_, _, rfl, hk, by rw [ht]; exact hP⟩, hS.F ht⟩) hS.2.2 hd
end XOK4
/-! String.checkIndex, by hand: the formatter may be null -/
def xPj (i n : Int32) (v : Value) : Array Value → State → Prop := fun a _ => a = [.int i, .int n, v].toArray ∧ (v = .null ∨ ∃ t, v = .ref t) ∧ ¬ i < 0 ∧ i < n
def xQj (i : Int32) : Array Value → State → Outcome → State → Prop := fun _ st oc t => oc = .returned (some (.int i)) ∧ t.heap = st.heap
set_option maxRecDepth 20000 in
theorem s_J3_checkIndex_8e157 (l : Launch) (i n : Int32) (v : Value) : Met l yJ3_checkIndex_8e157 (Cond.code yJ3_checkIndex_8e157 cJ3_checkIndex_8e157 3 (some .int) :: xAL) { frames := 0, cells := 0, slots := 0, locals := 0 } (xPj i n v) (xQj i) 0 0 (fun _ => False) := by
  refine Met.ofW (cc := cJ3_checkIndex_8e157) (maxL := 3) (ret := some .int) (by decide +kernel) rfl ?_
  intro p e s m args below meth c s₁ B hml hv
  obtain ⟨rfl, hvv, h0, h1⟩ := hv
  have hx := B.exec
  have hb := B.bytes
  have hr := B.returns
  have hlocks := B.notSynchronized
  have hvc : v.category = 1 := by rcases hvv with rfl | ⟨t, rfl⟩ <;> rfl
  have hl := lv_entry ([.int i, .int n, v]) (n := 3) (by rcases hvv with rfl | ⟨t, rfl⟩ <;> exact Nat.le_of_ble_eq_true rfl)
  rw [lg_entry_eq]
  generalize (lg_sl ([.int i, .int n, v]) ++ List.replicate (3 - (lg_sl ([.int i, .int n, v])).length) Slot.unset).toArray = ls at hl ⊢
  have hl : lv_has ls 3 [(0, .int i), (1, .int n), (2, v)] := hl
  refine lv_iload_n hx hb dJ3_checkIndex_8e157_0 rfl (lv_at hl 0 rfl) ?_
  refine lv_if_lt (tgt := 9) hx hb dJ3_checkIndex_8e157_1 (by decide) (fun c => absurd c h0) (fun _ => ?_)
  refine lv_iload_n hx hb dJ3_checkIndex_8e157_4 rfl (lv_at hl 0 rfl) ?_
  refine lv_iload_n hx hb dJ3_checkIndex_8e157_5 rfl (lv_at hl 1 rfl) ?_
  refine lv_icmp_lt (tgt := 16) hx hb dJ3_checkIndex_8e157_6 (by decide) (fun _ => ?_) (fun c => absurd h1 c)
  refine lv_iload_n hx hb dJ3_checkIndex_8e157_16 rfl (lv_at hl 0 rfl) ?_
  exact W.iret hx hb hr (fun t ht hW => ⟨rfl, ht⟩) (fun q hq => by cases hq) dJ3_checkIndex_8e157_17
theorem kd_J3_checkIndex_8e157 : xDs yJ3_checkIndex_8e157 3 := ⟨by decide +kernel, by decide +kernel, by decide +kernel⟩
def rm_J0_checkIndex_df160 : Room := { frames := 1, cells := 0, slots := 0, locals := 22 }
def z_J0_checkIndex_df160 : xZ := ⟨fun as M R => match as with
  | [.inl i, .inl n] => (¬ i < 0 ∧ i < n) ∧ R none M
  | _ => False, fun as M R R' hR h => by
    match as, h with
    | [.inl i, .inl n], h => exact ⟨h.1, hR _ _ h.2⟩⟩
theorem kd_J0_checkIndex_df160 : xDs yJ0_checkIndex_df160 2 := ⟨by decide +kernel, by decide +kernel, by decide +kernel⟩
set_option maxRecDepth 20000 in
set_option maxHeartbeats 4000000 in
theorem s_J0_checkIndex_df160 : xSnd yJ0_checkIndex_df160 cJ0_checkIndex_df160 2 none rm_J0_checkIndex_df160 z_J0_checkIndex_df160 := by
  intro l D cA ad as M Rt hcs hw
  match as, hw with
  | [.inl i, .inl n], hw =>
    refine Met.ofW (cc := cJ0_checkIndex_df160) (maxL := 2) (ret := none) (by decide +kernel) rfl ?_
    intro p e s m args below meth c s₁ B hml hv
    obtain ⟨rfl, hP, hSx⟩ := hv
    have hx := B.exec
    have hb := B.bytes
    have hr := B.returns
    have hlocks := B.notSynchronized
    have hts0 := atoms_spec (ws := Cond.code yJ0_checkIndex_df160 cJ0_checkIndex_df160 2 none :: xAL) B.pre
    have hts : ∀ w ∈ xAL, w.before ([xi i, xi n].map (xtv ad)).toArray s = true := fun w h => hts0 w (List.mem_cons_of_mem _ h)
    have hown : s.vm.findClass RJ0 = some m.cls := findClass_of_methodNamed B.named
    have hl := lv_entry ([Value.int i, Value.int n]) (n := 2) (Nat.le_of_ble_eq_true rfl)
    rw [lg_entry_eq]
    have hl : lv_has ((lg_sl ([xi i, xi n].map (xtv ad)) ++ List.replicate (2 - (lg_sl ([xi i, xi n].map (xtv ad))).length) Slot.unset).toArray) 2 [(0, Value.int i), (1, Value.int n)] := hl
    generalize (lg_sl ([xi i, xi n].map (xtv ad)) ++ List.replicate (2 - (lg_sl ([xi i, xi n].map (xtv ad))).length) Slot.unset).toArray = ls at hl ⊢
    have hS : va_S (xAd ad) s.heap s.heap [] := va_S.rf
    refine lv_iload_n hx hb dJ0_checkIndex_df160_0 rfl (lv_at hl 0 rfl) ?_
    refine lv_iload_n hx hb dJ0_checkIndex_df160_1 rfl (lv_at hl 1 rfl) ?_
    have key : ∀ v : Value, (v = .null ∨ ∃ t, v = .ref t) → W p l e rm_J0_checkIndex_df160 s m ([xi i, xi n].map (xtv ad)).toArray below meth c s.heap [] 0 0 (MQ below (xPost D cA ad Rt) ([xi i, xi n].map (xtv ad)).toArray s 0 0 (xAd ad)) (F0 m 5 ls [v, .int n, .int i]) := by
      intro v hv
      have hcb : CallB rm_J0_checkIndex_df160 s ([xi i, xi n].map (xtv ad)).toArray RJ0 1059 yJ3_checkIndex_8e157 cJ3_checkIndex_8e157 3 (some .int) (Cond.code yJ3_checkIndex_8e157 cJ3_checkIndex_8e157 3 (some .int) :: xAL) { frames := 0, cells := 0, slots := 0, locals := 0 } 0 0 3 := callB_of 3 hts (xgood kc_J3_checkIndex_8e157) rfl rfl rfl (hts _ kin_J3) (hts _ km_J0_1059) kd_J3_checkIndex_8e157 ⟨Nat.le_of_ble_eq_true rfl, Nat.le_of_ble_eq_true rfl⟩
      have hrun := va_runS (H := s.heap) (locs := []) (e := e) (below := below) (meth := meth) (cells := 0) (slots := 0) (g := F0 m 5 ls [v, .int n, .int i]) (As := [.int i, .int n, v]) (rest := []) ⟨hx, hb, hml, hown, hts⟩ (s_J3_checkIndex_8e157 l i n v) ⟨hcb, hts _ kst_J3_checkIndex_8e157⟩ ⟨fun a U g mk h => h, fun U hU hW => ⟨rfl, hv, hw.1.1, hw.1.2⟩⟩ rfl rfl hl.1 rfl (lv_room (Nat.le_of_ble_eq_true rfl)) dJ0_checkIndex_df160_5 ⟨Nat.le_refl _, Nat.le_refl _⟩
      intro T hT X
      obtain ⟨v', st₀, t, T', L, h0, X', hLo, e1, e2, ⟨hv', hh⟩, st⟩ := hrun T hT X
      cases hv'
      have hk : W p l e rm_J0_checkIndex_df160 s m ([xi i, xi n].map (xtv ad)).toArray below meth c s.heap ([] ++ L) 0 0 (MQ below (xPost D cA ad Rt) ([xi i, xi n].map (xtv ad)).toArray s 0 0 (xAd ad)) (F0 m 8 ls [.int i]) := by
        refine lv_pop hx hb dJ0_checkIndex_df160_8 rfl ?_
        exact W.vret hx hb hr (fun t ht hW => ⟨⟨none, M, rfl, hw.2, by rw [ht]; exact hP⟩, hS.F ht⟩) (fun q hq => (hLo q (by simpa using hq)).elim) dJ0_checkIndex_df160_9
      obtain ⟨t2, a1, b1⟩ := hk T' (by rw [e1, hh, h0]) X'
      exact ⟨t2, st t2 a1, b1⟩
    rcases hSx.2.2.2.1 with hz | ⟨t, hz⟩
    · exact va_gets hx hb hz hS hown (hts _ kf_J0_1053) (fun _ h9 => h9) dJ0_checkIndex_df160_2 (key _ (Or.inl rfl))
    · exact va_gets hx hb hz hS hown (hts _ kf_J0_1053) (fun _ h9 => h9) dJ0_checkIndex_df160_2 (key _ (Or.inr ⟨t, rfl⟩))
