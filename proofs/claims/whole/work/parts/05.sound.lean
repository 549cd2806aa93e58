/-! ===== what the small machine comes to, the JVM comes to: an instruction, a lemma ===== -/
def xPW (p : Program) (l : Launch) (e : Env) (R : Room) (s : State) (m : MethodId) (args : Array Value) (below : List Frame) (meth : Method) (c : Code) (cells slots : Nat) (Q : State → Prop) (D : va_G) (cA : ClassId) (ad : xOb → Nat) (mL : Nat) : xK := fun pc f =>
  ∀ (H : Heap) (locs : List Loc) (ls : Array Slot), va_P D vwCl (xwd ad cA f.2.2) H → va_S (xAd ad) s.heap H locs → xLk ad ls mL f.1 → W p l e R s m args below meth c H locs cells slots Q (F0 m pc ls (f.2.1.map (xtv ad)))
def xCx (p : Program) (s : State) (m : MethodId) (args : Array Value) (c : Code) (own : String) (cc : ByteArray) (mL : Nat) (R : Room) (cells slots : Nat) (D : va_G) (cA : ClassId) (ad : xOb → Nat) : Prop :=
  p.tables.exec = Jvm.exec ∧ c.code = cc ∧ c.maxLocals = mL ∧ s.vm.findClass own = some m.cls ∧ (∀ w ∈ xAL, w.before args s = true) ∧ xSx D cA ad s ∧ cells ≤ R.cells ∧ slots ≤ R.slots
def xOk (own : String) (cc : ByteArray) (mL : Nat) (R : Room) (pc : Nat) (i : xI) : Prop :=
  ∀ (p : Program) (l : Launch) (e : Env) (s : State) (m : MethodId) (args : Array Value) (below : List Frame) (meth : Method) (c : Code) (cells slots : Nat) (Q : State → Prop) (D : va_G) (cA : ClassId) (ad : xOb → Nat) (Rt : xR),
    xCx p s m args c own cc mL R cells slots D cA ad → ∀ f : xF, i.1 f (xPW p l e R s m args below meth c cells slots Q D cA ad mL) Rt → xPW p l e R s m args below meth c cells slots Q D cA ad mL pc f
theorem xdet_inv {g : xF → Option (Nat × xF)} {f : xF} {K : xK} {R : xR} (h : (xdet g).1 f K R) : ∃ n f', g f = some (n, f') ∧ K n f' := by
  have h : (match g f with
    | some (n, f') => K n f'
    | none => False) := h
  cases hg : g f with
  | none => rw [hg] at h; exact h.elim
  | some q => rw [hg] at h; exact ⟨q.1, q.2, rfl, h⟩
theorem xdec_inv {g : xF → Option (Prop × (Nat × xF))} {f : xF} {K : xK} {R : xR} (h : (xdec g).1 f K R) : ∃ c n f', g f = some (c, n, f') ∧ c ∧ K n f' := by
  have h : (match g f with
    | some (c, n, f') => c ∧ K n f'
    | none => False) := h
  cases hg : g f with
  | none => rw [hg] at h; exact h.elim
  | some q => rw [hg] at h; exact ⟨q.1, q.2.1, q.2.2, rfl, h⟩
theorem xbr_inv {g : xF → Option (Prop × (Nat × (Nat × xF)))} {f : xF} {K : xK} {R : xR} (h : (xbr g).1 f K R) : ∃ c t n f', g f = some (c, t, n, f') ∧ (c → K t f') ∧ (¬ c → K n f') := by
  have h : (match g f with
    | some (c, t, n, f') => (c → K t f') ∧ (¬ c → K n f')
    | none => False) := h
  cases hg : g f with
  | none => rw [hg] at h; exact h.elim
  | some q => rw [hg] at h; exact ⟨q.1, q.2.1, q.2.2.1, q.2.2.2, rfl, h⟩
theorem xre_inv {g : xF → Option (Prop × (Option xV × xM))} {f : xF} {K : xK} {R : xR} (h : (xre g).1 f K R) : ∃ c v M, g f = some (c, v, M) ∧ c ∧ R v M := by
  have h : (match g f with
    | some (c, v, M) => c ∧ R v M
    | none => False) := h
  cases hg : g f with
  | none => rw [hg] at h; exact h.elim
  | some q => rw [hg] at h; exact ⟨q.1, q.2.1, q.2.2, rfl, h⟩
section XOK
variable {own : String} {cc : ByteArray} {mL : Nat} {R : Room} {pc nx tg : Nat}

theorem ok_iadd (hd : decode cc pc = .ok (.iadd, 1)) (hn : pc + 1 = nx) : xOk own cc mL R pc (x_iadd nx) := by
  subst hn
  intro p l e s m args below meth c cells slots Q D cA ad Rt hC f hi
  obtain ⟨n, f', hg, hk⟩ := xdet_inv hi
  (try dsimp only at hg)
  split at hg <;> cases hg
  exact fun H locs ls hP hS hL => lv_iadd hC.1 hC.2.1 hd (hk H locs ls hP hS hL)
theorem ok_isub (hd : decode cc pc = .ok (.isub, 1)) (hn : pc + 1 = nx) : xOk own cc mL R pc (x_isub nx) := by
  subst hn
  intro p l e s m args below meth c cells slots Q D cA ad Rt hC f hi
  obtain ⟨n, f', hg, hk⟩ := xdet_inv hi
  (try dsimp only at hg)
  split at hg <;> cases hg
  exact fun H locs ls hP hS hL => lv_isub hC.1 hC.2.1 hd (hk H locs ls hP hS hL)
theorem ok_imul (hd : decode cc pc = .ok (.imul, 1)) (hn : pc + 1 = nx) : xOk own cc mL R pc (x_imul nx) := by
  subst hn
  intro p l e s m args below meth c cells slots Q D cA ad Rt hC f hi
  obtain ⟨n, f', hg, hk⟩ := xdet_inv hi
  (try dsimp only at hg)
  split at hg <;> cases hg
  exact fun H locs ls hP hS hL => lv_imul hC.1 hC.2.1 hd (hk H locs ls hP hS hL)
theorem ok_iand (hd : decode cc pc = .ok (.iand, 1)) (hn : pc + 1 = nx) : xOk own cc mL R pc (x_iand nx) := by
  subst hn
  intro p l e s m args below meth c cells slots Q D cA ad Rt hC f hi
  obtain ⟨n, f', hg, hk⟩ := xdet_inv hi
  (try dsimp only at hg)
  split at hg <;> cases hg
  exact fun H locs ls hP hS hL => lv_iand hC.1 hC.2.1 hd (hk H locs ls hP hS hL)
theorem ok_ior (hd : decode cc pc = .ok (.ior, 1)) (hn : pc + 1 = nx) : xOk own cc mL R pc (x_ior nx) := by
  subst hn
  intro p l e s m args below meth c cells slots Q D cA ad Rt hC f hi
  obtain ⟨n, f', hg, hk⟩ := xdet_inv hi
  (try dsimp only at hg)
  split at hg <;> cases hg
  exact fun H locs ls hP hS hL => lv_ior hC.1 hC.2.1 hd (hk H locs ls hP hS hL)
theorem ok_ixor (hd : decode cc pc = .ok (.ixor, 1)) (hn : pc + 1 = nx) : xOk own cc mL R pc (x_ixor nx) := by
  subst hn
  intro p l e s m args below meth c cells slots Q D cA ad Rt hC f hi
  obtain ⟨n, f', hg, hk⟩ := xdet_inv hi
  (try dsimp only at hg)
  split at hg <;> cases hg
  exact fun H locs ls hP hS hL => lv_ixor hC.1 hC.2.1 hd (hk H locs ls hP hS hL)
theorem ok_ishl (hd : decode cc pc = .ok (.ishl, 1)) (hn : pc + 1 = nx) : xOk own cc mL R pc (x_ishl nx) := by
  subst hn
  intro p l e s m args below meth c cells slots Q D cA ad Rt hC f hi
  obtain ⟨n, f', hg, hk⟩ := xdet_inv hi
  (try dsimp only at hg)
  split at hg <;> cases hg
  exact fun H locs ls hP hS hL => lv_ishl hC.1 hC.2.1 hd (hk H locs ls hP hS hL)
theorem ok_ishr (hd : decode cc pc = .ok (.ishr, 1)) (hn : pc + 1 = nx) : xOk own cc mL R pc (x_ishr nx) := by
  subst hn
  intro p l e s m args below meth c cells slots Q D cA ad Rt hC f hi
  obtain ⟨n, f', hg, hk⟩ := xdet_inv hi
  (try dsimp only at hg)
  split at hg <;> cases hg
  exact fun H locs ls hP hS hL => lv_ishr hC.1 hC.2.1 hd (hk H locs ls hP hS hL)
theorem ok_ineg (hd : decode cc pc = .ok (.ineg, 1)) (hn : pc + 1 = nx) : xOk own cc mL R pc (x_ineg nx) := by
  subst hn
  intro p l e s m args below meth c cells slots Q D cA ad Rt hC f hi
  obtain ⟨n, f', hg, hk⟩ := xdet_inv hi
  (try dsimp only at hg)
  split at hg <;> cases hg
  exact fun H locs ls hP hS hL => lv_ineg hC.1 hC.2.1 hd (hk H locs ls hP hS hL)
theorem ok_iushr (hd : decode cc pc = .ok (.iushr, 1)) (hn : pc + 1 = nx) : xOk own cc mL R pc (x_iushr nx) := by
  subst hn
  intro p l e s m args below meth c cells slots Q D cA ad Rt hC f hi
  obtain ⟨n, f', hg, hk⟩ := xdet_inv hi
  (try dsimp only at hg)
  split at hg <;> cases hg
  exact fun H locs ls hP hS hL => lv_iushr hC.1 hC.2.1 hd rfl (hk H locs ls hP hS hL)
theorem ok_idiv (hd : decode cc pc = .ok (.idiv, 1)) (hn : pc + 1 = nx) : xOk own cc mL R pc (x_idiv nx) := by
  subst hn
  intro p l e s m args below meth c cells slots Q D cA ad Rt hC f hi
  obtain ⟨cd, n, f', hg, hc, hk⟩ := xdec_inv hi
  (try dsimp only at hg)
  split at hg <;> cases hg
  exact fun H locs ls hP hS hL => lv_idiv hC.1 hC.2.1 hd hc (hk H locs ls hP hS hL)
theorem ok_irem (hd : decode cc pc = .ok (.irem, 1)) (hn : pc + 1 = nx) : xOk own cc mL R pc (x_irem nx) := by
  subst hn
  intro p l e s m args below meth c cells slots Q D cA ad Rt hC f hi
  obtain ⟨cd, n, f', hg, hc, hk⟩ := xdec_inv hi
  (try dsimp only at hg)
  split at hg <;> cases hg
  exact fun H locs ls hP hS hL => lv_irem hC.1 hC.2.1 hd hc (hk H locs ls hP hS hL)
theorem ok_ladd (hd : decode cc pc = .ok (.ladd, 1)) (hn : pc + 1 = nx) : xOk own cc mL R pc (x_ladd nx) := by
  subst hn
  intro p l e s m args below meth c cells slots Q D cA ad Rt hC f hi
  obtain ⟨n, f', hg, hk⟩ := xdet_inv hi
  (try dsimp only at hg)
  split at hg <;> cases hg
  exact fun H locs ls hP hS hL => lv_ladd hC.1 hC.2.1 hd (hk H locs ls hP hS hL)
theorem ok_lsub (hd : decode cc pc = .ok (.lsub, 1)) (hn : pc + 1 = nx) : xOk own cc mL R pc (x_lsub nx) := by
  subst hn
  intro p l e s m args below meth c cells slots Q D cA ad Rt hC f hi
  obtain ⟨n, f', hg, hk⟩ := xdet_inv hi
  (try dsimp only at hg)
  split at hg <;> cases hg
  exact fun H locs ls hP hS hL => lv_lsub hC.1 hC.2.1 hd (hk H locs ls hP hS hL)
theorem ok_lmul (hd : decode cc pc = .ok (.lmul, 1)) (hn : pc + 1 = nx) : xOk own cc mL R pc (x_lmul nx) := by
  subst hn
  intro p l e s m args below meth c cells slots Q D cA ad Rt hC f hi
  obtain ⟨n, f', hg, hk⟩ := xdet_inv hi
  (try dsimp only at hg)
  split at hg <;> cases hg
  exact fun H locs ls hP hS hL => lv_lmul hC.1 hC.2.1 hd (hk H locs ls hP hS hL)
theorem ok_ldiv (hd : decode cc pc = .ok (.ldiv, 1)) (hn : pc + 1 = nx) : xOk own cc mL R pc (x_ldiv nx) := by
  subst hn
  intro p l e s m args below meth c cells slots Q D cA ad Rt hC f hi
  obtain ⟨cd, n, f', hg, hc, hk⟩ := xdec_inv hi
  (try dsimp only at hg)
  split at hg <;> cases hg
  exact fun H locs ls hP hS hL => lv_ldiv hC.1 hC.2.1 hd hc (hk H locs ls hP hS hL)
theorem ok_lrem (hd : decode cc pc = .ok (.lrem, 1)) (hn : pc + 1 = nx) : xOk own cc mL R pc (x_lrem nx) := by
  subst hn
  intro p l e s m args below meth c cells slots Q D cA ad Rt hC f hi
  obtain ⟨cd, n, f', hg, hc, hk⟩ := xdec_inv hi
  (try dsimp only at hg)
  split at hg <;> cases hg
  exact fun H locs ls hP hS hL => lv_lrem hC.1 hC.2.1 hd hc (hk H locs ls hP hS hL)
theorem ok_lcmp (hd : decode cc pc = .ok (.lcmp, 1)) (hn : pc + 1 = nx) : xOk own cc mL R pc (x_lcmp nx) := by
  subst hn
  intro p l e s m args below meth c cells slots Q D cA ad Rt hC f hi
  obtain ⟨n, f', hg, hk⟩ := xdet_inv hi
  (try dsimp only at hg)
  split at hg <;> cases hg
  exact fun H locs ls hP hS hL => W.lcmp hC.1 hC.2.1 hd (hk H locs ls hP hS hL)
theorem ok_i2l (hd : decode cc pc = .ok (.i2l, 1)) (hn : pc + 1 = nx) : xOk own cc mL R pc (x_i2l nx) := by
  subst hn
  intro p l e s m args below meth c cells slots Q D cA ad Rt hC f hi
  obtain ⟨n, f', hg, hk⟩ := xdet_inv hi
  (try dsimp only at hg)
  split at hg <;> cases hg
  exact fun H locs ls hP hS hL => lv_i2l hC.1 hC.2.1 hd rfl (hk H locs ls hP hS hL)
theorem ok_i2c (hd : decode cc pc = .ok (.i2c, 1)) (hn : pc + 1 = nx) : xOk own cc mL R pc (x_i2c nx) := by
  subst hn
  intro p l e s m args below meth c cells slots Q D cA ad Rt hC f hi
  obtain ⟨n, f', hg, hk⟩ := xdet_inv hi
  (try dsimp only at hg)
  split at hg <;> cases hg
  exact fun H locs ls hP hS hL => lv_i2c hC.1 hC.2.1 hd rfl (hk H locs ls hP hS hL)
theorem ok_dupi (hd : decode cc pc = .ok (.dup, 1)) (hn : pc + 1 = nx) : xOk own cc mL R pc (x_dupi nx) := by
  subst hn
  intro p l e s m args below meth c cells slots Q D cA ad Rt hC f hi
  obtain ⟨n, f', hg, hk⟩ := xdet_inv hi
  (try dsimp only at hg)
  split at hg <;> cases hg
  exact fun H locs ls hP hS hL => lv_dup hC.1 hC.2.1 hd rfl (hk H locs ls hP hS hL)
theorem ok_dupo (hd : decode cc pc = .ok (.dup, 1)) (hn : pc + 1 = nx) : xOk own cc mL R pc (x_dupo nx) := by
  subst hn
  intro p l e s m args below meth c cells slots Q D cA ad Rt hC f hi
  obtain ⟨n, f', hg, hk⟩ := xdet_inv hi
  (try dsimp only at hg)
  split at hg <;> cases hg
  exact fun H locs ls hP hS hL => lv_dup hC.1 hC.2.1 hd rfl (hk H locs ls hP hS hL)
theorem ok_popi (hd : decode cc pc = .ok (.pop, 1)) (hn : pc + 1 = nx) : xOk own cc mL R pc (x_popi nx) := by
  subst hn
  intro p l e s m args below meth c cells slots Q D cA ad Rt hC f hi
  obtain ⟨n, f', hg, hk⟩ := xdet_inv hi
  (try dsimp only at hg)
  split at hg <;> cases hg
  exact fun H locs ls hP hS hL => lv_pop hC.1 hC.2.1 hd rfl (hk H locs ls hP hS hL)
theorem ok_popo (hd : decode cc pc = .ok (.pop, 1)) (hn : pc + 1 = nx) : xOk own cc mL R pc (x_popo nx) := by
  subst hn
  intro p l e s m args below meth c cells slots Q D cA ad Rt hC f hi
  obtain ⟨n, f', hg, hk⟩ := xdet_inv hi
  (try dsimp only at hg)
  split at hg <;> cases hg
  exact fun H locs ls hP hS hL => lv_pop hC.1 hC.2.1 hd rfl (hk H locs ls hP hS hL)
theorem ok_dup2 (hd : decode cc pc = .ok (.dup2, 1)) (hn : pc + 1 = nx) : xOk own cc mL R pc (x_dup2 nx) := by
  subst hn
  intro p l e s m args below meth c cells slots Q D cA ad Rt hC f hi
  obtain ⟨n, f', hg, hk⟩ := xdet_inv hi
  (try dsimp only at hg)
  split at hg <;> cases hg
  exact fun H locs ls hP hS hL => lv_dup2_11 hC.1 hC.2.1 hd rfl rfl (hk H locs ls hP hS hL)
theorem ok_iconst {n : Int} {v : Int32} (hd : decode cc pc = .ok (.iconst n, 1)) (hv : Int32.ofInt n = v) (hn : pc + 1 = nx) : xOk own cc mL R pc (x_push (xi v) nx) := by
  subst hn
  intro p l e s m args below meth c cells slots Q D cA ad Rt hC f hi
  exact fun H locs ls hP hS hL => lv_iconst hC.1 hC.2.1 hd hv (hi H locs ls hP hS hL)
theorem ok_bipush {n : Int} {v : Int32} (hd : decode cc pc = .ok (.bipush n, 2)) (hv : (Int8.ofInt n).toInt32 = v) (hn : pc + 2 = nx) : xOk own cc mL R pc (x_push (xi v) nx) := by
  subst hn
  intro p l e s m args below meth c cells slots Q D cA ad Rt hC f hi
  exact fun H locs ls hP hS hL => lv_bipush hC.1 hC.2.1 hd hv (hi H locs ls hP hS hL)
theorem ok_sipush {n : Int} {v : Int32} (hd : decode cc pc = .ok (.sipush n, 3)) (hv : (Int16.ofInt n).toInt32 = v) (hn : pc + 3 = nx) : xOk own cc mL R pc (x_push (xi v) nx) := by
  subst hn
  intro p l e s m args below meth c cells slots Q D cA ad Rt hC f hi
  exact fun H locs ls hP hS hL => lv_sipush hC.1 hC.2.1 hd hv (hi H locs ls hP hS hL)
theorem ok_lconst {n : Fin 2} {v : Int64} (hd : decode cc pc = .ok (.lconst n, 1)) (hv : Int64.ofNat (n : Nat) = v) (hn : pc + 1 = nx) : xOk own cc mL R pc (x_push (xl v) nx) := by
  subst hn
  intro p l e s m args below meth c cells slots Q D cA ad Rt hC f hi
  exact fun H locs ls hP hS hL => lv_lconst hC.1 hC.2.1 hd hv (hi H locs ls hP hS hL)
theorem ok_ldc {ix : Nat} {v : Int32} (hd : decode cc pc = .ok (.ldc ix, 2)) (hw : Cond.constant own ix v ∈ xAL) (hn : pc + 2 = nx) : xOk own cc mL R pc (x_push (xi v) nx) := by
  subst hn
  intro p l e s m args below meth c cells slots Q D cA ad Rt hC f hi
  exact fun H locs ls hP hS hL => lv_ldc hC.1 hC.2.1 hC.2.2.2.1 (hC.2.2.2.2.1 _ hw) hd (hi H locs ls hP hS hL)
theorem ok_ldcw {ix : Nat} {v : Int32} (hd : decode cc pc = .ok (.ldc_w ix, 3)) (hw : Cond.constant own ix v ∈ xAL) (hn : pc + 3 = nx) : xOk own cc mL R pc (x_push (xi v) nx) := by
  subst hn
  intro p l e s m args below meth c cells slots Q D cA ad Rt hC f hi
  exact fun H locs ls hP hS hL => lv_ldcw hC.1 hC.2.1 hC.2.2.2.1 (hC.2.2.2.2.1 _ hw) hd (hi H locs ls hP hS hL)
theorem ok_ldc2 {ix : Nat} {v : Int64} (hd : decode cc pc = .ok (.ldc2_w ix, 3)) (hw : Cond.constantLong own ix v ∈ xAL) (hn : pc + 3 = nx) : xOk own cc mL R pc (x_push (xl v) nx) := by
  subst hn
  intro p l e s m args below meth c cells slots Q D cA ad Rt hC f hi
  exact fun H locs ls hP hS hL => lv_ldc2 hC.1 hC.2.1 hC.2.2.2.1 (hC.2.2.2.2.1 _ hw) hd (hi H locs ls hP hS hL)
theorem ok_ldcs {j : Nat} {q : Nat × String} (hq : xtx[j]? = some q) (ho : own = RX1) (hd : decode cc pc = .ok (.ldc q.1, 2)) (hn : pc + 2 = nx) : xOk own cc mL R pc (x_push (xo (xN (20 + j))) nx) := by
  subst hn
  intro p l e s m args below meth c cells slots Q D cA ad Rt hC f hi
  subst ho
  exact fun H locs ls hP hS hL => va_ldcS hC.1 hC.2.1 hC.2.2.2.1 (hC.2.2.2.2.2.1.2.2.2.2.2 j q hq) hd (hi H locs ls hP hS hL)
theorem ok_goto {off : Int} (hd : decode cc pc = .ok (.goto off, 3)) (hn : (pc : Int) + off = (nx : Int)) : xOk own cc mL R pc (x_goto nx) := by
  intro p l e s m args below meth c cells slots Q D cA ad Rt hC f hi
  exact fun H locs ls hP hS hL => lv_goto hC.1 hC.2.1 hd hn (hi H locs ls hP hS hL)
theorem ok_ildn {k : Fin 4} {i : Nat} (hd : decode cc pc = .ok (.iload_n k, 1)) (hi0 : (k : Nat) = i) (hn : pc + 1 = nx) : xOk own cc mL R pc (x_ild i nx) := by
  subst hn
  intro p l e s m args below meth c cells slots Q D cA ad Rt hC f hi
  obtain ⟨n, f', hg, hk⟩ := xdet_inv hi
  obtain ⟨ls0, st, M⟩ := f
  (try dsimp only at hg)
  split at hg <;> cases hg
  rename_i hx
  exact fun H locs ls hP hS hL => lv_iload_n hC.1 hC.2.1 hd hi0 (xLk_at hL hx) (hk H locs ls hP hS hL)
theorem ok_ild {i : Nat} (hd : decode cc pc = .ok (.iload i, 2)) (hn : pc + 2 = nx) : xOk own cc mL R pc (x_ild i nx) := by
  subst hn
  intro p l e s m args below meth c cells slots Q D cA ad Rt hC f hi
  obtain ⟨n, f', hg, hk⟩ := xdet_inv hi
  obtain ⟨ls0, st, M⟩ := f
  (try dsimp only at hg)
  split at hg <;> cases hg
  rename_i hx
  exact fun H locs ls hP hS hL => lv_iload hC.1 hC.2.1 hd (xLk_at hL hx) (hk H locs ls hP hS hL)
theorem ok_lldn {k : Fin 4} {i : Nat} (hd : decode cc pc = .ok (.lload_n k, 1)) (hi0 : (k : Nat) = i) (hn : pc + 1 = nx) : xOk own cc mL R pc (x_lld i nx) := by
  subst hn
  intro p l e s m args below meth c cells slots Q D cA ad Rt hC f hi
  obtain ⟨n, f', hg, hk⟩ := xdet_inv hi
  obtain ⟨ls0, st, M⟩ := f
  (try dsimp only at hg)
  split at hg <;> cases hg
  rename_i hx
  exact fun H locs ls hP hS hL => lv_lload_n hC.1 hC.2.1 hd hi0 (xLk_at hL hx) (hk H locs ls hP hS hL)
theorem ok_lld {i : Nat} (hd : decode cc pc = .ok (.lload i, 2)) (hn : pc + 2 = nx) : xOk own cc mL R pc (x_lld i nx) := by
  subst hn
  intro p l e s m args below meth c cells slots Q D cA ad Rt hC f hi
  obtain ⟨n, f', hg, hk⟩ := xdet_inv hi
  obtain ⟨ls0, st, M⟩ := f
  (try dsimp only at hg)
  split at hg <;> cases hg
  rename_i hx
  exact fun H locs ls hP hS hL => lv_lload hC.1 hC.2.1 hd (xLk_at hL hx) (hk H locs ls hP hS hL)
theorem ok_aldn {k : Fin 4} {i : Nat} (hd : decode cc pc = .ok (.aload_n k, 1)) (hi0 : (k : Nat) = i) (hn : pc + 1 = nx) : xOk own cc mL R pc (x_ald i nx) := by
  subst hn
  intro p l e s m args below meth c cells slots Q D cA ad Rt hC f hi
  obtain ⟨n, f', hg, hk⟩ := xdet_inv hi
  obtain ⟨ls0, st, M⟩ := f
  (try dsimp only at hg)
  split at hg <;> cases hg
  rename_i hx
  exact fun H locs ls hP hS hL => lv_aload_n hC.1 hC.2.1 hd hi0 (xLk_at hL hx) (hk H locs ls hP hS hL)
theorem ok_ald {i : Nat} (hd : decode cc pc = .ok (.aload i, 2)) (hn : pc + 2 = nx) : xOk own cc mL R pc (x_ald i nx) := by
  subst hn
  intro p l e s m args below meth c cells slots Q D cA ad Rt hC f hi
  obtain ⟨n, f', hg, hk⟩ := xdet_inv hi
  obtain ⟨ls0, st, M⟩ := f
  (try dsimp only at hg)
  split at hg <;> cases hg
  rename_i hx
  exact fun H locs ls hP hS hL => lv_aload hC.1 hC.2.1 hd (xLk_at hL hx) (hk H locs ls hP hS hL)
theorem ok_istn {k : Fin 4} {i : Nat} (hd : decode cc pc = .ok (.istore_n k, 1)) (hi0 : (k : Nat) = i) (hm : i < mL) (hn : pc + 1 = nx) : xOk own cc mL R pc (x_ist i nx) := by
  subst hn
  intro p l e s m args below meth c cells slots Q D cA ad Rt hC f hi
  obtain ⟨n, f', hg, hk⟩ := xdet_inv hi
  (try dsimp only at hg)
  split at hg <;> cases hg
  exact fun H locs ls hP hS hL => lv_istore_n hC.1 hC.2.1 hd hi0 hL.2 hm rfl (fun ls' hl' => hk H locs ls' hP hS (xLk_st1 hL hl'))
theorem ok_ist {i : Nat} (hd : decode cc pc = .ok (.istore i, 2)) (hm : i < mL) (hn : pc + 2 = nx) : xOk own cc mL R pc (x_ist i nx) := by
  subst hn
  intro p l e s m args below meth c cells slots Q D cA ad Rt hC f hi
  obtain ⟨n, f', hg, hk⟩ := xdet_inv hi
  (try dsimp only at hg)
  split at hg <;> cases hg
  exact fun H locs ls hP hS hL => lv_istore hC.1 hC.2.1 hd hL.2 hm rfl (fun ls' hl' => hk H locs ls' hP hS (xLk_st1 hL hl'))
theorem ok_astn {k : Fin 4} {i : Nat} (hd : decode cc pc = .ok (.astore_n k, 1)) (hi0 : (k : Nat) = i) (hm : i < mL) (hn : pc + 1 = nx) : xOk own cc mL R pc (x_ast i nx) := by
  subst hn
  intro p l e s m args below meth c cells slots Q D cA ad Rt hC f hi
  obtain ⟨n, f', hg, hk⟩ := xdet_inv hi
  (try dsimp only at hg)
  split at hg <;> cases hg
  exact fun H locs ls hP hS hL => lv_astore_n hC.1 hC.2.1 hd hi0 hL.2 hm rfl (fun ls' hl' => hk H locs ls' hP hS (xLk_st1 hL hl'))
theorem ok_ast {i : Nat} (hd : decode cc pc = .ok (.astore i, 2)) (hm : i < mL) (hn : pc + 2 = nx) : xOk own cc mL R pc (x_ast i nx) := by
  subst hn
  intro p l e s m args below meth c cells slots Q D cA ad Rt hC f hi
  obtain ⟨n, f', hg, hk⟩ := xdet_inv hi
  (try dsimp only at hg)
  split at hg <;> cases hg
  exact fun H locs ls hP hS hL => lv_astore hC.1 hC.2.1 hd hL.2 hm rfl (fun ls' hl' => hk H locs ls' hP hS (xLk_st1 hL hl'))
theorem ok_lstn {k : Fin 4} {i : Nat} (hd : decode cc pc = .ok (.lstore_n k, 1)) (hi0 : (k : Nat) = i) (hm : i + 1 < mL) (hn : pc + 1 = nx) : xOk own cc mL R pc (x_lst i nx) := by
  subst hn
  intro p l e s m args below meth c cells slots Q D cA ad Rt hC f hi
  obtain ⟨n, f', hg, hk⟩ := xdet_inv hi
  (try dsimp only at hg)
  split at hg <;> cases hg
  exact fun H locs ls hP hS hL => lv_lstore_n hC.1 hC.2.1 hd hi0 hL.2 hm rfl (fun ls' hl' => hk H locs ls' hP hS (xLk_st2 hL hl'))
theorem ok_lst {i : Nat} (hd : decode cc pc = .ok (.lstore i, 2)) (hm : i + 1 < mL) (hn : pc + 2 = nx) : xOk own cc mL R pc (x_lst i nx) := by
  subst hn
  intro p l e s m args below meth c cells slots Q D cA ad Rt hC f hi
  obtain ⟨n, f', hg, hk⟩ := xdet_inv hi
  (try dsimp only at hg)
  split at hg <;> cases hg
  exact fun H locs ls hP hS hL => lv_lstore hC.1 hC.2.1 hd hL.2 hm rfl (fun ls' hl' => hk H locs ls' hP hS (xLk_st2 hL hl'))
theorem ok_iinc {i : Nat} {n : Int} {v : Int32} (hd : decode cc pc = .ok (.iinc i n, 3)) (hv : Int32.ofInt n = v) (hm : i < mL) (hn : pc + 3 = nx) : xOk own cc mL R pc (x_iinc i v nx) := by
  subst hn
  intro p l e s m args below meth c cells slots Q D cA ad Rt hC f hi
  obtain ⟨n', f', hg, hk⟩ := xdet_inv hi
  obtain ⟨ls0, st, M⟩ := f
  (try dsimp only at hg)
  split at hg <;> cases hg
  rename_i a hx
  intro H locs ls hP hS hL
  obtain ⟨k, hk2⟩ := List.getElem?_of_mem (xas_get (ad := ad) ls0 0 i _ hx)
  rw [Nat.zero_add] at hk2
  exact lv_iinc hC.1 hC.2.1 hd hL.2 hk2 (by rw [hv]) hm rfl (fun ls' hl' => hk H locs ls' hP hS (xLk_st1 hL hl'))
theorem ok_ifeq {off : Int} (hd : decode cc pc = .ok (.ifCond .eq off, 3)) (ht : (pc : Int) + off = (tg : Int)) (hn : pc + 3 = nx) : xOk own cc mL R pc (x_ifeq tg nx) := by
  subst hn
  intro p l e s m args below meth c cells slots Q D cA ad Rt hC f hi
  obtain ⟨cd, t, n, f', hg, h1, h2⟩ := xbr_inv hi
  (try dsimp only at hg)
  split at hg <;> cases hg
  exact fun H locs ls hP hS hL => lv_if_eq hC.1 hC.2.1 hd ht (fun q => h1 q H locs ls hP hS hL) (fun q => h2 q H locs ls hP hS hL)
theorem ok_iceq {off : Int} (hd : decode cc pc = .ok (.if_icmp .eq off, 3)) (ht : (pc : Int) + off = (tg : Int)) (hn : pc + 3 = nx) : xOk own cc mL R pc (x_iceq tg nx) := by
  subst hn
  intro p l e s m args below meth c cells slots Q D cA ad Rt hC f hi
  obtain ⟨cd, t, n, f', hg, h1, h2⟩ := xbr_inv hi
  (try dsimp only at hg)
  split at hg <;> cases hg
  exact fun H locs ls hP hS hL => lv_icmp_eq hC.1 hC.2.1 hd ht (fun q => h1 q H locs ls hP hS hL) (fun q => h2 q H locs ls hP hS hL)
theorem ok_ifne {off : Int} (hd : decode cc pc = .ok (.ifCond .ne off, 3)) (ht : (pc : Int) + off = (tg : Int)) (hn : pc + 3 = nx) : xOk own cc mL R pc (x_ifne tg nx) := by
  subst hn
  intro p l e s m args below meth c cells slots Q D cA ad Rt hC f hi
  obtain ⟨cd, t, n, f', hg, h1, h2⟩ := xbr_inv hi
  (try dsimp only at hg)
  split at hg <;> cases hg
  exact fun H locs ls hP hS hL => lv_if_ne hC.1 hC.2.1 hd ht (fun q => h2 q H locs ls hP hS hL) (fun q => h1 q H locs ls hP hS hL)
theorem ok_icne {off : Int} (hd : decode cc pc = .ok (.if_icmp .ne off, 3)) (ht : (pc : Int) + off = (tg : Int)) (hn : pc + 3 = nx) : xOk own cc mL R pc (x_icne tg nx) := by
  subst hn
  intro p l e s m args below meth c cells slots Q D cA ad Rt hC f hi
  obtain ⟨cd, t, n, f', hg, h1, h2⟩ := xbr_inv hi
  (try dsimp only at hg)
  split at hg <;> cases hg
  exact fun H locs ls hP hS hL => lv_icmp_ne hC.1 hC.2.1 hd ht (fun q => h2 q H locs ls hP hS hL) (fun q => h1 q H locs ls hP hS hL)
theorem ok_iflt {off : Int} (hd : decode cc pc = .ok (.ifCond .lt off, 3)) (ht : (pc : Int) + off = (tg : Int)) (hn : pc + 3 = nx) : xOk own cc mL R pc (x_iflt tg nx) := by
  subst hn
  intro p l e s m args below meth c cells slots Q D cA ad Rt hC f hi
  obtain ⟨cd, t, n, f', hg, h1, h2⟩ := xbr_inv hi
  (try dsimp only at hg)
  split at hg <;> cases hg
  exact fun H locs ls hP hS hL => lv_if_lt hC.1 hC.2.1 hd ht (fun q => h1 q H locs ls hP hS hL) (fun q => h2 q H locs ls hP hS hL)
theorem ok_iclt {off : Int} (hd : decode cc pc = .ok (.if_icmp .lt off, 3)) (ht : (pc : Int) + off = (tg : Int)) (hn : pc + 3 = nx) : xOk own cc mL R pc (x_iclt tg nx) := by
  subst hn
  intro p l e s m args below meth c cells slots Q D cA ad Rt hC f hi
  obtain ⟨cd, t, n, f', hg, h1, h2⟩ := xbr_inv hi
  (try dsimp only at hg)
  split at hg <;> cases hg
  exact fun H locs ls hP hS hL => lv_icmp_lt hC.1 hC.2.1 hd ht (fun q => h1 q H locs ls hP hS hL) (fun q => h2 q H locs ls hP hS hL)
theorem ok_ifge {off : Int} (hd : decode cc pc = .ok (.ifCond .ge off, 3)) (ht : (pc : Int) + off = (tg : Int)) (hn : pc + 3 = nx) : xOk own cc mL R pc (x_ifge tg nx) := by
  subst hn
  intro p l e s m args below meth c cells slots Q D cA ad Rt hC f hi
  obtain ⟨cd, t, n, f', hg, h1, h2⟩ := xbr_inv hi
  (try dsimp only at hg)
  split at hg <;> cases hg
  exact fun H locs ls hP hS hL => lv_if_ge hC.1 hC.2.1 hd ht (fun q => h1 q H locs ls hP hS hL) (fun q => h2 q H locs ls hP hS hL)
theorem ok_icge {off : Int} (hd : decode cc pc = .ok (.if_icmp .ge off, 3)) (ht : (pc : Int) + off = (tg : Int)) (hn : pc + 3 = nx) : xOk own cc mL R pc (x_icge tg nx) := by
  subst hn
  intro p l e s m args below meth c cells slots Q D cA ad Rt hC f hi
  obtain ⟨cd, t, n, f', hg, h1, h2⟩ := xbr_inv hi
  (try dsimp only at hg)
  split at hg <;> cases hg
  exact fun H locs ls hP hS hL => lv_icmp_ge hC.1 hC.2.1 hd ht (fun q => h1 q H locs ls hP hS hL) (fun q => h2 q H locs ls hP hS hL)
theorem ok_ifgt {off : Int} (hd : decode cc pc = .ok (.ifCond .gt off, 3)) (ht : (pc : Int) + off = (tg : Int)) (hn : pc + 3 = nx) : xOk own cc mL R pc (x_ifgt tg nx) := by
  subst hn
  intro p l e s m args below meth c cells slots Q D cA ad Rt hC f hi
  obtain ⟨cd, t, n, f', hg, h1, h2⟩ := xbr_inv hi
  (try dsimp only at hg)
  split at hg <;> cases hg
  exact fun H locs ls hP hS hL => lv_if_gt hC.1 hC.2.1 hd ht (fun q => h1 q H locs ls hP hS hL) (fun q => h2 q H locs ls hP hS hL)
theorem ok_icgt {off : Int} (hd : decode cc pc = .ok (.if_icmp .gt off, 3)) (ht : (pc : Int) + off = (tg : Int)) (hn : pc + 3 = nx) : xOk own cc mL R pc (x_icgt tg nx) := by
  subst hn
  intro p l e s m args below meth c cells slots Q D cA ad Rt hC f hi
  obtain ⟨cd, t, n, f', hg, h1, h2⟩ := xbr_inv hi
  (try dsimp only at hg)
  split at hg <;> cases hg
  exact fun H locs ls hP hS hL => lv_icmp_gt hC.1 hC.2.1 hd ht (fun q => h1 q H locs ls hP hS hL) (fun q => h2 q H locs ls hP hS hL)
theorem ok_ifle {off : Int} (hd : decode cc pc = .ok (.ifCond .le off, 3)) (ht : (pc : Int) + off = (tg : Int)) (hn : pc + 3 = nx) : xOk own cc mL R pc (x_ifle tg nx) := by
  subst hn
  intro p l e s m args below meth c cells slots Q D cA ad Rt hC f hi
  obtain ⟨cd, t, n, f', hg, h1, h2⟩ := xbr_inv hi
  (try dsimp only at hg)
  split at hg <;> cases hg
  exact fun H locs ls hP hS hL => lv_if_le hC.1 hC.2.1 hd ht (fun q => h1 q H locs ls hP hS hL) (fun q => h2 q H locs ls hP hS hL)
theorem ok_icle {off : Int} (hd : decode cc pc = .ok (.if_icmp .le off, 3)) (ht : (pc : Int) + off = (tg : Int)) (hn : pc + 3 = nx) : xOk own cc mL R pc (x_icle tg nx) := by
  subst hn
  intro p l e s m args below meth c cells slots Q D cA ad Rt hC f hi
  obtain ⟨cd, t, n, f', hg, h1, h2⟩ := xbr_inv hi
  (try dsimp only at hg)
  split at hg <;> cases hg
  exact fun H locs ls hP hS hL => lv_icmp_le hC.1 hC.2.1 hd ht (fun q => h1 q H locs ls hP hS hL) (fun q => h2 q H locs ls hP hS hL)
end XOK
section XOK2
variable {own : String} {cc : ByteArray} {mL : Nat} {R : Room} {pc nx tg : Nat}
theorem xat_get {ad : xOb → Nat} : ∀ (l : List xV) (k : Nat) (v : xV), xat l k = some v → (l.map (xtv ad))[k]? = some (xtv ad v)
  | [], _, _, h => by cases h
  | a :: l, 0, v, h => by cases h; rfl
  | a :: l, k + 1, v, h => by
    have := xat_get (ad := ad) l k v h
    rw [List.map_cons, List.getElem?_cons_succ]
    exact this
theorem xwd_ob {ad : xOb → Nat} {cA : ClassId} {M : xM} {o : xOb} {ci : Nat} (h : xci o = ci) (h4 : ci < 4) : (xwd ad cA M)[xix o]? = some (ad o, .inr (ci, (xfl o (M o)).map (xtv ad))) := by
  subst h
  rw [xwd_at (xobs_cl o h4)]
  unfold xen
  rw [xal_cl o h4]
theorem xwd_ar {ad : xOb → Nat} {cA : ClassId} {M : xM} {o : xOb} {n : Nat} (h : xal o = some n) : (xwd ad cA M)[xix o]? = some (ad o, .inl (cA, n, .inl (M o))) := by
  rw [xwd_at (xobs_ar o n h)]
  unfold xen
  rw [h]
theorem ok_get {ci k ix : Nat} {C : String} {T : u_T} {N : Nat} (hcl : vwCl[ci]? = some (C, T, N)) (hlay : ∀ w ∈ u_ws C T N, w ∈ xAL) (hk : k < N) (hw : Cond.fieldLink own ix (T k).1 (T k).2.1 (T k).2.2.1 ∈ xAL) (hd : decode cc pc = .ok (.getfield ix, 3)) (hn : pc + 3 = nx) : xOk own cc mL R pc (x_get ci k nx) := by
  subst hn
  intro p l e s m args below meth c cells slots Q D cA ad Rt hC f hi
  obtain ⟨n, f', hg, hk2⟩ := xdet_inv hi
  (try dsimp only at hg)
  split at hg
  · rename_i ls0 o st M
    cases hb : Nat.beq (xci o) ci with
    | false => rw [hb] at hg; cases hg
    | true =>
      rw [hb] at hg
      have hg : (match xat (xfl o (M o)) k with
        | some v => some (pc + 3, ls0, v :: st, M)
        | none => none) = some (n, f') := hg
      split at hg <;> cases hg
      rename_i v hv
      have hci := Nat.eq_of_beq_eq_true hb
      have h4 : ci < 4 := (List.getElem?_eq_some_iff.mp hcl).1
      intro H locs ls hP hS hL
      exact va_get hC.1 hC.2.1 hC.2.2.2.2.1 hlay hC.2.2.2.1 hC.2.2.2.2.2.1.1 hP (xix o) (xwd_ob hci h4) hcl k hk (hC.2.2.2.2.1 _ hw) (fun _ h9 => h9) (xat_get _ k v hv) hd (hk2 H locs ls hP hS hL)
  · cases hg
theorem xwd_put {ad : xOb → Nat} {cA : ClassId} {M : xM} {o : xOb} {ci k : Nat} {a : Int32} (h : xci o = ci) (h4 : ci < 4) (hf : (xfl o (M o)).set k (xi a) = xfl o (upd (M o) k a)) : (xwd ad cA M).set (xix o) (ad o, .inr (ci, ((xfl o (M o)).map (xtv ad)).set k (.int a))) = xwd ad cA (xup M o k a) := by
  subst h
  have h1 := xwd_set (ad := ad) (cA := cA) (M := M) (xobs_cl o h4) (upd (M o) k a)
  have h2 : xen ad cA o (upd (M o) k a) = .inr (xci o, ((xfl o (M o)).map (xtv ad)).set k (.int a)) := by
    unfold xen
    rw [xal_cl o h4, ← hf, List.map_set]
    rfl
  rw [h2] at h1
  exact h1
theorem xwd_put2 {ad : xOb → Nat} {cA : ClassId} {M : xM} {o : xOb} {n k : Nat} {a : Int32} (h : xal o = some n) : (xwd ad cA M).set (xix o) (ad o, .inl (cA, n, .inl (upd (M o) k a))) = xwd ad cA (xup M o k a) := by
  have h1 := xwd_set (ad := ad) (cA := cA) (M := M) (xobs_ar o n h) (upd (M o) k a)
  have h2 : xen ad cA o (upd (M o) k a) = .inl (cA, n, .inl (upd (M o) k a)) := by
    unfold xen
    rw [h]
  rw [h2] at h1
  exact h1
theorem xput_at {l : List xV} {k : Nat} {a b : xV} (h : xat l k = some b) : k < l.length := by
  have := xat_get (ad := fun _ => 0) l k b h
  have := (List.getElem?_eq_some_iff.mp this).1
  simpa using this
theorem ok_put {ci k ix : Nat} {C : String} {T : u_T} {N : Nat} (hcl : vwCl[ci]? = some (C, T, N)) (hlay : ∀ w ∈ u_ws C T N, w ∈ xAL) (ty0 : Nat → FieldType) (hty : ∀ k, k < N → parseFieldDescriptor (T k).2.2.1 = some (ty0 k)) (hnm : ∀ a, a < N → ∀ b, b < N → a ≠ b → (T a).2.1 ≠ (T b).2.1) (hk : k < N) (hfin : (T k).2.2.2 = false) (hint : ty0 k = .int) (hfl : ∀ (o : xOb) (g : Nat → Int32) (a : Int32), xci o = ci → (xfl o g).set k (xi a) = xfl o (upd g k a) ∧ k < (xfl o g).length) (hw : Cond.fieldLink own ix (T k).1 (T k).2.1 (T k).2.2.1 ∈ xAL) (hd : decode cc pc = .ok (.putfield ix, 3)) (hn : pc + 3 = nx) : xOk own cc mL R pc (x_put ci k nx) := by
  subst hn
  intro p l e s m args below meth c cells slots Q D cA ad Rt hC f hi
  obtain ⟨n, f', hg, hk2⟩ := xdet_inv hi
  (try dsimp only at hg)
  split at hg
  · rename_i ls0 a o st M
    cases hb : Nat.beq (xci o) ci with
    | false => rw [hb] at hg; cases hg
    | true =>
      rw [hb] at hg
      have hg : some (pc + 3, ls0, st, xup M o k a) = some (n, f') := hg
      cases hg
      have hci := Nat.eq_of_beq_eq_true hb
      have h4 : ci < 4 := (List.getElem?_eq_some_iff.mp hcl).1
      intro H locs ls hP hS hL
      refine va_put (v := .int a) (ty := .int) hC.1 hC.2.1 hC.2.2.2.2.1 hlay ty0 hty hnm hC.2.2.2.1 hC.2.2.2.2.2.1.1 hP (xwd_D hC.2.2.2.2.2.1.2.1) hS (xix o) (xwd_ob hci h4) hcl k hk (hC.2.2.2.2.1 _ hw) (fun _ h9 => h9) hfin (by rw [hty k hk, hint]) rfl rfl (by rw [List.length_map]; exact (hfl o (M o) a hci).2) hd (fun H1 locs1 hP1 _ hS1 => ?_)
      rw [xwd_put hci h4 (hfl o (M o) a hci).1] at hP1
      exact hk2 H1 locs1 ls hP1 hS1 hL
  · cases hg
theorem ok_putz {ci k ix : Nat} {C : String} {T : u_T} {N : Nat} (hcl : vwCl[ci]? = some (C, T, N)) (hlay : ∀ w ∈ u_ws C T N, w ∈ xAL) (ty0 : Nat → FieldType) (hty : ∀ k, k < N → parseFieldDescriptor (T k).2.2.1 = some (ty0 k)) (hnm : ∀ a, a < N → ∀ b, b < N → a ≠ b → (T a).2.1 ≠ (T b).2.1) (hk : k < N) (hfin : (T k).2.2.2 = false) (hint : ty0 k = .boolean) (hfl : ∀ (o : xOb) (g : Nat → Int32) (a : Int32), xci o = ci → (xfl o g).set k (xi a) = xfl o (upd g k a) ∧ k < (xfl o g).length) (hw : Cond.fieldLink own ix (T k).1 (T k).2.1 (T k).2.2.1 ∈ xAL) (hd : decode cc pc = .ok (.putfield ix, 3)) (hn : pc + 3 = nx) : xOk own cc mL R pc (x_putz ci k nx) := by
  subst hn
  intro p l e s m args below meth c cells slots Q D cA ad Rt hC f hi
  obtain ⟨cd, n, f', hg, hcd, hk2⟩ := xdec_inv hi
  (try dsimp only at hg)
  split at hg
  · rename_i ls0 a o st M
    cases hb : Nat.beq (xci o) ci with
    | false => rw [hb] at hg; cases hg
    | true =>
      rw [hb] at hg
      have hg : some ((a = 0 ∨ a = 1), pc + 3, ls0, st, xup M o k a) = some (cd, n, f') := hg
      cases hg
      have hci := Nat.eq_of_beq_eq_true hb
      have h4 : ci < 4 := (List.getElem?_eq_some_iff.mp hcl).1
      have hnr : narrow .boolean (.int a) = .int a ∧ fits .boolean (.int a) = true := by
        rcases hcd with rfl | rfl <;> exact ⟨rfl, rfl⟩
      intro H locs ls hP hS hL
      refine va_put (v := .int a) (ty := .boolean) hC.1 hC.2.1 hC.2.2.2.2.1 hlay ty0 hty hnm hC.2.2.2.1 hC.2.2.2.2.2.1.1 hP (xwd_D hC.2.2.2.2.2.1.2.1) hS (xix o) (xwd_ob hci h4) hcl k hk (hC.2.2.2.2.1 _ hw) (fun _ h9 => h9) hfin (by rw [hty k hk, hint]) hnr.1 hnr.2 (by rw [List.length_map]; exact (hfl o (M o) a hci).2) hd (fun H1 locs1 hP1 _ hS1 => ?_)
      rw [xwd_put hci h4 (hfl o (M o) a hci).1] at hP1
      exact hk2 H1 locs1 ls hP1 hS1 hL
  · cases hg
theorem ok_iald (hd : decode cc pc = .ok (.iaload, 1)) (hn : pc + 1 = nx) : xOk own cc mL R pc (x_iald nx) := by
  subst hn
  intro p l e s m args below meth c cells slots Q D cA ad Rt hC f hi
  obtain ⟨cd, n, f', hg, hcd, hk2⟩ := xdec_inv hi
  (try dsimp only at hg)
  split at hg
  · split at hg <;> cases hg
    rename_i hal
    intro H locs ls hP hS hL
    exact va_iald hC.1 hC.2.1 hC.2.2.2.2.2.1.1 hP _ 0 (xwd_ar hal) rfl hcd hd (hk2 H locs ls hP hS hL)
  · cases hg
theorem ok_iast (hd : decode cc pc = .ok (.iastore, 1)) (hn : pc + 1 = nx) : xOk own cc mL R pc (x_iast nx) := by
  subst hn
  intro p l e s m args below meth c cells slots Q D cA ad Rt hC f hi
  obtain ⟨cd, n, f', hg, hcd, hk2⟩ := xdec_inv hi
  (try dsimp only at hg)
  split at hg
  · split at hg <;> cases hg
    rename_i hal
    intro H locs ls hP hS hL
    refine va_iast hC.1 hC.2.1 hC.2.2.2.2.2.1.1 hP (xwd_D hC.2.2.2.2.2.1.2.1) hS _ 0 (xwd_ar hal) rfl hcd hd (fun H1 locs1 hP1 _ hS1 => ?_)
    rw [xwd_put2 hal] at hP1
    exact hk2 H1 locs1 ls hP1 hS1 hL
  · cases hg
theorem xcs_sum (ad : xOb → Nat) : ∀ st : List xV, ((st.map (xtv ad)).map fun v => v.category).sum = xcs st
  | [] => rfl
  | v :: r => by
    rw [List.map_cons, List.map_cons, List.sum_cons, xcs_sum ad r, xtv_cat]
    rfl
theorem ok_min {ix : Nat} (hw : Cond.methodLink own ix Lib.Math.min.name ∈ xAL) (hR : 1 ≤ R.frames ∧ 21 ≤ R.locals) (hd : decode cc pc = .ok (.invokestatic ix, 3)) (hn : pc + 3 = nx) : xOk own cc mL R pc (x_min nx) := by
  subst hn
  intro p l e s m args below meth c cells slots Q D cA ad Rt hC f hi
  obtain ⟨n, f', hg, hk2⟩ := xdet_inv hi
  (try dsimp only at hg)
  split at hg
  · rename_i ls0 b a st M
    cases hb : Nat.ble (xcs st) 8 with
    | false => rw [hb] at hg; cases hg
    | true =>
      rw [hb] at hg
      have hg : some (pc + 3, ls0, (.inl (if b < a then b else a) : xV) :: st, M) = some (n, f') := hg
      cases hg
      have h8 := Nat.le_of_ble_eq_true hb
      intro H locs ls hP hS hL
      exact va_mmin hC.1 hC.2.1 (by rw [hC.2.2.1]; exact hL.2.1.symm) hC.2.2.2.1 (hC.2.2.2.2.1 _ hw) (hC.2.2.2.2.1 _ kst_J9_min_7cf53) (hC.2.2.2.2.1 _ kin_J9) (hC.2.2.2.2.1 _ kc_J9_min_7cf53) hR.1 (by rw [xcs_sum]; omega) hC.2.2.2.2.2.2.1 hC.2.2.2.2.2.2.2 hd (hk2 H locs ls hP hS hL)
  · cases hg
theorem ok_max {ix : Nat} (hw : Cond.methodLink own ix Lib.Math.max.name ∈ xAL) (hR : 1 ≤ R.frames ∧ 21 ≤ R.locals) (hd : decode cc pc = .ok (.invokestatic ix, 3)) (hn : pc + 3 = nx) : xOk own cc mL R pc (x_max nx) := by
  subst hn
  intro p l e s m args below meth c cells slots Q D cA ad Rt hC f hi
  obtain ⟨n, f', hg, hk2⟩ := xdet_inv hi
  (try dsimp only at hg)
  split at hg
  · rename_i ls0 b a st M
    cases hb : Nat.ble (xcs st) 8 with
    | false => rw [hb] at hg; cases hg
    | true =>
      rw [hb] at hg
      have hg : some (pc + 3, ls0, (.inl (if a < b then b else a) : xV) :: st, M) = some (n, f') := hg
      cases hg
      have h8 := Nat.le_of_ble_eq_true hb
      intro H locs ls hP hS hL
      exact va_mmax hC.1 hC.2.1 (by rw [hC.2.2.1]; exact hL.2.1.symm) hC.2.2.2.1 (hC.2.2.2.2.1 _ hw) (hC.2.2.2.2.1 _ kst_J9_max_7cf53) (hC.2.2.2.2.1 _ kin_J9) (hC.2.2.2.2.1 _ kc_J9_max_7cf53) hR.1 (by rw [xcs_sum]; omega) hC.2.2.2.2.2.2.1 hC.2.2.2.2.2.2.2 hd (hk2 H locs ls hP hS hL)
  · cases hg
end XOK2
