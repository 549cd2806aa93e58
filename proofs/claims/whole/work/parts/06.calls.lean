theorem xpop_spec : ∀ (n : Nat) (st acc as rest : List xV), xpop n st acc = some (as, rest) → ∃ bs, as = bs ++ acc ∧ st = bs.reverse ++ rest ∧ bs.length = n
  | 0, st, acc, as, rest, h => by
    cases h
    exact ⟨[], rfl, rfl, rfl⟩
  | n + 1, [], acc, as, rest, h => by cases h
  | n + 1, v :: st, acc, as, rest, h => by
    obtain ⟨bs, h1, h2, h3⟩ := xpop_spec n st (v :: acc) as rest h
    refine ⟨bs ++ [v], ?_, ?_, ?_⟩
    · rw [h1, List.append_assoc]; rfl
    · rw [h2, List.reverse_append]; rfl
    · rw [List.length_append, h3]; rfl
/-- a method's meaning is what the JVM does -/
def xSnd (y : MethodName) (bytes : ByteArray) (maxL : Nat) (ret : Option FieldType) (rm : Room) (w : xZ) : Prop :=
  ∀ (l : Launch) (D : va_G) (cA : ClassId) (ad : xOb → Nat) (as : List xV) (M : xM) (Rt : xR), xcs as ≤ maxL → w.1 as M Rt → Met l y (Cond.code y bytes maxL ret :: xAL) rm (xPre D cA ad as M) (xPost D cA ad Rt) 0 0 (xAd ad)
section XCA
variable {p : Program} {l : Launch} {e : Env} {R : Room} {s : State} {m : MethodId} {args : Array Value} {below : List Frame} {meth : Method} {c : Code} {cells slots : Nat} {Q : State → Prop} {D : va_G} {cA : ClassId} {ad : xOb → Nat} {mL pc : Nat}
theorem xrun_W {H : Heap} {locs : List Loc} {ls : Array Slot} {st0 : List Value} {ls0 : List (Option xV)} {rest : List xV} {Rt : xR} {a : Array Value}
    (hr : va_Run p l e R s m args below meth c H locs cells slots 0 0 (F0 m pc ls st0) (rest.map (xtv ad)) (xPost D cA ad Rt a) (xAd ad)) (hS : va_S (xAd ad) s.heap H locs) (hL : xLk ad ls mL ls0)
    (kk : ∀ v M', Rt v M' → xPW p l e R s m args below meth c cells slots Q D cA ad mL (pc + 3) (ls0, v.toList ++ rest, M')) : W p l e R s m args below meth c H locs cells slots Q (F0 m pc ls st0) := by
  intro T hT X
  obtain ⟨v, st₀, t, T', L, h0, X', hLo, e1, e2, ⟨⟨v', M', hv, hp, hb⟩, hz, hk⟩, st⟩ := hr T hT X
  cases hv
  rw [h0] at hz hk
  have key := kk v' M' hp T'.heap (locs ++ L) ls (by rw [e1]; exact hb)
    ⟨Nat.le_trans hS.1 (by rw [e1]; exact hz), fun q h1 h2 => by rw [e1, hk q (Nat.lt_of_lt_of_le h1 hS.1) h2]; exact hS.2.1 q h1 h2, fun q hq => by
      rcases List.mem_append.mp hq with h | h
      · exact hS.2.2 q h
      · exact hLo q h⟩ hL
  obtain ⟨t2, a1, b1⟩ := key T' rfl X'
  refine ⟨t2, st t2 ?_, b1⟩
  have he : (v'.map (xtv ad)).toList ++ rest.map (xtv ad) = (v'.toList ++ rest).map (xtv ad) := by cases v' <;> rfl
  rw [he]
  exact a1
end XCA
def xoS (mL : Nat) : List xV → Bool := fun as => Nat.ble (xcs as) mL
def xoV (ci mL : Nat) : List xV → Bool := fun as => match as with
  | .inr (.inr o) :: _ => Nat.beq (xci o) ci && Nat.ble (xcs as) mL
  | _ => false
def xoT (mL : Nat) : List xV → Bool := fun as => match as with
  | .inr (.inr (.inr (.inr (.inr n)))) :: _ => (Nat.ble 20 n && Nat.ble n 25) && Nat.ble (xcs as) mL
  | _ => false
section XOK3
variable {own : String} {cc : ByteArray} {mL : Nat} {R : Room} {pc nx tg : Nat}
theorem xcall_inv {ok : List xV → Bool} {w : xZ} {n : Nat} {f : xF} {K : xK} {Rt : xR} (h : (xcall ok w n nx).1 f K Rt) : ∃ ls0 as rest M, f = (ls0, as.reverse ++ rest, M) ∧ as.length = n ∧ ok as = true ∧ xcs rest ≤ 8 ∧ w.1 as M (fun v M' => K nx (ls0, v.toList ++ rest, M')) := by
  obtain ⟨ls0, st, M⟩ := f
  have h : (match xpop n st [] with
    | some (as, rest) => (ok as && Nat.ble (xcs rest) 8) = true ∧ w.1 as M (fun v M' => K nx (ls0, v.toList ++ rest, M'))
    | none => False) := h
  cases hp : xpop n st [] with
  | none => rw [hp] at h; exact h.elim
  | some q =>
    obtain ⟨as, rest⟩ := q
    rw [hp] at h
    obtain ⟨bs, h1, h2, h3⟩ := xpop_spec n st [] as rest hp
    rw [List.append_nil] at h1
    subst h1
    have hb := Bool.and_eq_true_iff.mp h.1
    exact ⟨ls0, as, rest, M, by rw [h2], h3, hb.1, Nat.le_of_ble_eq_true hb.2, h.2⟩
theorem xgood {y : MethodName} {bytes : ByteArray} {maxL : Nat} {ret : Option FieldType} (h : Cond.code y bytes maxL ret ∈ xAL) : GoodIn xAL (Cond.code y bytes maxL ret :: xAL) := fun w hw => by
  rcases List.mem_cons.mp hw with rfl | hw
  · exact xAL_good _ h
  · exact xAL_good _ hw
def xDs (y : MethodName) (n : Nat) : Prop := y.cls ≠ "java/lang/invoke/MethodHandle" ∧ y.cls ≠ "java/lang/invoke/VarHandle" ∧ (parseMethodDescriptor y.desc).map (fun d => d.parameters.length) = some n
theorem ok_callS {y : MethodName} {bytes : ByteArray} {maxL : Nat} {ret : Option FieldType} {rm : Room} {w : xZ} {ix n : Nat} (hM : xSnd y bytes maxL ret rm w) (hrm : rm.cells = 0 ∧ rm.slots = 0) (hR : rm.frames + 1 ≤ R.frames ∧ 8 + (maxL + 11) + rm.locals ≤ R.locals) (hds : xDs y n)
    (w1 : Cond.methodLink own ix y ∈ xAL) (w2 : Cond.static y ∈ xAL) (w3 : Cond.initialized y.cls ∈ xAL) (w4 : Cond.code y bytes maxL ret ∈ xAL) (hd : decode cc pc = .ok (.invokestatic ix, 3)) (hn : pc + 3 = nx) : xOk own cc mL R pc (xcall (xoS maxL) w n nx) := by
  subst hn
  intro p l e s m args below meth c cells slots Q D cA ad Rt hC f hi
  obtain ⟨ls0, as, rest, M, rfl, hlen, hok, h8, hw⟩ := xcall_inv hi
  intro H locs ls hP hS hL
  have hts := hC.2.2.2.2.1
  have hM2 := hM l D cA ad as M _ (Nat.le_of_ble_eq_true hok) hw
  have hcb : CallB R s args own ix y bytes maxL ret (Cond.code y bytes maxL ret :: xAL) rm 0 0 n := callB_of n hts (xgood w4) rfl hrm.1 hrm.2 (hts _ w3) (hts _ w1) hds hR
  refine xrun_W (a := ((as.map (xtv ad))).toArray) (rest := rest) (va_runS (As := as.map (xtv ad)) ⟨hC.1, hC.2.1, hC.2.2.1, hC.2.2.2.1, hts⟩ hM2 ⟨hcb, hts _ w2⟩ ⟨xPre_blind, fun U hU hW => ⟨rfl, by rw [hU]; exact hP, xSx_warm hW (by rw [hU]; exact hS) hC.2.2.2.2.2.1⟩⟩ rfl (by rw [List.length_map]; exact hlen) hL.2.1 (by show (as.reverse ++ rest).map (xtv ad) = _; rw [List.map_append, List.map_reverse]) (lv_room (by rw [xcs_sum]; exact h8)) hd ⟨hC.2.2.2.2.2.2.1, hC.2.2.2.2.2.2.2⟩) hS hL (fun v M' h => h)
theorem ok_callV {ci : Nat} {C : String} {T : u_T} {N : Nat} {y : MethodName} {bytes : ByteArray} {maxL : Nat} {ret : Option FieldType} {rm : Room} {w : xZ} {ix n : Nat} (hcl : vwCl[ci]? = some (C, T, N)) (hM : xSnd y bytes maxL ret rm w) (hrm : rm.cells = 0 ∧ rm.slots = 0) (hR : rm.frames + 1 ≤ R.frames ∧ 8 + (maxL + 11) + rm.locals ≤ R.locals) (hds : xDs y n) 
    (w1 : Cond.methodLink own ix y ∈ xAL) (w2 : Cond.instanceMethod y ∈ xAL) (w5 : Cond.selects C y y ∈ xAL) (w3 : Cond.initialized y.cls ∈ xAL) (w4 : Cond.code y bytes maxL ret ∈ xAL) (hd : decode cc pc = .ok (.invokevirtual ix, 3)) (hn : pc + 3 = nx) : xOk own cc mL R pc (xcall (xoV ci maxL) w (n + 1) nx) := by
  subst hn
  intro p l e s m args below meth c cells slots Q D cA ad Rt hC f hi
  obtain ⟨ls0, as, rest, M, rfl, hlen, hok, h8, hw⟩ := xcall_inv hi
  intro H locs ls hP hS hL
  have hts := hC.2.2.2.2.1
  match as, hlen, hok, hw with
  | .inr (.inr o) :: as, hlen, hok, hw =>
    have hb := Bool.and_eq_true_iff.mp hok
    have hci := Nat.eq_of_beq_eq_true hb.1
    have h4 : ci < 4 := (List.getElem?_eq_some_iff.mp hcl).1
    have hM2 := hM l D cA ad _ M _ (Nat.le_of_ble_eq_true hb.2) hw
    have hcb : CallB R s args own ix y bytes maxL ret (Cond.code y bytes maxL ret :: xAL) rm 0 0 n := callB_of n hts (xgood w4) rfl hrm.1 hrm.2 (hts _ w3) (hts _ w1) hds hR
    refine xrun_W (a := (Value.ref (ad o) :: as.map (xtv ad)).toArray) (rest := rest) (va_runV (b := ad o) (C := C) (As := as.map (xtv ad)) ⟨hC.1, hC.2.1, hC.2.2.1, hC.2.2.2.1, hts⟩ hM2 ⟨hcb, hts _ w2, hts _ w5⟩ ⟨xPre_blind, va_recv hC.2.2.2.2.2.1.1 hP hcl (xwd_ob hci h4), fun U hU hW => ⟨rfl, by rw [hU]; exact hP, xSx_warm hW (by rw [hU]; exact hS) hC.2.2.2.2.2.1⟩⟩ rfl (by rw [List.length_map]; exact Nat.succ.inj hlen) hL.2.1 (by show ((.inr (.inr o) :: as).reverse ++ rest).map (xtv ad) = _; rw [List.reverse_cons, List.append_assoc, List.map_append, List.map_reverse]; rfl) (lv_room (by rw [xcs_sum]; exact h8)) hd ⟨hC.2.2.2.2.2.2.1, hC.2.2.2.2.2.2.2⟩) hS hL (fun v M' h => h)
  | [], _, hok, _ => cases hok
  | .inl _ :: _, _, hok, _ => cases hok
  | .inr (.inl _) :: _, _, hok, _ => cases hok
theorem ok_callT {y : MethodName} {bytes : ByteArray} {maxL : Nat} {ret : Option FieldType} {rm : Room} {w : xZ} {ix n : Nat} (hM : xSnd y bytes maxL ret rm w) (hrm : rm.cells = 0 ∧ rm.slots = 0) (hR : rm.frames + 1 ≤ R.frames ∧ 8 + (maxL + 11) + rm.locals ≤ R.locals) (hds : xDs y n) 
    (w1 : Cond.methodLink own ix y ∈ xAL) (w2 : Cond.instanceMethod y ∈ xAL) (w5 : Cond.selects "java/lang/String" y y ∈ xAL) (w3 : Cond.initialized y.cls ∈ xAL) (w4 : Cond.code y bytes maxL ret ∈ xAL) (hd : decode cc pc = .ok (.invokevirtual ix, 3)) (hn : pc + 3 = nx) : xOk own cc mL R pc (xcall (xoT maxL) w (n + 1) nx) := by
  subst hn
  intro p l e s m args below meth c cells slots Q D cA ad Rt hC f hi
  obtain ⟨ls0, as, rest, M, rfl, hlen, hok, h8, hw⟩ := xcall_inv hi
  intro H locs ls hP hS hL
  have hts := hC.2.2.2.2.1
  match as, hlen, hok, hw with
  | .inr (.inr (.inr (.inr (.inr k)))) :: as, hlen, hok, hw =>
    have hb := Bool.and_eq_true_iff.mp hok
    have hb2 := Bool.and_eq_true_iff.mp hb.1
    have k1 := Nat.le_of_ble_eq_true hb2.1
    have k2 := Nat.le_of_ble_eq_true hb2.2
    obtain ⟨i, rfl⟩ : ∃ i, k = 20 + i := ⟨k - 20, by omega⟩
    have hM2 := hM l D cA ad _ M _ (Nat.le_of_ble_eq_true hb.2) hw
    have hcb : CallB R s args own ix y bytes maxL ret (Cond.code y bytes maxL ret :: xAL) rm 0 0 n := callB_of n hts (xgood w4) rfl hrm.1 hrm.2 (hts _ w3) (hts _ w1) hds hR
    refine xrun_W (a := (Value.ref (ad (xN (20 + i))) :: as.map (xtv ad)).toArray) (rest := rest) (va_runV (b := ad (xN (20 + i))) (C := "java/lang/String") (As := as.map (xtv ad)) ⟨hC.1, hC.2.1, hC.2.2.1, hC.2.2.2.1, hts⟩ hM2 ⟨hcb, hts _ w2, hts _ w5⟩ ⟨xPre_blind, vk_recv (adK := fun i => ad (xN (20 + i))) (i := i) hC.2.2.2.2.2.1.2.2.2.2.1 (by omega) hS, fun U hU hW => ⟨rfl, by rw [hU]; exact hP, xSx_warm hW (by rw [hU]; exact hS) hC.2.2.2.2.2.1⟩⟩ rfl (by rw [List.length_map]; exact Nat.succ.inj hlen) hL.2.1 (by show ((.inr (.inr (xN (20 + i))) :: as).reverse ++ rest).map (xtv ad) = _; rw [List.reverse_cons, List.append_assoc, List.map_append, List.map_reverse]; rfl) (lv_room (by rw [xcs_sum]; exact h8)) hd ⟨hC.2.2.2.2.2.2.1, hC.2.2.2.2.2.2.2⟩) hS hL (fun v M' h => h)
  | [], _, hok, _ => cases hok
  | .inl _ :: _, _, hok, _ => cases hok
  | .inr (.inl _) :: _, _, hok, _ => cases hok
  | .inr (.inr (.inl _)) :: _, _, hok, _ => cases hok
  | .inr (.inr (.inr (.inl _))) :: _, _, hok, _ => cases hok
  | .inr (.inr (.inr (.inr (.inl _)))) :: _, _, hok, _ => cases hok
/-! switches -/
theorem xsw_at {a : Int32} {d : Nat} {k : Nat → Prop} : ∀ {r : List (Int32 × Nat)}, xsw a d k r → k (((r.find? (fun q => q.1 == a)).map (fun q => q.2)).getD d)
  | [], h => h
  | (c, t) :: r, h => by
    by_cases hc : a = c
    · subst hc
      simpa using h.1 rfl
    · have := xsw_at (h.2 hc)
      have hf : ((c, t).1 == a) = false := by
        rw [beq_eq_false_iff_ne]
        exact fun q => hc q.symm
      rw [List.find?_cons_of_neg (by rw [hf]; decide)]
      exact this
theorem xswi_inv {d : Nat} {r : List (Int32 × Nat)} {f : xF} {K : xK} {Rt : xR} (h : (xswi d r).1 f K Rt) : ∃ ls0 a st M, f = (ls0, .inl a :: st, M) ∧ K (((r.find? (fun q => q.1 == a)).map (fun q => q.2)).getD d) (ls0, st, M) := by
  obtain ⟨ls0, st, M⟩ := f
  match st, h with
  | .inl a :: st, h => exact ⟨ls0, a, st, M, rfl, xsw_at (k := fun n => K n (ls0, st, M)) h⟩
  | [], h => exact h.elim
  | .inr _ :: _, h => exact h.elim
/-- a tableswitch: its cases lo, lo + 1 .. and where each goes -/
theorem ok_tsw {dflt lo hi : Int} {offs : Array Int} {len d : Nat} {r : List (Int32 × Nat)} (hd : decode cc pc = .ok (.tableswitch dflt lo hi offs, len)) (h0 : (pc : Int) + dflt = (d : Int))
    (hin : ∀ q ∈ r, ¬ q.1.toInt < lo ∧ ¬ hi < q.1.toInt ∧ ∃ off, offs[(q.1.toInt - lo).toNat]? = some off ∧ (pc : Int) + off = (q.2 : Int)) (hall : ∀ k : Nat, k < (hi - lo + 1).toNat → ∃ q ∈ r, q.1.toInt = lo + k) : xOk own cc mL R pc (xswi d r) := by
  intro p l e s m args below meth c cells slots Q D cA ad Rt hC f hi0
  obtain ⟨ls0, a, st, M, rfl, hk⟩ := xswi_inv hi0
  intro H locs ls hP hS hL
  cases hf : r.find? (fun q => q.1 == a) with
  | some q =>
    rw [hf] at hk
    have hq := List.find?_some hf
    have hqa : q.1 = a := by simpa using hq
    obtain ⟨h1, h2, off, h3, h4⟩ := hin q (List.mem_of_find?_eq_some hf)
    rw [hqa] at h1 h2 h3
    exact lv_tableIn hC.1 hC.2.1 hd h1 h2 h3 h4 (hk H locs ls hP hS hL)
  | none =>
    rw [hf] at hk
    have hn := List.find?_eq_none.mp hf
    refine lv_tableOut hC.1 hC.2.1 hd ?_ h0 (hk H locs ls hP hS hL)
    by_cases h1 : a.toInt < lo
    · exact Or.inl h1
    · by_cases h2 : hi < a.toInt
      · exact Or.inr h2
      · exfalso
        obtain ⟨q, hq, he⟩ := hall (a.toInt - lo).toNat (by omega)
        have he : q.1.toInt = a.toInt := by rw [he]; omega
        exact hn q hq (by simpa using Int32.toInt_inj.mp he)
theorem xlk_off : ∀ (r : List (Int32 × Nat)) (pc d : Nat) (dflt : Int) (a : Int32), (pc : Int) + dflt = (d : Int) → (pc : Int) + Op.lookupswitch.offset (r.map fun q => (q.1.toInt, (q.2 : Int) - pc)) dflt a.toInt = ((((r.find? (fun q => q.1 == a)).map (fun q => q.2)).getD d : Nat) : Int)
  | [], pc, d, dflt, a, h => h
  | (c, t) :: r, pc, d, dflt, a, h => by
    rw [List.map_cons, Op.lookupswitch.offset_cons]
    by_cases hc : a = c
    · subst hc
      rw [if_pos rfl]
      simp
      omega
    · rw [if_neg (fun q => hc (Int32.toInt_inj.mp q.symm)), xlk_off r pc d dflt a h]
      have hf : ((c, t).1 == a) = false := by
        rw [beq_eq_false_iff_ne]
        exact fun q => hc q.symm
      rw [List.find?_cons_of_neg (by rw [hf]; decide)]
theorem ok_lsw {dflt : Int} {ps : Array (Int × Int)} {len d : Nat} {r : List (Int32 × Nat)} (hd : decode cc pc = .ok (.lookupswitch dflt ps, len)) (h0 : (pc : Int) + dflt = (d : Int)) (hs : (ps.toList.zip (ps.toList.drop 1)).all (fun (a, next) => a.1 < next.1) = true) (hr : ps.toList = r.map fun q => (q.1.toInt, (q.2 : Int) - pc)) : xOk own cc mL R pc (xswi d r) := by
  intro p l e s m args below meth c cells slots Q D cA ad Rt hC f hi0
  obtain ⟨ls0, a, st, M, rfl, hk⟩ := xswi_inv hi0
  intro H locs ls hP hS hL
  exact lv_lookup hC.1 hC.2.1 hd hs rfl (by rw [hr]; exact xlk_off r pc d dflt a h0) (hk H locs ls hP hS hL)
/-! a method: its instructions, its ends -/
def xOkM (own : String) (cc : ByteArray) (mL : Nat) (ret : Option FieldType) (R : Room) (pc : Nat) (i : xI) : Prop :=
  ∀ (p : Program) (l : Launch) (e : Env) (s : State) (m : MethodId) (args : Array Value) (below : List Frame) (meth : Method) (c : Code) (D : va_G) (cA : ClassId) (ad : xOb → Nat) (Rt : xR),
    xCx p s m args c own cc mL R 0 0 D cA ad → meth.sig.returnType = ret → meth.locks = false → ∀ f : xF, i.1 f (xPW p l e R s m args below meth c 0 0 (MQ below (xPost D cA ad Rt) args s 0 0 (xAd ad)) D cA ad mL) Rt → xPW p l e R s m args below meth c 0 0 (MQ below (xPost D cA ad Rt) args s 0 0 (xAd ad)) D cA ad mL pc f
theorem xOk.m {ret : Option FieldType} {i : xI} (h : xOk own cc mL R pc i) : xOkM own cc mL ret R pc i := fun p l e s m args below meth c D cA ad Rt hC _ _ f hi => h p l e s m args below meth c 0 0 _ D cA ad Rt hC f hi
theorem ok_st {ret : Option FieldType} : xOkM own cc mL ret R pc xst := fun _ _ _ _ _ _ _ _ _ _ _ _ _ _ _ _ _ hi => hi.elim
theorem ok_iret (hd : decode cc pc = .ok (.ireturn, 1)) : xOkM own cc mL (some .int) R pc x_iret := by
  intro p l e s m args below meth c D cA ad Rt hC hr hlk f hi
  obtain ⟨cd, v, M, hg, hcd, hk⟩ := xre_inv hi
  (try dsimp only at hg)
  split at hg <;> cases hg
  exact fun H locs ls hP hS hL => W.iret hC.1 hC.2.1 hr (fun t ht hW => ⟨⟨_, _, rfl, hk, by rw [ht]; exact hP⟩, hS.F ht⟩) hS.2.2 hd
theorem ok_zret (hd : decode cc pc = .ok (.ireturn, 1)) : xOkM own cc mL (some .boolean) R pc x_zret := by
  intro p l e s m args below meth c D cA ad Rt hC hr hlk f hi
  obtain ⟨cd, v, M, hg, hcd, hk⟩ := xre_inv hi
  (try dsimp only at hg)
  split at hg <;> cases hg
  exact fun H locs ls hP hS hL => W.zret hC.1 hC.2.1 hr (by rcases hcd with rfl | rfl <;> rfl) (fun t ht hW => ⟨⟨_, _, rfl, hk, by rw [ht]; exact hP⟩, hS.F ht⟩) hS.2.2 hd
theorem ok_lret (hd : decode cc pc = .ok (.lreturn, 1)) : xOkM own cc mL (some .long) R pc x_lret := by
  intro p l e s m args below meth c D cA ad Rt hC hr hlk f hi
  obtain ⟨cd, v, M, hg, hcd, hk⟩ := xre_inv hi
  (try dsimp only at hg)
  split at hg <;> cases hg
  exact fun H locs ls hP hS hL => W.lret hC.1 hC.2.1 hr (fun t ht hW => ⟨⟨_, _, rfl, hk, by rw [ht]; exact hP⟩, hS.F ht⟩) hS.2.2 hd
theorem ok_aret {nm : String} (hd : decode cc pc = .ok (.areturn, 1)) : xOkM own cc mL (some (.object nm)) R pc x_aret := by
  intro p l e s m args below meth c D cA ad Rt hC hr hlk f hi
  obtain ⟨cd, v, M, hg, hcd, hk⟩ := xre_inv hi
  (try dsimp only at hg)
  split at hg <;> cases hg
  exact fun H locs ls hP hS hL => W.aret hC.1 hC.2.1 hr (Or.inl ⟨nm, rfl⟩) (Or.inr ⟨_, rfl⟩) (fun t ht hW => ⟨⟨_, _, rfl, hk, by rw [ht]; exact hP⟩, hS.F ht⟩) hS.2.2 hd
theorem ok_vret (hd : decode cc pc = .ok (.return_, 1)) : xOkM own cc mL none R pc x_vret := by
  intro p l e s m args below meth c D cA ad Rt hC hr hlk f hi
  obtain ⟨cd, v, M, hg, hcd, hk⟩ := xre_inv hi
  (try dsimp only at hg)
  split at hg <;> cases hg
  exact fun H locs ls hP hS hL => W.vret hC.1 hC.2.1 hr (fun t ht hW => ⟨⟨_, _, rfl, hk, by rw [ht]; exact hP⟩, hS.F ht⟩) hS.2.2 hd
theorem xlg_len (ad : xOb → Nat) : ∀ as : List xV, (lg_sl (as.map (xtv ad))).length = xcs as
  | [] => rfl
  | .inl a :: r => by
    have := xlg_len ad r
    show (lg_sl (.int a :: r.map (xtv ad))).length = 1 + xcs r
    rw [← this]
    simp [lg_sl, Value.category]
    omega
  | .inr (.inl a) :: r => by
    have := xlg_len ad r
    show (lg_sl (.long a :: r.map (xtv ad))).length = 2 + xcs r
    rw [← this]
    simp [lg_sl, Value.category]
    omega
  | .inr (.inr a) :: r => by
    have := xlg_len ad r
    show (lg_sl (.ref (ad a) :: r.map (xtv ad))).length = 1 + xcs r
    rw [← this]
    simp [lg_sl, Value.category]
    omega
theorem xent_len : ∀ (n : Nat) (as : List xV), (xent n as).length = n
  | 0, _ => by simp [xent]
  | n + 1, [] => by simp [xent, xent_len n []]
  | 1, .inr (.inl a) :: r => by simp [xent]
  | n + 2, .inr (.inl a) :: r => by simp [xent, xent_len n r]
  | n + 1, .inl a :: r => by simp [xent, xent_len n r]
  | n + 1, .inr (.inr a) :: r => by simp [xent, xent_len n r]
theorem xent_nil (ad : xOb → Nat) : ∀ (n k : Nat), xas ad k (xent n []) = []
  | 0, _ => by simp [xent, xas]
  | n + 1, k => by simp [xent, xas, xent_nil ad n (k + 1)]
theorem xent_as (ad : xOb → Nat) : ∀ (n k : Nat) (as : List xV), xcs as ≤ n → ∀ q ∈ xas ad k (xent n as), q ∈ lv_args k (as.map (xtv ad))
  | n, k, [], _, q, hq => by rw [xent_nil] at hq; cases hq
  | 0, k, v :: r, h, q, hq => by simp [xent, xas] at hq
  | 1, k, .inr (.inl a) :: r, h, q, hq => by
    have : xcs (.inr (.inl a) :: r) = 2 + xcs r := rfl
    omega
  | n + 2, k, .inr (.inl a) :: r, h, q, hq => by
    have h1 : xcs (.inr (.inl a) :: r) = 2 + xcs r := rfl
    rw [show xent (n + 2) (.inr (.inl a) :: r) = some (.inr (.inl a)) :: none :: xent n r by simp [xent]] at hq
    rcases List.mem_cons.mp hq with rfl | hq
    · exact List.mem_cons_self
    · have := xent_as ad n (k + 2) r (by omega) q hq
      exact List.mem_cons_of_mem _ this
  | n + 1, k, .inl a :: r, h, q, hq => by
    have h1 : xcs (.inl a :: r) = 1 + xcs r := rfl
    rw [show xent (n + 1) (.inl a :: r) = some (.inl a) :: xent n r by simp [xent]] at hq
    rcases List.mem_cons.mp hq with rfl | hq
    · exact List.mem_cons_self
    · have := xent_as ad n (k + 1) r (by omega) q hq
      exact List.mem_cons_of_mem _ this
  | n + 1, k, .inr (.inr a) :: r, h, q, hq => by
    have h1 : xcs (.inr (.inr a) :: r) = 1 + xcs r := rfl
    rw [show xent (n + 1) (.inr (.inr a) :: r) = some (.inr (.inr a)) :: xent n r by simp [xent]] at hq
    rcases List.mem_cons.mp hq with rfl | hq
    · exact List.mem_cons_self
    · have := xent_as ad n (k + 1) r (by omega) q hq
      exact List.mem_cons_of_mem _ this
/-- a method whose instructions are as the small machine has them means what the small machine says -/
theorem xsnd {y : MethodName} {pg : Nat → xI} {ret : Option FieldType} (hy : plainName y.cls = true) (hok : ∀ pc, xOkM y.cls cc mL ret R pc (pg pc)) : xSnd y cc mL ret R (xmet pg mL) := by
  intro l D cA ad as M Rt hcs hw
  refine Met.ofW (cc := cc) (maxL := mL) (ret := ret) hy rfl ?_
  intro p e s m args below meth c s₁ B hml hv
  obtain ⟨rfl, hP, hSx⟩ := hv
  have hts := atoms_spec (ws := Cond.code y cc mL ret :: xAL) B.pre
  have hC : xCx p s m ((as.map (xtv ad)).toArray) c y.cls cc mL R 0 0 D cA ad := ⟨B.exec, B.bytes, hml, findClass_of_methodNamed B.named, fun w h => hts w (List.mem_cons_of_mem _ h), hSx, Nat.zero_le _, Nat.zero_le _⟩
  have hlocks := B.notSynchronized
  have h0 : xPW p l e R s m ((as.map (xtv ad)).toArray) below meth c 0 0 (MQ below (xPost D cA ad Rt) ((as.map (xtv ad)).toArray) s 0 0 (xAd ad)) D cA ad mL 0 (xent mL as, [], M) := hw _ (fun pc f hi => hok pc p l e s m _ below meth c D cA ad Rt hC B.returns hlocks f hi)
  have hle : (lg_sl (as.map (xtv ad))).length ≤ mL := by rw [xlg_len]; exact hcs
  have hl := lv_entry (as.map (xtv ad)) (n := mL) hle
  rw [lg_entry_eq]
  exact h0 s.heap [] _ hP va_S.rf ⟨xent_len mL as, hl.1, hl.2.1, fun q hq => hl.2.2 q (xent_as ad mL 0 as hcs q hq)⟩
/-- programs are trees of places -/
theorem ok_lf {ret : Option FieldType} {k : Nat} {i : xI} (h : xOkM own cc mL ret R k i) : ∀ pc, xOkM own cc mL ret R pc (cond (Nat.beq pc k) i xst) := fun pc => by
  cases hb : Nat.beq pc k with
  | false => exact ok_st
  | true =>
    have := Nat.eq_of_beq_eq_true hb
    subst this
    exact h
theorem ok_nd {ret : Option FieldType} {k : Nat} {a b : Nat → xI} (h1 : ∀ pc, xOkM own cc mL ret R pc (a pc)) (h2 : ∀ pc, xOkM own cc mL ret R pc (b pc)) : ∀ pc, xOkM own cc mL ret R pc (cond (Nat.ble pc k) (a pc) (b pc)) := fun pc => by
  cases Nat.ble pc k with
  | false => exact h2 pc
  | true => exact h1 pc
end XOK3
