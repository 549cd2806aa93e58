/-! ===== a small machine over the system's cells: its values, its memory, its instructions; what it comes to, the JVM comes to ===== -/
abbrev xOb : Type := Fin 3 ⊕ ((Fin 5 × Fin 3) ⊕ (Fin 4 ⊕ Nat))
abbrev xV : Type := Int32 ⊕ (Int64 ⊕ xOb)
abbrev xM : Type := xOb → Nat → Int32
abbrev xF : Type := List (Option xV) × (List xV × xM)
abbrev xK : Type := Nat → xF → Prop
abbrev xR : Type := Option xV → xM → Prop
abbrev xi (a : Int32) : xV := .inl a
abbrev xl (a : Int64) : xV := .inr (.inl a)
abbrev xo (o : xOb) : xV := .inr (.inr o)
/-- a hill; a row of a hill; a row of the model; what there is once -/
abbrev xH (i : Fin 3) : xOb := .inl i
abbrev xA (k : Fin 5) (i : Fin 3) : xOb := .inr (.inl (k, i))
abbrev xW (r : Fin 4) : xOb := .inr (.inr (.inl r))
abbrev xN (n : Nat) : xOb := .inr (.inr (.inr n))
/-- an instruction: what must hold so that it goes on as K says, or ends as R says; larger K, R: larger -/
def xI : Type := { i : xF → xK → xR → Prop // ∀ (f : xF) (K K' : xK) (R R' : xR), (∀ a b, K a b → K' a b) → (∀ a b, R a b → R' a b) → i f K R → i f K' R' }
/-- a method's own meaning -/
def xZ : Type := { w : List xV → xM → xR → Prop // ∀ (a : List xV) (M : xM) (R R' : xR), (∀ a b, R a b → R' a b) → w a M R → w a M R' }
def xWP (pg : Nat → xI) (pc : Nat) (f : xF) (R : xR) : Prop := ∀ P : xK, (∀ pc f, (pg pc).1 f P R → P pc f) → P pc f
theorem xmk {pg : Nat → xI} {pc : Nat} {f : xF} {R : xR} (h : (pg pc).1 f (fun a b => xWP pg a b R) R) : xWP pg pc f R :=
  fun P hP => hP pc f ((pg pc).2 _ _ _ _ _ (fun _ _ hw => hw P hP) (fun _ _ h => h) h)
theorem xWP_mono {pg : Nat → xI} {pc : Nat} {f : xF} {R R' : xR} (hR : ∀ a b, R a b → R' a b) (h : xWP pg pc f R) : xWP pg pc f R' :=
  fun P hP => h P (fun pc f hi => hP pc f ((pg pc).2 _ _ _ _ _ (fun _ _ h => h) hR hi))
/-- k instructions at once; it stays at the places S -/
def xit (S : List Nat) (pg : Nat → xI) (R : xR) : Nat → Nat → xF → Prop
  | 0, pc, f => xWP pg pc f R
  | k + 1, pc, f => (pg pc).1 f (fun a b => cond (S.contains a) (xWP pg a b R) (xit S pg R k a b)) R
theorem xgo {pg : Nat → xI} {R : xR} (S : List Nat) : ∀ (k : Nat) {pc : Nat} {f : xF}, xit S pg R k pc f → xWP pg pc f R
  | 0, _, _, h => h
  | k + 1, pc, f, h => xmk ((pg pc).2 _ _ _ _ _ (fun a b hw => by
      cases hS : S.contains a with
      | true => rw [hS] at hw; exact hw
      | false => rw [hS] at hw; exact xgo S k hw) (fun _ _ h => h) h)
/-! the forms of instructions -/
def xdet (g : xF → Option (Nat × xF)) : xI := ⟨fun f K _ => match g f with
  | some (n, f') => K n f'
  | none => False, fun f K K' R R' hK _ h => by
    dsimp only at h ⊢
    revert h
    cases g f with
    | none => exact fun h => h
    | some q => exact fun h => hK _ _ h⟩
def xdec (g : xF → Option (Prop × (Nat × xF))) : xI := ⟨fun f K _ => match g f with
  | some (c, n, f') => c ∧ K n f'
  | none => False, fun f K K' R R' hK _ h => by
    dsimp only at h ⊢
    revert h
    cases g f with
    | none => exact fun h => h
    | some q => exact fun h => ⟨h.1, hK _ _ h.2⟩⟩
def xbr (g : xF → Option (Prop × (Nat × (Nat × xF)))) : xI := ⟨fun f K _ => match g f with
  | some (c, t, n, f') => (c → K t f') ∧ (¬ c → K n f')
  | none => False, fun f K K' R R' hK _ h => by
    dsimp only at h ⊢
    revert h
    cases g f with
    | none => exact fun h => h
    | some q => exact fun h => ⟨fun c => hK _ _ (h.1 c), fun c => hK _ _ (h.2 c)⟩⟩
def xre (g : xF → Option (Prop × (Option xV × xM))) : xI := ⟨fun f _ R => match g f with
  | some (c, v, M) => c ∧ R v M
  | none => False, fun f K K' R R' _ hR h => by
    dsimp only at h ⊢
    revert h
    cases g f with
    | none => exact fun h => h
    | some q => exact fun h => ⟨h.1, hR _ _ h.2⟩⟩
def xsw (a : Int32) (d : Nat) (k : Nat → Prop) : List (Int32 × Nat) → Prop
  | [] => k d
  | (c, t) :: r => (a = c → k t) ∧ (¬ a = c → xsw a d k r)
theorem xsw_mono {a : Int32} {d : Nat} {k k' : Nat → Prop} (h : ∀ n, k n → k' n) : ∀ (r : List (Int32 × Nat)), xsw a d k r → xsw a d k' r
  | [], q => h _ q
  | (_, _) :: r, q => ⟨fun c => h _ (q.1 c), fun c => xsw_mono h r (q.2 c)⟩
def xswi (d : Nat) (r : List (Int32 × Nat)) : xI := ⟨fun f K _ => match f with
  | (ls, .inl a :: st, M) => xsw a d (fun n => K n (ls, st, M)) r
  | _ => False, fun f K K' R R' hK _ h => by
    obtain ⟨ls, st, M⟩ := f
    match st, h with
    | .inl a :: st, h => exact xsw_mono (fun n => hK _ _) r h
    | [], h => exact h
    | .inr _ :: _, h => exact h⟩
def xcat : xV → Nat
  | .inr (.inl _) => 2
  | _ => 1
def xcs : List xV → Nat
  | [] => 0
  | v :: r => xcat v + xcs r
def xpop : Nat → List xV → List xV → Option (List xV × List xV)
  | 0, st, acc => some (acc, st)
  | _ + 1, [], _ => none
  | n + 1, v :: st, acc => xpop n st (v :: acc)
/-- a call of a method that has the meaning w, with n values on the stack; 'ok' looks at the receiver -/
def xcall (ok : List xV → Bool) (w : xZ) (n nx : Nat) : xI := ⟨fun f K _ => match f with
  | (ls, st, M) => match xpop n st [] with
    | some (as, rest) => (ok as && Nat.ble (xcs rest) 8) = true ∧ w.1 as M (fun v M' => K nx (ls, v.toList ++ rest, M'))
    | none => False, fun f K K' R R' hK _ h => by
    obtain ⟨ls, st, M⟩ := f
    dsimp only at h ⊢
    revert h
    show (match xpop n st [] with
      | some (as, rest) => (ok as && Nat.ble (xcs rest) 8) = true ∧ w.1 as M (fun v M' => K nx (ls, v.toList ++ rest, M'))
      | none => False) → (match xpop n st [] with
      | some (as, rest) => (ok as && Nat.ble (xcs rest) 8) = true ∧ w.1 as M (fun v M' => K' nx (ls, v.toList ++ rest, M'))
      | none => False)
    cases xpop n st [] with
    | none => exact fun h => h
    | some q => exact fun h => ⟨h.1, w.2 _ _ _ _ (fun _ _ => hK _ _) h.2⟩⟩
def xst : xI := ⟨fun _ _ _ => False, fun _ _ _ _ _ _ _ h => h⟩
/-! locals -/
def xget : List (Option xV) → Nat → Option xV
  | [], _ => none
  | a :: _, 0 => a
  | _ :: l, n + 1 => xget l n
def xst1 : List (Option xV) → Nat → xV → List (Option xV)
  | [], _, _ => []
  | _ :: l, 0, v => some v :: l
  | some (.inr (.inl _)) :: l, 1, v => none :: xst1 l 0 v
  | a :: l, n + 1, v => a :: xst1 l n v
def xclr : List (Option xV) → List (Option xV)
  | [] => []
  | _ :: l => none :: l
def xst2 : List (Option xV) → Nat → xV → List (Option xV)
  | [], _, _ => []
  | _ :: l, 0, v => some v :: xclr l
  | some (.inr (.inl _)) :: l, 1, v => none :: xst2 l 0 v
  | a :: l, n + 1, v => a :: xst2 l n v
def xent : Nat → List xV → List (Option xV)
  | 0, _ => []
  | n + 1, [] => none :: xent n []
  | n + 2, .inr (.inl a) :: r => some (.inr (.inl a)) :: none :: xent n r
  | n + 1, v :: r => some v :: xent n r
def xmet (pg : Nat → xI) (mL : Nat) : xZ := ⟨fun as M R => xWP pg 0 (xent mL as, [], M) R, fun _ _ _ _ hR h => xWP_mono hR h⟩
def x_push (v : xV) (nx : Nat) : xI := xdet fun f => match f with
  | (ls, st, M) => some (nx, (ls, v :: st, M))
def x_ild (i nx : Nat) : xI := xdet fun f => match f with
  | (ls, st, M) => match xget ls i with
    | some (.inl a) => some (nx, ls, (.inl a) :: st, M)
    | _ => none
def x_lld (i nx : Nat) : xI := xdet fun f => match f with
  | (ls, st, M) => match xget ls i with
    | some (.inr (.inl a)) => some (nx, ls, (.inr (.inl a)) :: st, M)
    | _ => none
def x_ald (i nx : Nat) : xI := xdet fun f => match f with
  | (ls, st, M) => match xget ls i with
    | some (.inr (.inr a)) => some (nx, ls, (.inr (.inr a)) :: st, M)
    | _ => none
def x_ist (i nx : Nat) : xI := xdet fun f => match f with
  | (ls, (.inl a) :: st, M) => some (nx, xst1 ls i (.inl a), st, M)
  | _ => none
def x_lst (i nx : Nat) : xI := xdet fun f => match f with
  | (ls, (.inr (.inl a)) :: st, M) => some (nx, xst2 ls i (.inr (.inl a)), st, M)
  | _ => none
def x_ast (i nx : Nat) : xI := xdet fun f => match f with
  | (ls, (.inr (.inr a)) :: st, M) => some (nx, xst1 ls i (.inr (.inr a)), st, M)
  | _ => none
def x_iinc (i : Nat) (n : Int32) (nx : Nat) : xI := xdet fun f => match f with
  | (ls, st, M) => match xget ls i with
    | some (.inl a) => some (nx, xst1 ls i (.inl (a + n)), st, M)
    | _ => none
def x_iadd (nx : Nat) : xI := xdet fun f => match f with
  | (ls, .inl b :: .inl a :: st, M) => some (nx, (ls, .inl (a + b) :: st, M))
  | _ => none
def x_isub (nx : Nat) : xI := xdet fun f => match f with
  | (ls, .inl b :: .inl a :: st, M) => some (nx, (ls, .inl (a - b) :: st, M))
  | _ => none
def x_imul (nx : Nat) : xI := xdet fun f => match f with
  | (ls, .inl b :: .inl a :: st, M) => some (nx, (ls, .inl (a * b) :: st, M))
  | _ => none
def x_iand (nx : Nat) : xI := xdet fun f => match f with
  | (ls, .inl b :: .inl a :: st, M) => some (nx, (ls, .inl (a &&& b) :: st, M))
  | _ => none
def x_ior (nx : Nat) : xI := xdet fun f => match f with
  | (ls, .inl b :: .inl a :: st, M) => some (nx, (ls, .inl (a ||| b) :: st, M))
  | _ => none
def x_ixor (nx : Nat) : xI := xdet fun f => match f with
  | (ls, .inl b :: .inl a :: st, M) => some (nx, (ls, .inl (a ^^^ b) :: st, M))
  | _ => none
def x_ishl (nx : Nat) : xI := xdet fun f => match f with
  | (ls, .inl b :: .inl a :: st, M) => some (nx, (ls, .inl (a <<< (b &&& 31)) :: st, M))
  | _ => none
def x_ishr (nx : Nat) : xI := xdet fun f => match f with
  | (ls, .inl b :: .inl a :: st, M) => some (nx, (ls, .inl (a >>> (b &&& 31)) :: st, M))
  | _ => none
def x_iushr (nx : Nat) : xI := xdet fun f => match f with
  | (ls, .inl b :: .inl a :: st, M) => some (nx, (ls, .inl ((a.toUInt32 >>> (b.toUInt32 &&& Int32.toUInt32 31)).toInt32) :: st, M))
  | _ => none
def x_idiv (nx : Nat) : xI := xdec fun f => match f with
  | (ls, .inl b :: .inl a :: st, M) => some (¬ b = 0, nx, (ls, .inl (a / b) :: st, M))
  | _ => none
def x_irem (nx : Nat) : xI := xdec fun f => match f with
  | (ls, .inl b :: .inl a :: st, M) => some (¬ b = 0, nx, (ls, .inl (a - a / b * b) :: st, M))
  | _ => none
def x_ineg (nx : Nat) : xI := xdet fun f => match f with
  | (ls, .inl a :: st, M) => some (nx, (ls, .inl (-a) :: st, M))
  | _ => none
def x_ladd (nx : Nat) : xI := xdet fun f => match f with
  | (ls, .inr (.inl b) :: .inr (.inl a) :: st, M) => some (nx, (ls, .inr (.inl (a + b)) :: st, M))
  | _ => none
def x_lsub (nx : Nat) : xI := xdet fun f => match f with
  | (ls, .inr (.inl b) :: .inr (.inl a) :: st, M) => some (nx, (ls, .inr (.inl (a - b)) :: st, M))
  | _ => none
def x_lmul (nx : Nat) : xI := xdet fun f => match f with
  | (ls, .inr (.inl b) :: .inr (.inl a) :: st, M) => some (nx, (ls, .inr (.inl (a * b)) :: st, M))
  | _ => none
def x_ldiv (nx : Nat) : xI := xdec fun f => match f with
  | (ls, .inr (.inl b) :: .inr (.inl a) :: st, M) => some (¬ b = 0, nx, (ls, .inr (.inl (a / b)) :: st, M))
  | _ => none
def x_lrem (nx : Nat) : xI := xdec fun f => match f with
  | (ls, .inr (.inl b) :: .inr (.inl a) :: st, M) => some (¬ b = 0, nx, (ls, .inr (.inl (a - a / b * b)) :: st, M))
  | _ => none
def x_lcmp (nx : Nat) : xI := xdet fun f => match f with
  | (ls, .inr (.inl b) :: .inr (.inl a) :: st, M) => some (nx, (ls, .inl (lg_cmp a b) :: st, M))
  | _ => none
def x_i2l (nx : Nat) : xI := xdet fun f => match f with
  | (ls, .inl a :: st, M) => some (nx, (ls, .inr (.inl a.toInt64) :: st, M))
  | _ => none
def x_i2c (nx : Nat) : xI := xdet fun f => match f with
  | (ls, .inl a :: st, M) => some (nx, (ls, .inl (a.toUInt32 % 65536).toInt32 :: st, M))
  | _ => none
def x_dupi (nx : Nat) : xI := xdet fun f => match f with
  | (ls, .inl a :: st, M) => some (nx, (ls, .inl a :: .inl a :: st, M))
  | _ => none
def x_popi (nx : Nat) : xI := xdet fun f => match f with
  | (ls, .inl a :: st, M) => some (nx, (ls, st, M))
  | _ => none
def x_dupo (nx : Nat) : xI := xdet fun f => match f with
  | (ls, .inr (.inr a) :: st, M) => some (nx, (ls, .inr (.inr a) :: .inr (.inr a) :: st, M))
  | _ => none
def x_popo (nx : Nat) : xI := xdet fun f => match f with
  | (ls, .inr (.inr a) :: st, M) => some (nx, (ls, st, M))
  | _ => none
def x_dup2 (nx : Nat) : xI := xdet fun f => match f with
  | (ls, .inl b :: .inr (.inr a) :: st, M) => some (nx, (ls, .inl b :: .inr (.inr a) :: .inl b :: .inr (.inr a) :: st, M))
  | _ => none
def x_ifeq (tg nx : Nat) : xI := xbr fun f => match f with
  | (ls, .inl a :: st, M) => some (a = 0, tg, nx, ls, st, M)
  | _ => none
def x_iflt (tg nx : Nat) : xI := xbr fun f => match f with
  | (ls, .inl a :: st, M) => some (a < 0, tg, nx, ls, st, M)
  | _ => none
def x_ifge (tg nx : Nat) : xI := xbr fun f => match f with
  | (ls, .inl a :: st, M) => some (0 ≤ a, tg, nx, ls, st, M)
  | _ => none
def x_ifgt (tg nx : Nat) : xI := xbr fun f => match f with
  | (ls, .inl a :: st, M) => some (0 < a, tg, nx, ls, st, M)
  | _ => none
def x_ifle (tg nx : Nat) : xI := xbr fun f => match f with
  | (ls, .inl a :: st, M) => some (a ≤ 0, tg, nx, ls, st, M)
  | _ => none
def x_iceq (tg nx : Nat) : xI := xbr fun f => match f with
  | (ls, .inl b :: .inl a :: st, M) => some (a = b, tg, nx, ls, st, M)
  | _ => none
def x_iclt (tg nx : Nat) : xI := xbr fun f => match f with
  | (ls, .inl b :: .inl a :: st, M) => some (a < b, tg, nx, ls, st, M)
  | _ => none
def x_icge (tg nx : Nat) : xI := xbr fun f => match f with
  | (ls, .inl b :: .inl a :: st, M) => some (b ≤ a, tg, nx, ls, st, M)
  | _ => none
def x_icgt (tg nx : Nat) : xI := xbr fun f => match f with
  | (ls, .inl b :: .inl a :: st, M) => some (b < a, tg, nx, ls, st, M)
  | _ => none
def x_icle (tg nx : Nat) : xI := xbr fun f => match f with
  | (ls, .inl b :: .inl a :: st, M) => some (a ≤ b, tg, nx, ls, st, M)
  | _ => none
def x_ifne (tg nx : Nat) : xI := xbr fun f => match f with
  | (ls, .inl a :: st, M) => some (a = 0, nx, tg, ls, st, M)
  | _ => none
def x_icne (tg nx : Nat) : xI := xbr fun f => match f with
  | (ls, .inl b :: .inl a :: st, M) => some (a = b, nx, tg, ls, st, M)
  | _ => none
def x_goto (nx : Nat) : xI := xdet fun f => match f with
  | (ls, st, M) => some (nx, (ls, st, M))
def xal : xOb → Option Nat
  | .inl _ => none
  | .inr (.inl _) => some 6
  | .inr (.inr (.inl _)) => some 47
  | .inr (.inr (.inr n)) => match n with
    | 3 => some 96
    | 4 => some 16
    | 5 => some 7
    | 6 => some 96
    | 7 => some 16
    | 8 => some 7
    | 9 => some 3
    | _ => none
def xci : xOb → Nat
  | .inl _ => 0
  | .inr (.inl _) => 9
  | .inr (.inr (.inl _)) => 9
  | .inr (.inr (.inr n)) => match n with
    | 0 => 2
    | 1 => 1
    | 2 => 3
    | _ => 9
def xfl (o : xOb) (g : Nat → Int32) : List xV := match o with
  | .inl i => [xo (xA 0 i), xo (xA 1 i), xo (xA 2 i), xo (xA 3 i), xo (xA 4 i), xi (g 5), xi (g 6), xi (g 7), xi (g 8), xi (g 9), xi (g 10), xi (g 11)]
  | .inr (.inl _) => []
  | .inr (.inr (.inl _)) => []
  | .inr (.inr (.inr n)) => match n with
    | 0 => [xo (xH 0), xo (xH 1), xo (xH 2), xo (xN 1), xo (xN 4), xo (xN 5), xi (g 6), xi (g 7)]
    | 1 => [xo (xN 3), xi (g 1)]
    | 2 => [xo (xW 0), xo (xW 1), xo (xW 2), xo (xW 3), xi (g 4), xo (xN 6), xo (xN 7), xo (xN 8), xi (g 8), xi (g 9), xi (g 10), xo (xN 9), xi (g 12)]
    | _ => []
def xup (M : xM) (o : xOb) (k : Nat) (v : Int32) : xM := fun o' => if o' = o then upd (M o) k v else M o'
def xat (l : List xV) (k : Nat) : Option xV := match l, k with
  | [], _ => none
  | a :: _, 0 => some a
  | _ :: l, k + 1 => xat l k
def x_get (ci k nx : Nat) : xI := xdet fun f => match f with
  | (ls, .inr (.inr o) :: st, M) => cond (Nat.beq (xci o) ci) (match xat (xfl o (M o)) k with
    | some v => some (nx, ls, v :: st, M)
    | none => none) none
  | _ => none
def x_put (ci k nx : Nat) : xI := xdet fun f => match f with
  | (ls, .inl a :: .inr (.inr o) :: st, M) => cond (Nat.beq (xci o) ci) (some (nx, ls, st, xup M o k a)) none
  | _ => none
def x_putz (ci k nx : Nat) : xI := xdec fun f => match f with
  | (ls, .inl a :: .inr (.inr o) :: st, M) => cond (Nat.beq (xci o) ci) (some (a = 0 ∨ a = 1, nx, ls, st, xup M o k a)) none
  | _ => none
def x_iald (nx : Nat) : xI := xdec fun f => match f with
  | (ls, .inl a :: .inr (.inr o) :: st, M) => match xal o with
    | some n => some (vp_in a n, nx, ls, .inl (M o a.toNatClampNeg) :: st, M)
    | none => none
  | _ => none
def x_iast (nx : Nat) : xI := xdec fun f => match f with
  | (ls, .inl b :: .inl a :: .inr (.inr o) :: st, M) => match xal o with
    | some n => some (vp_in a n, nx, ls, st, xup M o a.toNatClampNeg b)
    | none => none
  | _ => none
def x_min (nx : Nat) : xI := xdet fun f => match f with
  | (ls, .inl b :: .inl a :: st, M) => cond (Nat.ble (xcs st) 8) (some (nx, ls, .inl (if b < a then b else a) :: st, M)) none
  | _ => none
def x_max (nx : Nat) : xI := xdet fun f => match f with
  | (ls, .inl b :: .inl a :: st, M) => cond (Nat.ble (xcs st) 8) (some (nx, ls, .inl (if a < b then b else a) :: st, M)) none
  | _ => none
def x_iret : xI := xre fun f => match f with
  | (_, [.inl a], M) => some (True, some (.inl a), M)
  | _ => none
def x_zret : xI := xre fun f => match f with
  | (_, [.inl a], M) => some (a = 0 ∨ a = 1, some (.inl a), M)
  | _ => none
def x_lret : xI := xre fun f => match f with
  | (_, [.inr (.inl a)], M) => some (True, some (.inr (.inl a)), M)
  | _ => none
def x_aret : xI := xre fun f => match f with
  | (_, [.inr (.inr a)], M) => some (True, some (.inr (.inr a)), M)
  | _ => none
def x_vret : xI := xre fun f => match f with
  | (_, [], M) => some (True, none, M)
  | _ => none
/-! the world of the machine's cells -/
def xobs : List xOb := [xN 0, xH 0, xA 0 0, xA 1 0, xA 2 0, xA 3 0, xA 4 0, xH 1, xA 0 1, xA 1 1, xA 2 1, xA 3 1, xA 4 1, xH 2, xA 0 2, xA 1 2, xA 2 2, xA 3 2, xA 4 2, xN 1, xN 3, xN 4, xN 5, xN 2, xW 0, xW 1, xW 2, xW 3, xN 6, xN 7, xN 8, xN 9]
def xix : xOb → Nat
  | .inl i => 1 + 6 * i.val
  | .inr (.inl (k, i)) => 2 + 6 * i.val + k.val
  | .inr (.inr (.inl r)) => 24 + r.val
  | .inr (.inr (.inr n)) => match n with
    | 0 => 0
    | 1 => 19
    | 2 => 23
    | 3 => 20
    | 4 => 21
    | 5 => 22
    | 6 => 28
    | 7 => 29
    | 8 => 30
    | 9 => 31
    | n => n + 22
theorem xobs_ix : ∀ j : Nat, j < 32 → (xobs[j]?).map xix = some j := by decide +kernel
theorem xobs_at : ∀ j : Nat, ∀ o, xobs[j]? = some o → xix o = j := by
  intro j o h
  have hj : j < 32 := (List.getElem?_eq_some_iff.mp h).1
  have h1 := xobs_ix j hj
  rw [h] at h1
  exact Option.some.inj h1
theorem xobs_H : ∀ i : Fin 3, xobs[xix (xH i)]? = some (xH i) := by decide +kernel
theorem xobs_A : ∀ (k : Fin 5) (i : Fin 3), xobs[xix (xA k i)]? = some (xA k i) := by decide +kernel
theorem xobs_W : ∀ r : Fin 4, xobs[xix (xW r)]? = some (xW r) := by decide +kernel
theorem xobs_N : ∀ n : Nat, n < 10 → xobs[xix (xN n)]? = some (xN n) := fun n h => match n, h with
  | 0, _ => rfl
  | 1, _ => rfl
  | 2, _ => rfl
  | 3, _ => rfl
  | 4, _ => rfl
  | 5, _ => rfl
  | 6, _ => rfl
  | 7, _ => rfl
  | 8, _ => rfl
  | 9, _ => rfl
  | k + 10, h => absurd h (by omega)
theorem xobs_ar : ∀ (o : xOb) (n : Nat), xal o = some n → xobs[xix o]? = some o
  | .inl _, _, h => by cases h
  | .inr (.inl (k, i)), _, _ => xobs_A k i
  | .inr (.inr (.inl r)), _, _ => xobs_W r
  | .inr (.inr (.inr q)), n, h => by
    by_cases hq : q < 10
    · exact xobs_N q hq
    · obtain ⟨q, rfl⟩ : ∃ k, q = k + 10 := ⟨q - 10, by omega⟩
      cases h
theorem xobs_cl : ∀ (o : xOb), xci o < 4 → xobs[xix o]? = some o
  | .inl i, _ => xobs_H i
  | .inr (.inl (k, i)), _ => xobs_A k i
  | .inr (.inr (.inl r)), _ => xobs_W r
  | .inr (.inr (.inr q)), h => by
    by_cases hq : q < 10
    · exact xobs_N q hq
    · obtain ⟨q, rfl⟩ : ∃ k, q = k + 10 := ⟨q - 10, by omega⟩
      exact absurd h (by show ¬ (9 < 4); omega)
theorem xal_cl : ∀ (o : xOb), xci o < 4 → xal o = none
  | .inl _, _ => rfl
  | .inr (.inl _), h => absurd h (by show ¬ (9 < 4); omega)
  | .inr (.inr (.inl _)), h => absurd h (by show ¬ (9 < 4); omega)
  | .inr (.inr (.inr 0)), _ => rfl
  | .inr (.inr (.inr 1)), _ => rfl
  | .inr (.inr (.inr 2)), _ => rfl
  | .inr (.inr (.inr (_ + 3))), h => absurd h (by show ¬ (9 < 4); omega)
def xtv (ad : xOb → Nat) : xV → Value
  | .inl a => .int a
  | .inr (.inl a) => .long a
  | .inr (.inr o) => .ref (ad o)
theorem xtv_cat (ad : xOb → Nat) : ∀ v : xV, (xtv ad v).category = xcat v
  | .inl _ => rfl
  | .inr (.inl _) => rfl
  | .inr (.inr _) => rfl
def xen (ad : xOb → Nat) (cA : ClassId) (o : xOb) (g : Nat → Int32) : va_E := match xal o with
  | some n => .inl (cA, n, .inl g)
  | none => .inr (xci o, (xfl o g).map (xtv ad))
def xwd (ad : xOb → Nat) (cA : ClassId) (M : xM) : va_W := xobs.map (fun o => (ad o, xen ad cA o (M o)))
theorem xwd_at {ad : xOb → Nat} {cA : ClassId} {M : xM} {o : xOb} (h : xobs[xix o]? = some o) : (xwd ad cA M)[xix o]? = some (ad o, xen ad cA o (M o)) := by
  unfold xwd
  rw [List.getElem?_map, h]
  rfl
theorem xwd_set {ad : xOb → Nat} {cA : ClassId} {M : xM} {o : xOb} (h : xobs[xix o]? = some o) (g : Nat → Int32) : (xwd ad cA M).set (xix o) (ad o, xen ad cA o g) = xwd ad cA (fun o' => if o' = o then g else M o') := by
  apply List.ext_getElem?
  intro j
  have hl : xix o < xobs.length := (List.getElem?_eq_some_iff.mp h).1
  by_cases hj : j = xix o
  · subst hj
    rw [List.getElem?_set_self (by unfold xwd; rw [List.length_map]; exact hl)]
    unfold xwd
    rw [List.getElem?_map, h]
    simp
  · rw [List.getElem?_set_ne (fun q => hj q.symm)]
    unfold xwd
    rw [List.getElem?_map, List.getElem?_map]
    cases hq : xobs[j]? with
    | none => rfl
    | some o' =>
      have hne : ¬ o' = o := fun q => hj (by rw [← xobs_at j o' hq, q])
      simp [hne]
def xAd (ad : xOb → Nat) : Nat → Prop := fun q => ∃ (j : Nat) (o : xOb), xobs[j]? = some o ∧ q = ad o
def xJ (ad : xOb → Nat) : Prop := ∀ (i j : Nat) (o o' : xOb), xobs[i]? = some o → xobs[j]? = some o' → ad o = ad o' → i = j
theorem xwd_D {ad : xOb → Nat} {cA : ClassId} {M : xM} (hJ : xJ ad) : va_D (xAd ad) (xwd ad cA M) := by
  have key : ∀ (k : Nat) (q : Nat × va_E), (xwd ad cA M)[k]? = some q → ∃ o, xobs[k]? = some o ∧ q.1 = ad o := by
    intro k q hk
    unfold xwd at hk
    rw [List.getElem?_map] at hk
    cases ho : xobs[k]? with
    | none => rw [ho] at hk; cases hk
    | some o => rw [ho] at hk; cases hk; exact ⟨o, rfl, rfl⟩
  refine ⟨fun i j a b hi hj hab => ?_, fun k q hk => ?_⟩
  · obtain ⟨o, h1, h2⟩ := key i a hi
    obtain ⟨o', h3, h4⟩ := key j b hj
    exact hJ i j o o' h1 h3 (by rw [← h2, ← h4]; exact hab)
  · obtain ⟨o, h1, h2⟩ := key k q hk
    exact ⟨k, o, h1, h2⟩
/-- the String constants, the statics that their methods read -/
def xlen : List Nat := [4, 3, 4, 2, 0, 6]
def xbyt : List (List Int32) := [[107, 100, 100, 59], [100, 100, 59], [100, 100, 100, 59], [100, 59], [], [112, 119, 115, 109, 116, 108]]
def xtx : List (Nat × String) := [(52, "kdd;"), (54, "dd;"), (56, "ddd;"), (58, "d;"), (60, ""), (65, "pwsmtl")]
def xStr (ad : xOb → Nat) (s : State) : Prop :=
  va_Z "java/lang/String" "COMPACT_STRINGS" "Z" (.int 1) (xAd ad) s s.heap ∧ va_Zq "jdk/internal/util/Preconditions" "SIOOBE_FORMATTER" "Ljava/util/function/BiFunction;" (xAd ad) s s.heap ∧
  vk_S 6 xlen xbyt (fun i => ad (xN (20 + i))) (fun i => ad (xN (40 + i))) (xAd ad) s s.heap ∧
  ∀ i q, xtx[i]? = some q → vk_R RX1 q.1 q.2 (ad (xN (20 + i))) s
def xSx (D : va_G) (cA : ClassId) (ad : xOb → Nat) (s : State) : Prop := va_K D vwCl [(cA, .int)] s ∧ xJ ad ∧ xStr ad s
theorem xSx_same {D : va_G} {cA : ClassId} {ad : xOb → Nat} {u U : State} (hv : U.vm = u.vm) (hh : U.heap = u.heap) (h : xSx D cA ad u) : xSx D cA ad U := by
  have ha : u.vm.Alike U.vm := by rw [hv]; exact Vm.Alike.refl u.vm
  obtain ⟨h1, h2, h3, h4, h5, h6⟩ := h
  exact ⟨va_K.moved ha h1, h2, by rw [hh]; exact h3.moved ha, by rw [hh]; exact h4.moved ha, by rw [hh]; exact h5.moved ha, fun i q hq => (h6 i q hq).same hv⟩
theorem xSx_warm {D : va_G} {cA : ClassId} {ad : xOb → Nat} {s U : State} {locs : List Loc} (hW : s.WarmedH U.vm) (hS : va_S (xAd ad) s.heap U.heap locs) (h : xSx D cA ad s) : xSx D cA ad U := by
  have ha := hW.alike
  obtain ⟨h1, h2, h3, h4, h5, h6⟩ := h
  exact ⟨va_K.moved ha h1, h2, (h3.kept hS.2.1).moved ha, (h4.kept hS.2.1).moved ha, (h5.kept hS.2.1).moved ha, fun i q hq => (h6 i q hq).warm hW⟩
def xPre (D : va_G) (cA : ClassId) (ad : xOb → Nat) (as : List xV) (M : xM) : Array Value → State → Prop := fun v U => v = (as.map (xtv ad)).toArray ∧ va_P D vwCl (xwd ad cA M) U.heap ∧ xSx D cA ad U
def xPost (D : va_G) (cA : ClassId) (ad : xOb → Nat) (Rt : xR) : Array Value → State → Outcome → State → Prop := fun _ st oc t => (∃ (v : Option xV) (M : xM), oc = .returned (v.map (xtv ad)) ∧ Rt v M ∧ va_P D vwCl (xwd ad cA M) t.heap) ∧ va_F (xAd ad) st t
theorem xPre_blind {D : va_G} {cA : ClassId} {ad : xOb → Nat} {as : List xV} {M : xM} : FrameBlind (xPre D cA ad as M) := fun a U g mk h => ⟨h.1, h.2.1, xSx_same (u := U) (U := U.calling g mk a) rfl rfl h.2.2⟩
/-- the locals that a frame's list tells -/
def xas (ad : xOb → Nat) : Nat → List (Option xV) → List (Nat × Value)
  | _, [] => []
  | k, none :: l => xas ad (k + 1) l
  | k, some v :: l => (k, xtv ad v) :: xas ad (k + 1) l
theorem xas_get {ad : xOb → Nat} : ∀ (L : List (Option xV)) (k i : Nat) (v : xV), xget L i = some v → (k + i, xtv ad v) ∈ xas ad k L
  | [], _, _, _, h => by cases h
  | none :: l, k, 0, v, h => by cases h
  | some w :: l, k, 0, v, h => by
    cases h
    exact List.mem_cons_self
  | none :: l, k, i + 1, v, h => by
    have := xas_get (ad := ad) l (k + 1) i v h
    rw [show k + (i + 1) = k + 1 + i by omega]
    exact this
  | some w :: l, k, i + 1, v, h => by
    have := xas_get (ad := ad) l (k + 1) i v h
    rw [show k + (i + 1) = k + 1 + i by omega]
    exact List.mem_cons_of_mem _ this
theorem xas_mem {ad : xOb → Nat} : ∀ (L : List (Option xV)) (k : Nat) (q : Nat × Value), q ∈ xas ad k L → ∃ i v, q = (k + i, xtv ad v) ∧ xget L i = some v
  | [], _, _, h => by cases h
  | none :: l, k, q, h => by
    obtain ⟨i, v, h1, h2⟩ := xas_mem l (k + 1) q h
    exact ⟨i + 1, v, by rw [h1, show k + 1 + i = k + (i + 1) by omega], h2⟩
  | some w :: l, k, q, h => by
    rcases List.mem_cons.mp h with h | h
    · exact ⟨0, w, h, rfl⟩
    · obtain ⟨i, v, h1, h2⟩ := xas_mem l (k + 1) q h
      exact ⟨i + 1, v, by rw [h1, show k + 1 + i = k + (i + 1) by omega], h2⟩
def xLk (ad : xOb → Nat) (ls : Array Slot) (mL : Nat) (L : List (Option xV)) : Prop := L.length = mL ∧ lv_has ls mL (xas ad 0 L)
theorem xLk_at {ad : xOb → Nat} {ls : Array Slot} {mL : Nat} {L : List (Option xV)} (h : xLk ad ls mL L) {i : Nat} {v : xV} (hv : xget L i = some v) : ls[i]? = some (.val (xtv ad v)) := by
  have := h.2.2.2 _ (xas_get L 0 i v hv)
  rw [Nat.zero_add] at this
  exact this
theorem xst1_len : ∀ (L : List (Option xV)) (i : Nat) (v : xV), (xst1 L i v).length = L.length
  | [], _, _ => rfl
  | _ :: l, 0, v => rfl
  | some (.inr (.inl _)) :: l, 1, v => by show (none :: xst1 l 0 v).length = _; rw [List.length_cons, xst1_len l 0 v]; rfl
  | none :: l, 1, v => by show (none :: xst1 l 0 v).length = _; rw [List.length_cons, xst1_len l 0 v]; rfl
  | some (.inl a) :: l, 1, v => by show (some (.inl a) :: xst1 l 0 v).length = _; rw [List.length_cons, xst1_len l 0 v]; rfl
  | some (.inr (.inr a)) :: l, 1, v => by show (some (.inr (.inr a)) :: xst1 l 0 v).length = _; rw [List.length_cons, xst1_len l 0 v]; rfl
  | a :: l, n + 2, v => by rw [show xst1 (a :: l) (n + 2) v = a :: xst1 l (n + 1) v by cases a <;> simp [xst1], List.length_cons, xst1_len l (n + 1) v]; rfl
theorem xst1_get : ∀ (L : List (Option xV)) (i : Nat) (v : xV) (j : Nat) (w : xV), xget (xst1 L i v) j = some w → (j = i ∧ w = v) ∨ (j ≠ i ∧ xget L j = some w ∧ ¬ (j + 1 = i ∧ xcat w = 2))
  | [], _, _, _, _, h => by cases h
  | _ :: l, 0, v, 0, w, h => Or.inl ⟨rfl, (Option.some.inj h).symm⟩
  | _ :: l, 0, v, j + 1, w, h => Or.inr ⟨by omega, h, fun q => by omega⟩
  | some (.inr (.inl _)) :: l, 1, v, 0, w, h => by cases h
  | some (.inr (.inl _)) :: l, 1, v, j + 1, w, h => by
    rcases xst1_get l 0 v j w h with ⟨a, b⟩ | ⟨a, b, c⟩
    · exact Or.inl ⟨by omega, b⟩
    · exact Or.inr ⟨by omega, b, fun q => c ⟨by omega, q.2⟩⟩
  | none :: l, 1, v, 0, w, h => by cases h
  | none :: l, 1, v, j + 1, w, h => by
    rcases xst1_get l 0 v j w h with ⟨a, b⟩ | ⟨a, b, c⟩
    · exact Or.inl ⟨by omega, b⟩
    · exact Or.inr ⟨by omega, b, fun q => c ⟨by omega, q.2⟩⟩
  | some (.inl a) :: l, 1, v, 0, w, h => by
    cases h
    exact Or.inr ⟨by omega, rfl, fun q => by cases q.2⟩
  | some (.inl a) :: l, 1, v, j + 1, w, h => by
    rcases xst1_get l 0 v j w h with ⟨a, b⟩ | ⟨a, b, c⟩
    · exact Or.inl ⟨by omega, b⟩
    · exact Or.inr ⟨by omega, b, fun q => c ⟨by omega, q.2⟩⟩
  | some (.inr (.inr a)) :: l, 1, v, 0, w, h => by
    cases h
    exact Or.inr ⟨by omega, rfl, fun q => by cases q.2⟩
  | some (.inr (.inr a)) :: l, 1, v, j + 1, w, h => by
    rcases xst1_get l 0 v j w h with ⟨a, b⟩ | ⟨a, b, c⟩
    · exact Or.inl ⟨by omega, b⟩
    · exact Or.inr ⟨by omega, b, fun q => c ⟨by omega, q.2⟩⟩
  | a :: l, n + 2, v, 0, w, h => by
    rw [show xst1 (a :: l) (n + 2) v = a :: xst1 l (n + 1) v by cases a <;> simp [xst1]] at h
    exact Or.inr ⟨by omega, h, fun q => by omega⟩
  | a :: l, n + 2, v, j + 1, w, h => by
    rw [show xst1 (a :: l) (n + 2) v = a :: xst1 l (n + 1) v by cases a <;> simp [xst1]] at h
    rcases xst1_get l (n + 1) v j w h with ⟨a, b⟩ | ⟨a, b, c⟩
    · exact Or.inl ⟨by omega, b⟩
    · exact Or.inr ⟨by omega, b, fun q => c ⟨by omega, q.2⟩⟩
theorem xLk_st1 {ad : xOb → Nat} {ls ls' : Array Slot} {mL : Nat} {L : List (Option xV)} {i : Nat} {v : xV} (h : xLk ad ls mL L) (h' : lv_has ls' mL ((i, xtv ad v) :: (xas ad 0 L).filter (fun q => !(q.1 == i) && !(q.1 + 1 == i && q.2.category == 2)))) : xLk ad ls' mL (xst1 L i v) := by
  refine ⟨by rw [xst1_len]; exact h.1, h'.1, h'.2.1, fun q hq => ?_⟩
  obtain ⟨j, w, rfl, hw⟩ := xas_mem _ 0 q hq
  rw [Nat.zero_add]
  rcases xst1_get L i v j w hw with ⟨rfl, rfl⟩ | ⟨h1, h2, h3⟩
  · exact h'.2.2 _ List.mem_cons_self
  · refine h'.2.2 (j, xtv ad w) (List.mem_cons_of_mem _ (List.mem_filter.mpr ⟨?_, ?_⟩))
    · have := xas_get (ad := ad) L 0 j w h2
      rw [Nat.zero_add] at this
      exact this
    · rw [xtv_cat]
      simp only [Bool.and_eq_true, Bool.not_eq_true', beq_eq_false_iff_ne, Bool.and_eq_false_iff]
      refine ⟨h1, ?_⟩
      by_cases hj : j + 1 = i
      · exact Or.inr (fun q => h3 ⟨hj, q⟩)
      · exact Or.inl hj
theorem xclr_len : ∀ L : List (Option xV), (xclr L).length = L.length
  | [] => rfl
  | _ :: _ => rfl
theorem xst2_len : ∀ (L : List (Option xV)) (i : Nat) (v : xV), (xst2 L i v).length = L.length
  | [], _, _ => rfl
  | _ :: l, 0, v => by show (some v :: xclr l).length = _; rw [List.length_cons, xclr_len l]; rfl
  | some (.inr (.inl _)) :: l, 1, v => by show (none :: xst2 l 0 v).length = _; rw [List.length_cons, xst2_len l 0 v]; rfl
  | none :: l, 1, v => by show (none :: xst2 l 0 v).length = _; rw [List.length_cons, xst2_len l 0 v]; rfl
  | some (.inl a) :: l, 1, v => by show (some (.inl a) :: xst2 l 0 v).length = _; rw [List.length_cons, xst2_len l 0 v]; rfl
  | some (.inr (.inr a)) :: l, 1, v => by show (some (.inr (.inr a)) :: xst2 l 0 v).length = _; rw [List.length_cons, xst2_len l 0 v]; rfl
  | a :: l, n + 2, v => by rw [show xst2 (a :: l) (n + 2) v = a :: xst2 l (n + 1) v by cases a <;> simp [xst2], List.length_cons, xst2_len l (n + 1) v]; rfl
theorem xclr_get : ∀ (L : List (Option xV)) (j : Nat) (w : xV), xget (xclr L) j = some w → j ≠ 0 ∧ xget L j = some w
  | [], _, _, h => by cases h
  | _ :: l, 0, w, h => by cases h
  | _ :: l, j + 1, w, h => ⟨by omega, h⟩
theorem xst2_get : ∀ (L : List (Option xV)) (i : Nat) (v : xV) (j : Nat) (w : xV), xget (xst2 L i v) j = some w → (j = i ∧ w = v) ∨ (j ≠ i ∧ j ≠ i + 1 ∧ xget L j = some w ∧ ¬ (j + 1 = i ∧ xcat w = 2))
  | [], _, _, _, _, h => by cases h
  | _ :: l, 0, v, 0, w, h => Or.inl ⟨rfl, (Option.some.inj h).symm⟩
  | _ :: l, 0, v, j + 1, w, h => by
    obtain ⟨h1, h2⟩ := xclr_get l j w h
    exact Or.inr ⟨by omega, by omega, h2, fun q => by omega⟩
  | some (.inr (.inl _)) :: l, 1, v, 0, w, h => by cases h
  | some (.inr (.inl _)) :: l, 1, v, j + 1, w, h => by
    rcases xst2_get l 0 v j w h with ⟨a, b⟩ | ⟨a, a', b, c⟩
    · exact Or.inl ⟨by omega, b⟩
    · exact Or.inr ⟨by omega, by omega, b, fun q => c ⟨by omega, q.2⟩⟩
  | none :: l, 1, v, 0, w, h => by cases h
  | none :: l, 1, v, j + 1, w, h => by
    rcases xst2_get l 0 v j w h with ⟨a, b⟩ | ⟨a, a', b, c⟩
    · exact Or.inl ⟨by omega, b⟩
    · exact Or.inr ⟨by omega, by omega, b, fun q => c ⟨by omega, q.2⟩⟩
  | some (.inl a) :: l, 1, v, 0, w, h => by
    cases h
    exact Or.inr ⟨by omega, by omega, rfl, fun q => by cases q.2⟩
  | some (.inl a) :: l, 1, v, j + 1, w, h => by
    rcases xst2_get l 0 v j w h with ⟨a, b⟩ | ⟨a, a', b, c⟩
    · exact Or.inl ⟨by omega, b⟩
    · exact Or.inr ⟨by omega, by omega, b, fun q => c ⟨by omega, q.2⟩⟩
  | some (.inr (.inr a)) :: l, 1, v, 0, w, h => by
    cases h
    exact Or.inr ⟨by omega, by omega, rfl, fun q => by cases q.2⟩
  | some (.inr (.inr a)) :: l, 1, v, j + 1, w, h => by
    rcases xst2_get l 0 v j w h with ⟨a, b⟩ | ⟨a, a', b, c⟩
    · exact Or.inl ⟨by omega, b⟩
    · exact Or.inr ⟨by omega, by omega, b, fun q => c ⟨by omega, q.2⟩⟩
  | a :: l, n + 2, v, 0, w, h => by
    rw [show xst2 (a :: l) (n + 2) v = a :: xst2 l (n + 1) v by cases a <;> simp [xst2]] at h
    exact Or.inr ⟨by omega, by omega, h, fun q => by omega⟩
  | a :: l, n + 2, v, j + 1, w, h => by
    rw [show xst2 (a :: l) (n + 2) v = a :: xst2 l (n + 1) v by cases a <;> simp [xst2]] at h
    rcases xst2_get l (n + 1) v j w h with ⟨a, b⟩ | ⟨a, a', b, c⟩
    · exact Or.inl ⟨by omega, b⟩
    · exact Or.inr ⟨by omega, by omega, b, fun q => c ⟨by omega, q.2⟩⟩
theorem xLk_st2 {ad : xOb → Nat} {ls ls' : Array Slot} {mL : Nat} {L : List (Option xV)} {i : Nat} {v : xV} (h : xLk ad ls mL L) (h' : lv_has ls' mL ((i, xtv ad v) :: (xas ad 0 L).filter (fun q => !(q.1 == i) && (!(q.1 == i + 1) && !(q.1 + 1 == i && q.2.category == 2))))) : xLk ad ls' mL (xst2 L i v) := by
  refine ⟨by rw [xst2_len]; exact h.1, h'.1, h'.2.1, fun q hq => ?_⟩
  obtain ⟨j, w, rfl, hw⟩ := xas_mem _ 0 q hq
  rw [Nat.zero_add]
  rcases xst2_get L i v j w hw with ⟨rfl, rfl⟩ | ⟨h1, h4, h2, h3⟩
  · exact h'.2.2 _ List.mem_cons_self
  · refine h'.2.2 (j, xtv ad w) (List.mem_cons_of_mem _ (List.mem_filter.mpr ⟨?_, ?_⟩))
    · have := xas_get (ad := ad) L 0 j w h2
      rw [Nat.zero_add] at this
      exact this
    · rw [xtv_cat]
      simp only [Bool.and_eq_true, Bool.not_eq_true', beq_eq_false_iff_ne, Bool.and_eq_false_iff]
      refine ⟨h1, h4, ?_⟩
      by_cases hj : j + 1 = i
      · exact Or.inr (fun q => h3 ⟨hj, q⟩)
      · exact Or.inl hj
