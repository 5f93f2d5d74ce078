section RA3
variable {p : Program} {l : Launch} {e : Env} {R : Room} {s : State} {m : MethodId} {args : Array Value} {below : List Frame} {meth : Method} {c : Code} {H : Heap} {locs : List Loc} {cells slots : Nat} {Q : State → Prop} {cc : ByteArray} {pc : Nat} {ls : Array Slot} {rest : List Value}
/-- what one instruction puts on the stack -/
def ra_oi : Option ra_V → Option ra_V
  | some (0, a, b) => some (0, a, b)
  | _ => none
def ra_ol : Option ra_V → Option ra_V
  | some (1, a, b) => some (1, a, b)
  | some (2, a, b) => some (2, a, b)
  | _ => none
def ra_oa : Option ra_V → Option ra_V
  | some (3, a, b) => some (3, a, b)
  | some (4, a, b) => some (4, a, b)
  | some (8, a, b) => some (8, a, b)
  | _ => none
def ra_od : Option ra_V → Option ra_V
  | some (5, a, b) => some (5, a, b)
  | _ => none
theorem ra_oi_i {o : Option ra_V} {a : ra_V} (h : ra_oi o = some a) : o = some a ∧ ∃ x y, a = (0, x, y) := by
  unfold ra_oi at h; split at h <;> cases h; exact ⟨rfl, _, _, rfl⟩
theorem ra_ol_i {o : Option ra_V} {a : ra_V} (h : ra_ol o = some a) : o = some a ∧ ra_l1 a = true := by
  unfold ra_ol at h; split at h <;> cases h <;> exact ⟨rfl, rfl⟩
theorem ra_oa_i {o : Option ra_V} {a : ra_V} (h : ra_oa o = some a) : o = some a ∧ ((∃ x y, a = (3, x, y)) ∨ (∃ x y, a = (4, x, y)) ∨ ∃ x y, a = (8, x, y)) := by
  unfold ra_oa at h; split at h <;> cases h
  · exact ⟨rfl, Or.inl ⟨_, _, rfl⟩⟩
  · exact ⟨rfl, Or.inr (Or.inl ⟨_, _, rfl⟩)⟩
  · exact ⟨rfl, Or.inr (Or.inr ⟨_, _, rfl⟩)⟩
theorem ra_od_i {o : Option ra_V} {a : ra_V} (h : ra_od o = some a) : o = some a ∧ ∃ x y, a = (5, x, y) := by
  unfold ra_od at h; split at h <;> cases h; exact ⟨rfl, _, _, rfl⟩
def ra_push (al : List (Nat × ra_V)) : Instr → Nat → Option ra_V
  | .iconst n, 1 => some (ra_k (Int32.ofInt n))
  | .bipush n, 2 => some (ra_k (Int8.ofInt n).toInt32)
  | .sipush n, 3 => some (ra_k (Int16.ofInt n).toInt32)
  | .lconst n, 1 => some (ra_kl (Int64.ofNat (n : Nat)))
  | .aconst_null, 1 => some (4, 0, 0)
  | .iload_n k, 1 => ra_oi (ra_get al k)
  | .iload i, 2 => ra_oi (ra_get al i)
  | .lload_n k, 1 => ra_ol (ra_get al k)
  | .lload i, 2 => ra_ol (ra_get al i)
  | .aload_n k, 1 => ra_oa (ra_get al k)
  | .aload i, 2 => ra_oa (ra_get al i)
  | .dload i, 2 => ra_od (ra_get al i)
  | .dload_n k, 1 => ra_od (ra_get al k)
  | _, _ => none
theorem ra_push_W {ad : List Nat} {al : List (Nat × ra_V)} {lv : List (Nat × Value)} {nL : Nat} (hx : p.tables.exec = Jvm.exec) (hb : c.code = cc) (hl : lv_has ls nL lv) (hL : ra_L ad al lv) {ig : Instr} {len : Nat} {a : ra_V} (hdg : decode cc pc = .ok (ig, len)) (h : ra_push al ig len = some a)
    (k : ∀ v, ra_R ad a v → W p l e R s m args below meth c H locs cells slots Q (F0 m (pc + len) ls (v :: rest))) : W p l e R s m args below meth c H locs cells slots Q (F0 m pc ls rest) := by
  unfold ra_push at h
  split at h
  · cases h; exact lv_iconst hx hb hdg rfl (k _ (ra_R_k _))
  · cases h; exact lv_bipush hx hb hdg rfl (k _ (ra_R_k _))
  · cases h; exact lv_sipush hx hb hdg rfl (k _ (ra_R_k _))
  · cases h; exact lv_lconst hx hb hdg rfl (k _ (ra_R_kl _))
  · cases h; exact lv_null hx hb hdg (k _ rfl)
  · obtain ⟨h1, x, y, rfl⟩ := ra_oi_i h
    obtain ⟨v, e1, hR⟩ := ra_L_get hL hl h1
    obtain ⟨z, rfl, h2⟩ := id hR
    exact lv_iload_n hx hb hdg rfl e1 (k _ hR)
  · obtain ⟨h1, x, y, rfl⟩ := ra_oi_i h
    obtain ⟨v, e1, hR⟩ := ra_L_get hL hl h1
    obtain ⟨z, rfl, h2⟩ := id hR
    exact lv_iload hx hb hdg e1 (k _ hR)
  · obtain ⟨h1, h2⟩ := ra_ol_i h
    obtain ⟨v, e1, hR⟩ := ra_L_get hL hl h1
    obtain ⟨z, rfl⟩ := ra_l1_R h2 hR
    exact lv_lload_n hx hb hdg rfl e1 (k _ hR)
  · obtain ⟨h1, h2⟩ := ra_ol_i h
    obtain ⟨v, e1, hR⟩ := ra_L_get hL hl h1
    obtain ⟨z, rfl⟩ := ra_l1_R h2 hR
    exact lv_lload hx hb hdg e1 (k _ hR)
  · obtain ⟨h1, ⟨x, y, rfl⟩ | ⟨x, y, rfl⟩ | ⟨x, y, rfl⟩⟩ := ra_oa_i h
    · obtain ⟨v, e1, hR⟩ := ra_L_get hL hl h1
      obtain ⟨q, e2, rfl⟩ := id hR
      exact lv_aload_n hx hb hdg rfl e1 (k _ hR)
    · obtain ⟨v, e1, hR⟩ := ra_L_get hL hl h1
      have e2 : v = .null := hR
      subst e2
      exact lv_aload_nN hx hb hdg rfl e1 (k _ hR)
    · obtain ⟨v, e1, hR⟩ := ra_L_get hL hl h1
      rcases id hR with rfl | ⟨q, rfl⟩
      · exact lv_aload_nN hx hb hdg rfl e1 (k _ hR)
      · exact lv_aload_n hx hb hdg rfl e1 (k _ hR)
  · obtain ⟨h1, ⟨x, y, rfl⟩ | ⟨x, y, rfl⟩ | ⟨x, y, rfl⟩⟩ := ra_oa_i h
    · obtain ⟨v, e1, hR⟩ := ra_L_get hL hl h1
      obtain ⟨q, e2, rfl⟩ := id hR
      exact lv_aload hx hb hdg e1 (k _ hR)
    · obtain ⟨v, e1, hR⟩ := ra_L_get hL hl h1
      have e2 : v = .null := hR
      subst e2
      exact lv_aloadN hx hb hdg e1 (k _ hR)
    · obtain ⟨v, e1, hR⟩ := ra_L_get hL hl h1
      rcases id hR with rfl | ⟨q, rfl⟩
      · exact lv_aloadN hx hb hdg e1 (k _ hR)
      · exact lv_aload hx hb hdg e1 (k _ hR)
  · obtain ⟨h1, x, y, rfl⟩ := ra_od_i h
    obtain ⟨v, e1, hR⟩ := ra_L_get hL hl h1
    have e2 : v = .double _ := hR
    subst e2
    exact lv_dload hx hb hdg e1 (k _ hR)
  · obtain ⟨h1, x, y, rfl⟩ := ra_od_i h
    obtain ⟨v, e1, hR⟩ := ra_L_get hL hl h1
    have e2 : v = .double _ := hR
    subst e2
    exact lv_dload_n hx hb hdg rfl e1 (k _ hR)
  · cases h
/-- what one instruction does with the stack alone -/
def ra_ii (y x r : ra_V) (st : List ra_V) : Option (List ra_V) := if ra_i1 y && ra_i1 x then some (r :: st) else none
def ra_ji (x r : ra_V) (st : List ra_V) : Option (List ra_V) := if ra_i1 x then some (r :: st) else none
def ra_jl (x r : ra_V) (st : List ra_V) : Option (List ra_V) := if ra_l1 x then some (r :: st) else none
def ra_ll (y x r : ra_V) (st : List ra_V) : Option (List ra_V) := if ra_l1 y && ra_l1 x then some (r :: st) else none
def ra_il (y x r : ra_V) (st : List ra_V) : Option (List ra_V) := if ra_i1 y && ra_l1 x then some (r :: st) else none
theorem ra_ii_i {ad : List Nat} {y x r : ra_V} {st st' : List ra_V} {vs : List Value} (h : ra_ii y x r st = some st') (hS : ra_S ad (y :: x :: st) vs) : ∃ (b a : Int32) (vs' : List Value), vs = .int b :: .int a :: vs' ∧ ra_R ad y (.int b) ∧ ra_R ad x (.int a) ∧ st' = r :: st ∧ ra_S ad st vs' := by
  unfold ra_ii at h
  split at h
  · next q =>
    rw [Bool.and_eq_true] at q
    cases h
    obtain ⟨v, vs1, rfl, h1, hS1⟩ := ra_S_cons hS
    obtain ⟨w, vs2, rfl, h2, hS2⟩ := ra_S_cons hS1
    obtain ⟨b, rfl⟩ := ra_i1_R q.1 h1
    obtain ⟨a, rfl⟩ := ra_i1_R q.2 h2
    exact ⟨b, a, vs2, rfl, h1, h2, rfl, hS2⟩
  · cases h
/-- the last six bits -/
def ra_ia (y x : ra_V) (st : List ra_V) : Option (List ra_V) := if x.1 = 10 then (if y = (0, 63, 63) then some ((0, x.2.1, x.2.1) :: st) else none) else ra_ii y x (ra_and y x) st
theorem ra_ia_ii {y x : ra_V} {st st' : List ra_V} (h : ra_ii y x (ra_and y x) st = some st') : ra_ia y x st = some st' := by
  have hx : ¬ x.1 = 10 := by
    intro q
    obtain ⟨x1, x2, x3⟩ := x
    replace q : x1 = 10 := q
    subst q
    unfold ra_ii at h
    rw [show ra_i1 (10, x2, x3) = false from rfl, Bool.and_false] at h
    cases h
  exact (if_neg hx).trans h
theorem ra_ia_i {ad : List Nat} {y x : ra_V} {st st' : List ra_V} {vs : List Value} (h : ra_ia y x st = some st') (hS : ra_S ad (y :: x :: st) vs) : ∃ (b a : Int32) (vs' : List Value) (r : ra_V), vs = .int b :: .int a :: vs' ∧ st' = r :: st ∧ ra_R ad r (.int (a &&& b)) ∧ ra_S ad st vs' := by
  unfold ra_ia at h
  split at h
  · next q =>
    split at h
    · next q2 =>
      cases h
      subst q2
      obtain ⟨v, vs1, rfl, r1, hS1⟩ := ra_S_cons hS
      obtain ⟨w, vs2, rfl, r2, hS2⟩ := ra_S_cons hS1
      obtain ⟨b, rfl, p1, p2⟩ := r1
      obtain ⟨x1, x2, x3⟩ := x
      replace q : x1 = 10 := q
      subst q
      obtain ⟨a, rfl, p3⟩ := r2
      have e : b = 63 := ra_eqI p1 p2
      subst e
      exact ⟨63, a, vs2, _, rfl, rfl, ⟨_, rfl, Int.le_of_eq p3.symm, Int.le_of_eq p3⟩, hS2⟩
    · cases h
  · obtain ⟨b, a, vs', rfl, h1, h2, rfl, h3⟩ := ra_ii_i h hS
    exact ⟨b, a, vs', _, rfl, rfl, ra_R_and h2 h1, h3⟩
theorem ra_ji_i {ad : List Nat} {x r : ra_V} {st st' : List ra_V} {vs : List Value} (h : ra_ji x r st = some st') (hS : ra_S ad (x :: st) vs) : ∃ (a : Int32) (vs' : List Value), vs = .int a :: vs' ∧ ra_R ad x (.int a) ∧ st' = r :: st ∧ ra_S ad st vs' := by
  unfold ra_ji at h
  split at h
  · next q =>
    cases h
    obtain ⟨v, vs1, rfl, h1, hS1⟩ := ra_S_cons hS
    obtain ⟨b, rfl⟩ := ra_i1_R q h1
    exact ⟨b, vs1, rfl, h1, rfl, hS1⟩
  · cases h
theorem ra_jl_i {ad : List Nat} {x r : ra_V} {st st' : List ra_V} {vs : List Value} (h : ra_jl x r st = some st') (hS : ra_S ad (x :: st) vs) : ∃ (a : Int64) (vs' : List Value), vs = .long a :: vs' ∧ ra_R ad x (.long a) ∧ st' = r :: st ∧ ra_S ad st vs' := by
  unfold ra_jl at h
  split at h
  · next q =>
    cases h
    obtain ⟨v, vs1, rfl, h1, hS1⟩ := ra_S_cons hS
    obtain ⟨b, rfl⟩ := ra_l1_R q h1
    exact ⟨b, vs1, rfl, h1, rfl, hS1⟩
  · cases h
theorem ra_ll_i {ad : List Nat} {y x r : ra_V} {st st' : List ra_V} {vs : List Value} (h : ra_ll y x r st = some st') (hS : ra_S ad (y :: x :: st) vs) : ∃ (b a : Int64) (vs' : List Value), vs = .long b :: .long a :: vs' ∧ ra_R ad y (.long b) ∧ ra_R ad x (.long a) ∧ st' = r :: st ∧ ra_S ad st vs' := by
  unfold ra_ll at h
  split at h
  · next q =>
    rw [Bool.and_eq_true] at q
    cases h
    obtain ⟨v, vs1, rfl, h1, hS1⟩ := ra_S_cons hS
    obtain ⟨w, vs2, rfl, h2, hS2⟩ := ra_S_cons hS1
    obtain ⟨b, rfl⟩ := ra_l1_R q.1 h1
    obtain ⟨a, rfl⟩ := ra_l1_R q.2 h2
    exact ⟨b, a, vs2, rfl, h1, h2, rfl, hS2⟩
  · cases h
theorem ra_il_i {ad : List Nat} {y x r : ra_V} {st st' : List ra_V} {vs : List Value} (h : ra_il y x r st = some st') (hS : ra_S ad (y :: x :: st) vs) : ∃ (b : Int32) (a : Int64) (vs' : List Value), vs = .int b :: .long a :: vs' ∧ ra_R ad y (.int b) ∧ ra_R ad x (.long a) ∧ st' = r :: st ∧ ra_S ad st vs' := by
  unfold ra_il at h
  split at h
  · next q =>
    rw [Bool.and_eq_true] at q
    cases h
    obtain ⟨v, vs1, rfl, h1, hS1⟩ := ra_S_cons hS
    obtain ⟨w, vs2, rfl, h2, hS2⟩ := ra_S_cons hS1
    obtain ⟨b, rfl⟩ := ra_i1_R q.1 h1
    obtain ⟨a, rfl⟩ := ra_l1_R q.2 h2
    exact ⟨b, a, vs2, rfl, h1, h2, rfl, hS2⟩
  · cases h
def ra_nz (y : ra_V) : Bool := match ra_ci y with
  | some d => decide (¬ d = 0)
  | none => false
theorem ra_nz_R {ad : List Nat} {y : ra_V} {b : Int32} (h : ra_nz y = true) (hR : ra_R ad y (.int b)) : ¬ b = 0 := by
  unfold ra_nz at h
  split at h
  · next q => rw [ra_ci_R q hR]; exact of_decide_eq_true h
  · cases h
def ra_st : Instr → Nat → List ra_V → Option (List ra_V)
  | .iadd, 1, y :: x :: st => ra_ii y x (ra_add y x) st
  | .isub, 1, y :: x :: st => ra_ii y x (ra_sub y x) st
  | .imul, 1, y :: x :: st => ra_ii y x (ra_mul y x) st
  | .idiv, 1, y :: x :: st => if ra_nz y then ra_ii y x (ra_b (· / ·) y x) st else none
  | .irem, 1, y :: x :: st => if ra_nz y then ra_ii y x (ra_b (fun x y => x - x / y * y) y x) st else none
  | .iand, 1, y :: x :: st => ra_ia y x st
  | .ior, 1, y :: x :: st => ra_ii y x (ra_b (· ||| ·) y x) st
  | .ixor, 1, y :: x :: st => ra_ii y x (ra_b (· ^^^ ·) y x) st
  | .ishl, 1, y :: x :: st => ra_ii y x (ra_b (fun x y => x <<< (y &&& 31)) y x) st
  | .ishr, 1, y :: x :: st => ra_ii y x (ra_b (fun x y => x >>> (y &&& 31)) y x) st
  | .iushr, 1, y :: x :: st => ra_ii y x (ra_b (fun x y => (x.toUInt32 >>> (y.toUInt32 &&& Int32.toUInt32 31)).toInt32) y x) st
  | .ineg, 1, x :: st => ra_ji x (ra_u (fun x => -x) x) st
  | .i2b, 1, x :: st => ra_ji x (ra_u (fun x => x.toInt8.toInt32) x) st
  | .i2c, 1, x :: st => ra_ji x (ra_u (fun x => (x.toUInt32 % 65536).toInt32) x) st
  | .i2l, 1, x :: st => ra_ji x (ra_i2l x) st
  | .l2i, 1, x :: st => ra_jl x (ra_l2i x) st
  | .ladd, 1, y :: x :: st => ra_ll y x (ra_lb (· + ·) y x) st
  | .lsub, 1, y :: x :: st => ra_ll y x (ra_lb (· - ·) y x) st
  | .lmul, 1, y :: x :: st => ra_ll y x (ra_lb (· * ·) y x) st
  | .land, 1, y :: x :: st => ra_ll y x (ra_lb (· &&& ·) y x) st
  | .lor, 1, y :: x :: st => ra_ll y x (ra_lb (· ||| ·) y x) st
  | .lxor, 1, y :: x :: st => ra_ll y x (ra_lb (· ^^^ ·) y x) st
  | .lneg, 1, x :: st => ra_jl x (ra_lu (fun x => -x) x) st
  | .lshl, 1, y :: x :: st => ra_il y x (ra_ls (fun x y => x <<< (y.toInt64 &&& 63)) y x) st
  | .lshr, 1, y :: x :: st => ra_il y x (ra_ls (fun x y => x >>> (y.toInt64 &&& 63)) y x) st
  | .lushr, 1, y :: x :: st => ra_il y x (ra_ls (fun x y => (x.toUInt64 >>> (y.toInt64.toUInt64 &&& Int64.toUInt64 63)).toInt64) y x) st
  | .lcmp, 1, y :: x :: st => ra_ll y x (ra_lcmp y x) st
  | .i2d, 1, x :: st => match ra_ci x with
    | some n => ra_ji x (5, ((FP.i2d n).toNat : Int), 0) st
    | none => none
  | .ddiv, 1, (5, b, _) :: (5, a, _) :: st => if FP.ddiv (UInt64.ofNat a.toNat) (UInt64.ofNat b.toNat) &&& 0x7fffffffffffffff ≤ 0x7ff0000000000000 then some ((5, ((FP.ddiv (UInt64.ofNat a.toNat) (UInt64.ofNat b.toNat)).toNat : Int), 0) :: st) else none
  | .dcmp op, 1, (5, b, _) :: (5, a, _) :: st => some (ra_k (Op.cmpValue (FP.dcmp (UInt64.ofNat a.toNat) (UInt64.ofNat b.toNat)) op) :: st)
  | .dup, 1, x :: st => if ra_c x = 1 then some (x :: x :: st) else none
  | .pop, 1, x :: st => if ra_c x = 1 then some st else none
  | .dup_x1, 1, x :: y :: st => if ra_c x = 1 ∧ ra_c y = 1 then some (x :: y :: x :: st) else none
  | .dup_x2, 1, x :: y :: z :: st => if ra_c x = 1 ∧ ra_c y = 1 ∧ ra_c z = 1 then some (x :: y :: z :: x :: st) else none
  | .dup2, 1, x :: y :: st => if ra_c x = 1 ∧ ra_c y = 1 then some (x :: y :: x :: y :: st) else none
  | _, _, _ => none
theorem ra_R_dbl {ad : List Nat} (x : UInt64) : ra_R ad (5, (x.toNat : Int), 0) (.double x) := by
  show Value.double x = .double (UInt64.ofNat ((x.toNat : Int)).toNat)
  rw [Int.toNat_natCast, UInt64.ofNat_toNat]
theorem ra_st_W {ad : List Nat} {st st' : List ra_V} {vs : List Value} (hx : p.tables.exec = Jvm.exec) (hb : c.code = cc) (hS : ra_S ad st vs) {ig : Instr} {len : Nat} (hdg : decode cc pc = .ok (ig, len)) (h : ra_st ig len st = some st')
    (k : ∀ vs', ra_S ad st' vs' → W p l e R s m args below meth c H locs cells slots Q (F0 m (pc + len) ls vs')) : W p l e R s m args below meth c H locs cells slots Q (F0 m pc ls vs) := by
  unfold ra_st at h
  split at h
  · obtain ⟨b, a, vs', rfl, h1, h2, rfl, h3⟩ := ra_ii_i h hS; exact lv_iadd hx hb hdg (k _ ⟨ra_R_add h2 h1, h3⟩)
  · obtain ⟨b, a, vs', rfl, h1, h2, rfl, h3⟩ := ra_ii_i h hS; exact lv_isub hx hb hdg (k _ ⟨ra_R_sub h2 h1, h3⟩)
  · obtain ⟨b, a, vs', rfl, h1, h2, rfl, h3⟩ := ra_ii_i h hS; exact lv_imul hx hb hdg (k _ ⟨ra_R_mul h2 h1, h3⟩)
  · split at h
    · next q => obtain ⟨b, a, vs', rfl, h1, h2, rfl, h3⟩ := ra_ii_i h hS; exact lv_idiv hx hb hdg (ra_nz_R q h1) (k _ ⟨ra_R_b (op := (· / ·)) h2 h1, h3⟩)
    · cases h
  · split at h
    · next q => obtain ⟨b, a, vs', rfl, h1, h2, rfl, h3⟩ := ra_ii_i h hS; exact lv_irem hx hb hdg (ra_nz_R q h1) (k _ ⟨ra_R_b (op := fun x y => x - x / y * y) h2 h1, h3⟩)
    · cases h
  · obtain ⟨b, a, vs', r, rfl, rfl, h1, h2⟩ := ra_ia_i h hS; exact lv_iand hx hb hdg (k _ ⟨h1, h2⟩)
  · obtain ⟨b, a, vs', rfl, h1, h2, rfl, h3⟩ := ra_ii_i h hS; exact lv_ior hx hb hdg (k _ ⟨ra_R_b (op := (· ||| ·)) h2 h1, h3⟩)
  · obtain ⟨b, a, vs', rfl, h1, h2, rfl, h3⟩ := ra_ii_i h hS; exact lv_ixor hx hb hdg (k _ ⟨ra_R_b (op := (· ^^^ ·)) h2 h1, h3⟩)
  · obtain ⟨b, a, vs', rfl, h1, h2, rfl, h3⟩ := ra_ii_i h hS; exact lv_ishl hx hb hdg (k _ ⟨ra_R_b (op := fun x y => x <<< (y &&& 31)) h2 h1, h3⟩)
  · obtain ⟨b, a, vs', rfl, h1, h2, rfl, h3⟩ := ra_ii_i h hS; exact lv_ishr hx hb hdg (k _ ⟨ra_R_b (op := fun x y => x >>> (y &&& 31)) h2 h1, h3⟩)
  · obtain ⟨b, a, vs', rfl, h1, h2, rfl, h3⟩ := ra_ii_i h hS; exact lv_iushr hx hb hdg rfl (k _ ⟨ra_R_b (op := fun x y => (x.toUInt32 >>> (y.toUInt32 &&& Int32.toUInt32 31)).toInt32) h2 h1, h3⟩)
  · obtain ⟨a, vs', rfl, h2, rfl, h3⟩ := ra_ji_i h hS; exact lv_ineg hx hb hdg (k _ ⟨ra_R_u (op := fun x => -x) h2, h3⟩)
  · obtain ⟨a, vs', rfl, h2, rfl, h3⟩ := ra_ji_i h hS; exact lv_i2b hx hb hdg rfl (k _ ⟨ra_R_u (op := fun x => x.toInt8.toInt32) h2, h3⟩)
  · obtain ⟨a, vs', rfl, h2, rfl, h3⟩ := ra_ji_i h hS; exact lv_i2c hx hb hdg rfl (k _ ⟨ra_R_u (op := fun x => (x.toUInt32 % 65536).toInt32) h2, h3⟩)
  · obtain ⟨a, vs', rfl, h2, rfl, h3⟩ := ra_ji_i h hS; exact lv_i2l hx hb hdg rfl (k _ ⟨ra_R_i2l h2, h3⟩)
  · obtain ⟨a, vs', rfl, h2, rfl, h3⟩ := ra_jl_i h hS; exact lv_l2i hx hb hdg rfl (k _ ⟨ra_R_l2i h2, h3⟩)
  · obtain ⟨b, a, vs', rfl, h1, h2, rfl, h3⟩ := ra_ll_i h hS; exact lv_ladd hx hb hdg (k _ ⟨ra_R_lb (op := (· + ·)) h2 h1, h3⟩)
  · obtain ⟨b, a, vs', rfl, h1, h2, rfl, h3⟩ := ra_ll_i h hS; exact lv_lsub hx hb hdg (k _ ⟨ra_R_lb (op := (· - ·)) h2 h1, h3⟩)
  · obtain ⟨b, a, vs', rfl, h1, h2, rfl, h3⟩ := ra_ll_i h hS; exact lv_lmul hx hb hdg (k _ ⟨ra_R_lb (op := (· * ·)) h2 h1, h3⟩)
  · obtain ⟨b, a, vs', rfl, h1, h2, rfl, h3⟩ := ra_ll_i h hS; exact lv_land hx hb hdg (k _ ⟨ra_R_lb (op := (· &&& ·)) h2 h1, h3⟩)
  · obtain ⟨b, a, vs', rfl, h1, h2, rfl, h3⟩ := ra_ll_i h hS; exact lv_lor hx hb hdg (k _ ⟨ra_R_lb (op := (· ||| ·)) h2 h1, h3⟩)
  · obtain ⟨b, a, vs', rfl, h1, h2, rfl, h3⟩ := ra_ll_i h hS; exact lv_lxor hx hb hdg (k _ ⟨ra_R_lb (op := (· ^^^ ·)) h2 h1, h3⟩)
  · obtain ⟨a, vs', rfl, h2, rfl, h3⟩ := ra_jl_i h hS; exact lv_lneg hx hb hdg (k _ ⟨ra_R_lu (op := fun x => -x) h2, h3⟩)
  · obtain ⟨b, a, vs', rfl, h1, h2, rfl, h3⟩ := ra_il_i h hS; exact lv_lshl hx hb hdg rfl (k _ ⟨ra_R_ls (op := fun x y => x <<< (y.toInt64 &&& 63)) h2 h1, h3⟩)
  · obtain ⟨b, a, vs', rfl, h1, h2, rfl, h3⟩ := ra_il_i h hS; exact lv_lshr hx hb hdg rfl (k _ ⟨ra_R_ls (op := fun x y => x >>> (y.toInt64 &&& 63)) h2 h1, h3⟩)
  · obtain ⟨b, a, vs', rfl, h1, h2, rfl, h3⟩ := ra_il_i h hS; exact lv_lushr hx hb hdg rfl (k _ ⟨ra_R_ls (op := fun x y => (x.toUInt64 >>> (y.toInt64.toUInt64 &&& Int64.toUInt64 63)).toInt64) h2 h1, h3⟩)
  · obtain ⟨b, a, vs', rfl, h1, h2, rfl, h3⟩ := ra_ll_i h hS; exact W.lcmp hx hb hdg (k _ ⟨ra_R_lcmp h2 h1, h3⟩)
  · split at h
    · next n hn =>
      obtain ⟨a, vs', rfl, h2, rfl, h3⟩ := ra_ji_i h hS
      refine lv_i2d hx hb hdg (k _ ⟨?_, h3⟩)
      rw [ra_ci_R hn h2]
      exact ra_R_dbl _
    · cases h
  · split at h
    · next q =>
      cases h
      obtain ⟨v, vs1, rfl, h1, hS1⟩ := ra_S_cons hS
      obtain ⟨w, vs2, rfl, h2, hS2⟩ := ra_S_cons hS1
      have e1 : v = .double _ := h1
      have e2 : w = .double _ := h2
      subst e1 e2
      exact lv_ddiv hx hb hdg q (k _ ⟨ra_R_dbl _, hS2⟩)
    · cases h
  · cases h
    obtain ⟨v, vs1, rfl, h1, hS1⟩ := ra_S_cons hS
    obtain ⟨w, vs2, rfl, h2, hS2⟩ := ra_S_cons hS1
    have e1 : v = .double _ := h1
    have e2 : w = .double _ := h2
    subst e1 e2
    exact lv_dcmp hx hb hdg (k _ ⟨ra_R_k _, hS2⟩)
  · split at h
    · next q => cases h; obtain ⟨v, vs', rfl, h1, h3⟩ := ra_S_cons hS; exact lv_dup hx hb hdg (by rw [ra_cat h1, q]) (k _ ⟨h1, h1, h3⟩)
    · cases h
  · split at h
    · next q => cases h; obtain ⟨v, vs', rfl, h1, h3⟩ := ra_S_cons hS; exact lv_pop hx hb hdg (by rw [ra_cat h1, q]) (k _ h3)
    · cases h
  · split at h
    · next q =>
      cases h; obtain ⟨v, vs', rfl, h1, h3⟩ := ra_S_cons hS; obtain ⟨w, vs', rfl, h2, h3⟩ := ra_S_cons h3
      exact lv_dup_x1 hx hb hdg (by rw [ra_cat h1, q.1]) (by rw [ra_cat h2, q.2]) (k _ ⟨h1, h2, h1, h3⟩)
    · cases h
  · split at h
    · next q =>
      cases h; obtain ⟨v, vs', rfl, h1, h3⟩ := ra_S_cons hS; obtain ⟨w, vs', rfl, h2, h3⟩ := ra_S_cons h3; obtain ⟨u, vs', rfl, h4, h3⟩ := ra_S_cons h3
      exact lv_dup_x2 hx hb hdg (by rw [ra_cat h1, q.1]) (by rw [ra_cat h2, q.2.1]) (by rw [ra_cat h4, q.2.2]) (k _ ⟨h1, h2, h4, h1, h3⟩)
    · cases h
  · split at h
    · next q =>
      cases h; obtain ⟨v, vs', rfl, h1, h3⟩ := ra_S_cons hS; obtain ⟨w, vs', rfl, h2, h3⟩ := ra_S_cons h3
      exact lv_dup2_11 hx hb hdg (by rw [ra_cat h1, q.1]) (by rw [ra_cat h2, q.2]) (k _ ⟨h1, h2, h1, h2, h3⟩)
    · cases h
  · cases h
end RA3
