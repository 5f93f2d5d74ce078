section RAB
/-- a result: 0 nothing, 1 a value, 2 thrown; the cells and types behind it; the room -/
abbrev ra_Rs : Type := (Nat × ra_V × String) × List ra_E × List FieldType × ra_A
def ra_args : Nat → List ra_V → List (Nat × ra_V)
  | _, [] => []
  | i, a :: as => (i, a) :: ra_args (if ra_c a = 2 then i + 2 else i + 1) as
theorem ra_args_L {ad : List Nat} : ∀ {as : List ra_V} {vs : List Value} {i : Nat}, ra_S ad as vs → ra_L ad (ra_args i as) (lv_args i vs)
  | [], [], _, _ => trivial
  | [], _ :: _, _, h => h.elim
  | _ :: _, [], _, h => h.elim
  | a :: as, v :: vs, i, h => by
    refine ⟨rfl, h.1, ?_⟩
    rw [ra_cat h.1]
    exact ra_args_L h.2
theorem ra_sl_len : ∀ (vs : List Value), (lg_sl vs).length ≤ (vs.map fun v => v.category).sum
  | [] => Nat.le_refl _
  | v :: vs => by
    have ih := ra_sl_len vs
    have e : lg_sl (v :: vs) = (if v.category = 2 then [.val v, .second] else [.val v]) ++ lg_sl vs := rfl
    rw [e, List.length_append, List.map_cons, List.sum_cons]
    have h : (if v.category = 2 then [Slot.val v, .second] else [.val v]).length ≤ v.category := by
      cases v <;> simp [Value.category]
    omega
theorem ra_nbyte (x : Int32) (h1 : -128 ≤ x.toInt) (h2 : x.toInt ≤ 127) : narrow .byte (.int x) = .int x := by
  have e : x.toInt8.toInt32 = x := by
    apply Int32.toInt_inj.mp
    rw [Int8.toInt_toInt32, Int32.toInt_toInt8]
    exact Int.bmod_eq_of_le (by omega) (by omega)
  rw [narrow_byte, e]
theorem ra_nchar (x : Int32) (h1 : 0 ≤ x.toInt) (h2 : x.toInt ≤ 65535) : narrow .char (.int x) = .int x := by
  have e1 : x.toInt = x.toBitVec.toInt := rfl
  rw [e1, BitVec.toInt_eq_toNat_cond] at h1 h2
  have hn : x.toBitVec.toNat < 65536 := by
    have := x.toBitVec.isLt
    split at h1 <;> split at h2 <;> omega
  have e2 : x.toUInt32.toUInt16.toUInt32 = x.toUInt32 := by
    apply UInt32.toNat_inj.mp
    rw [UInt16.toNat_toUInt32, UInt32.toNat_toUInt16]
    exact Nat.mod_eq_of_lt hn
  show Value.int x.toUInt32.toUInt16.toUInt32.toInt32 = _
  rw [e2]
  rfl
def ra_ret (M : ra_Mt) : Instr → Nat → List ra_V → Option (Nat × ra_V × String)
  | .return_, 1, [] => if ra_Mr M = none then some (0, (0, 0, 0), "") else none
  | .ireturn, 1, [(0, lo, hi)] => if ra_Mr M = some .int then some (1, (0, lo, hi), "") else if ra_Mr M = some .boolean ∧ 0 ≤ lo ∧ hi ≤ 1 then some (1, (0, lo, hi), "") else if ra_Mr M = some .byte ∧ -128 ≤ lo ∧ hi ≤ 127 then some (1, (0, lo, hi), "") else if ra_Mr M = some .char ∧ 0 ≤ lo ∧ hi ≤ 65535 then some (1, (0, lo, hi), "") else none
  | .lreturn, 1, [x] => if ra_Mr M = some .long ∧ ra_l1 x = true then some (1, x, "") else none
  | .dreturn, 1, [(5, n, j)] => if ra_Mr M = some .double then some (1, (5, n, j), "") else none
  | .areturn, 1, [(3, k, j)] => match ra_Mr M with
    | some (.object _) => some (1, (3, k, j), "")
    | some (.array _) => some (1, (3, k, j), "")
    | _ => none
  | .areturn, 1, [(4, k, j)] => match ra_Mr M with
    | some (.object _) => some (1, (4, k, j), "")
    | some (.array _) => some (1, (4, k, j), "")
    | _ => none
  | _, _, _ => none
/-- a call: of which method, with what, what stays on the stack -/
def ra_rec (M : ra_Mt) (ah : List ra_E) : List ra_V → Bool
  | (3, k, _) :: _ => match ah[k.toNat]? with
    | some (0, ci, _, _, _, _) => decide ((vwCl[ci]?).map (fun r => r.1) = some (ra_My M).cls)
    | _ => false
  | _ => false
def ra_ref : List ra_V → Bool
  | (3, _, _) :: _ => true
  | _ => false
def ra_cal (P : List ra_Mt) (M : ra_Mt) (ah : List ra_E) : Instr → Nat → List ra_V → Option (Nat × ra_Mt × List ra_V × List ra_V)
  | .invokevirtual i, 3, st => match ra_find (ra_Ml M) i with
    | some (k, t) => match P[t]? with
      | some M' => if k % 8 = 1 ∧ (st.take (k / 8 + 1)).length = k / 8 + 1 ∧ ra_rec M' ah (st.take (k / 8 + 1)).reverse = true ∧ ((st.take (k / 8 + 1)).map ra_c).sum ≤ ra_Mn M' ∧ ((st.drop (k / 8 + 1)).map ra_c).sum ≤ 8 then some (1, M', (st.take (k / 8 + 1)).reverse, st.drop (k / 8 + 1)) else none
      | none => none
    | none => none
  | .invokestatic i, 3, st => match ra_find (ra_Ml M) i with
    | some (k, t) => match P[t]? with
      | some M' => if k % 8 = 2 ∧ (st.take (k / 8)).length = k / 8 ∧ ((st.take (k / 8)).map ra_c).sum ≤ ra_Mn M' ∧ ((st.drop (k / 8)).map ra_c).sum ≤ 8 then some (2, M', (st.take (k / 8)).reverse, st.drop (k / 8)) else none
      | none => none
    | none => none
  | .invokespecial i, 3, st => match ra_find (ra_Ml M) i with
    | some (k, t) => match P[t]? with
      | some M' => if (k % 8 = 3 ∨ k % 8 = 4) ∧ (st.take (k / 8 + 1)).length = k / 8 + 1 ∧ ra_ref (st.take (k / 8 + 1)).reverse = true ∧ ((st.take (k / 8 + 1)).map ra_c).sum ≤ ra_Mn M' ∧ ((st.drop (k / 8 + 1)).map ra_c).sum ≤ 8 then some (3, M', (st.take (k / 8 + 1)).reverse, st.drop (k / 8 + 1)) else none
      | none => none
    | none => none
  | _, _, _ => none
def ra_acc (a b : ra_A) (nL : Nat) : ra_A := (a.1 + b.1, a.2.1 + b.2.1, max a.2.2.1 (b.2.2.1 + 1), max a.2.2.2 (8 + (nL + 11) + b.2.2.2))
/-- which handler takes an exception of class E: none where nothing is known -/
def ra_ct (pc : Nat) (E : String) : List (Nat × Nat × Nat × Nat × String) → Option (Option Nat)
  | [] => some none
  | (f, t, h, _, nm) :: L => if f ≤ pc ∧ pc < t then (if (E, nm) ∈ ra_yes then some (some h) else if (E, nm) ∈ ra_no then ra_ct pc E L else none) else ra_ct pc E L
/-- athrow: the class of what is thrown -/
def ra_thr (ah : List ra_E) : Instr → Nat → List ra_V → Option String
  | .athrow, 1, (3, k, _) :: _ => match ra_hw ah k.toNat with
    | some (0, ci, _, _, _, _) => (vwCl[ci]?).map (fun r => r.1)
    | _ => none
  | _, _, _ => none
/-- an exception's object, made and not thrown at once -/
def ra_mk (M : ra_Mt) (pc : Nat) (al : List (Nat × ra_V)) (st : List ra_V) (ah : List ra_E) (ta : List FieldType) (a : ra_A) (ci fr lo : Nat) : ra_T := (pc + 7, al, (3, (ah.length : Int), 0) :: st, ah ++ [(0, ci, 0, (0, 0, 0), [], [])], ta, (a.1 + 1, a.2.1 + 6, max a.2.2.1 fr, max a.2.2.2 ((st.map ra_c).sum + lo)))
abbrev ra_Rc : Type := ra_Mt → Nat → List (Nat × ra_V) → List ra_V → List ra_E → List FieldType → ra_A → Option ra_Rs
/-- what is thrown at pc: to a handler, or out -/
def ra_thx (go : ra_Rc) (M : ra_Mt) (pc : Nat) (al : List (Nat × ra_V)) (E : String) (ah : List ra_E) (ta : List FieldType) (a : ra_A) : Option ra_Rs := match ra_ct pc E (ra_Mq M) with
  | some none => some ((2, (0, 0, 0), E), ah, ta, a)
  | some (some h) => go M h al [(8, 0, 0)] ah ta a
  | none => none
/-- behind a call -/
def ra_back (go : ra_Rc) (M : ra_Mt) (pc : Nat) (al : List (Nat × ra_V)) (st : List ra_V) (a : ra_A) (kd nL : Nat) : ra_Rs → Option ra_Rs
  | ((0, _, _), ah, ta, b) => go M (pc + 3) al st ah ta (ra_acc a b nL)
  | ((1, v, _), ah, ta, b) => go M (pc + 3) al (v :: st) ah ta (ra_acc a b nL)
  | ((k, _, E), ah, ta, b) => if k = 2 ∧ ¬ kd = 3 then ra_thx go M pc al E ah ta (ra_acc a b nL) else none
def ra_F (cd : ra_Cd) (P : List ra_Mt) (go : ra_Rc) (M : ra_Mt) (pc : Nat) (al : List (Nat × ra_V)) (st : List ra_V) (ah : List ra_E) (ta : List FieldType) (a : ra_A) : Option ra_Rs := match ra_find (ra_Mh M) pc with
  | some (0, E, fr, lo) => if ra_Mq M = [] then some ((2, (0, 0, 0), E), ah, ta, (a.1 + 1, a.2.1 + 6, max a.2.2.1 fr, max a.2.2.2 ((st.map ra_c).sum + lo))) else none
  | some (ci + 1, _, fr, lo) => match ra_mk M pc al st ah ta a ci fr lo with
    | (pc', al', st', ah', ta', a') => go M pc' al' st' ah' ta' a'
  | none => match decode (ra_Mc M) pc with
    | .ok (ig, len) => match ra_pre cd M pc al st ah ta a ig len with
      | some (pc', al', st', ah', ta', a') => go M pc' al' st' ah' ta' a'
      | none => match ra_ret M ig len st with
        | some r => some (r, ah, ta, a)
        | none => match ra_thr ah ig len st with
          | some E => ra_thx go M pc al E ah ta a
          | none => match ra_cal P M ah ig len st with
            | none => none
            | some (kd, M', as, st') => match go M' 0 (ra_args 0 as) [] ah ta (0, 0, 0, 0) with
              | none => none
              | some rs => ra_back go M pc al st' a kd (ra_Mn M') rs
    | _ => none
/-- the walk of a frame -/
def ra_run (cd : ra_Cd) (P : List ra_Mt) : Nat → ra_Rc
  | 0 => fun _ _ _ _ _ _ _ => none
  | n + 1 => ra_F cd P (ra_run cd P n)
/-- the word of a method's code -/
def ra_tab (M : ra_Mt) : List (Nat × Nat × Nat × Nat) := (ra_Mq M).map (fun q => (q.1, q.2.1, q.2.2.1, q.2.2.2.1))
def ra_cw (M : ra_Mt) : Cond := if ra_Mq M = [] then Cond.code (ra_My M) (ra_Mc M) (ra_Mn M) (ra_Mr M) else Cond.codeWith (ra_My M) (ra_Mc M) (ra_Mn M) (ra_Mr M) (ra_tab M)
/-- the links of calls: 8 n + 1 virtual, 8 n + 2 static, 8 n + 3 constructors, 8 n + 4 a nest mate's constructors, with n parameters -/
def ra_calok (P : List ra_Mt) (own : String) (q : Nat × Nat × Nat) : Prop := ∀ M', P[q.2.2]? = some M' → (q.2.1 % 8 = 1 ∨ q.2.1 % 8 = 2 ∨ q.2.1 % 8 = 3 ∨ q.2.1 % 8 = 4) →
  ((¬ q.2.1 % 8 = 4 → Cond.methodLink own q.1 (ra_My M') ∈ re_tbl) ∧ (q.2.1 % 8 = 4 → ∃ host, (own, q.1, ra_My M', host) ∈ ra_nsm)) ∧ Cond.initialized (ra_My M').cls ∈ re_tbl ∧ (q.2.1 % 8 = 1 → Cond.instanceMethod (ra_My M') ∈ re_tbl ∧ Cond.selects (ra_My M').cls (ra_My M') (ra_My M') ∈ re_tbl) ∧ (q.2.1 % 8 = 2 → Cond.static (ra_My M') ∈ re_tbl) ∧ (q.2.1 % 8 = 3 ∨ q.2.1 % 8 = 4 → Cond.instanceMethod (ra_My M') ∈ re_tbl ∧ (ra_My M').name = "<init>" ∧ ra_Mr M' = none ∧ ra_Mq M' = []) ∧
  ((ra_My M').cls ≠ "java/lang/invoke/MethodHandle" ∧ (ra_My M').cls ≠ "java/lang/invoke/VarHandle" ∧ (parseMethodDescriptor (ra_My M').desc).map (fun d => d.parameters.length) = some (q.2.1 / 8)) ∧ ra_cw M' ∈ re_tbl
def ra_Zok (Zf : (Nat → Prop) → State → Heap → Prop) : Prop := ∀ (A A' : Nat → Prop) (u U : State) (H H1 : Heap), Zf A u H → u.vm.Alike U.vm → (∀ q : Nat, q < H.size → ¬ A q → H1[q]? = H[q]?) → (∀ q, A' q → A q) → Zf A' U H1
/-- a place where something is made and thrown -/
def ra_thok (Zf : (Nat → Prop) → State → Heap → Prop) (M : ra_Mt) (q : Nat × Nat × String × Nat × Nat) : Prop := q.2.1 = 0 →
  ∀ (p : Program) (l : Launch) (e : Env) (R : Room) (s : State) (m : MethodId) (args : Array Value) (below : List Frame) (meth : Method) (c : Code) (H : Heap) (locs : List Loc) (cells slots : Nat) (ls : Array Slot) (rest : List Value) (D : va_G) (A : Nat → Prop) (wS : va_W) (Qc : Array Value → State → Outcome → State → Prop) (XC : String → State → State → Prop) (free : Addr → Prop) (x : Cond),
    p.tables.exec = Jvm.exec → c.code = ra_Mc M → l.stackTraces = false → s.vm.findClass (ra_My M).cls = some m.cls → (∀ w ∈ re_ws x, w.before args s = true) → Zf A s s.heap → ra_Sw D A s s.heap wS → va_S A s.heap H locs → ls.size = c.maxLocals → (∀ x ∈ c.exceptionTable.toList, False) → meth.locks = false → q.2.2.2.1 ≤ R.frames → (rest.map fun v => v.category).sum + q.2.2.2.2 ≤ R.locals → cells + 1 ≤ R.cells → slots + 6 ≤ R.slots →
    (∀ t : State, s.vm.Alike t.vm → H.size ≤ t.heap.size → (∀ k : Nat, k < H.size → t.heap[k]? = H[k]?) → XC q.2.2.1 s t) → (∀ z ∈ locs, free z.base) →
    W p l e R s m args below meth c H locs cells slots (vx_MQ below Qc XC args s (cells + 1) (slots + 6) free) (F0 m q.1 ls rest)
/-- a place where an exception's object is made -/
def ra_mkok (Zf : (Nat → Prop) → State → Heap → Prop) (M : ra_Mt) (q : Nat × Nat × String × Nat × Nat) : Prop := ∀ ci, q.2.1 = ci + 1 →
  ∀ (p : Program) (l : Launch) (e : Env) (R : Room) (s : State) (m : MethodId) (args : Array Value) (below : List Frame) (meth : Method) (c : Code) (H : Heap) (locs : List Loc) (cells slots : Nat) (Q : State → Prop) (ls : Array Slot) (rest : List Value) (D : va_G) (A : Nat → Prop) (tys : List (ClassId × FieldType)) (wS ws : va_W) (x : Cond),
    p.tables.exec = Jvm.exec → c.code = ra_Mc M → l.stackTraces = false → s.vm.findClass (ra_My M).cls = some m.cls → (∀ w ∈ re_ws x, w.before args s = true) → Zf A s s.heap → va_K D vwCl tys s → va_P D vwCl ws H → va_D A ws → va_S A s.heap H locs → ra_Sw D A s s.heap wS → (∀ q, s.heap.size ≤ q → A q) → ls.size = c.maxLocals → q.2.2.2.1 ≤ R.frames → (rest.map fun v => v.category).sum + q.2.2.2.2 ≤ R.locals → cells + 1 ≤ R.cells → slots + 6 ≤ R.slots →
    (∀ (a : Nat) (H1 : Heap), va_P D vwCl (ws ++ [(a, .inr (ci, []))]) H1 → va_D A (ws ++ [(a, .inr (ci, []))]) → va_S A s.heap H1 locs → W p l e R s m args below meth c H1 locs (cells + 1) (slots + 6) Q (F0 m (q.1 + 7) ls (.ref a :: rest))) →
    W p l e R s m args below meth c H locs cells slots Q (F0 m q.1 ls rest)
def ra_hok (M : ra_Mt) : Prop := ∀ q ∈ ra_Mq M, ¬ q.2.2.2.1 = 0 ∧ Cond.classLink (ra_My M).cls q.2.2.2.1 q.2.2.2.2 ∈ re_tbl
/-- a body without handlers, of a class that has native methods, but not this one -/
theorem ra_ofW {l : Launch} {y : MethodName} {ws ws' : List Cond} {rm : Room} {Pc : Array Value → State → Prop} {Qc : Array Value → State → Outcome → State → Prop} {XC : String → State → State → Prop} {mc ms : Nat} {free : Addr → Prop} {cc : ByteArray} {maxL : Nat} {ret : Option FieldType} (hy : plainFor y = true) (hw : ws = Cond.code y cc maxL ret :: ws')
    (body : ∀ p e s m args below meth c s₁, BodyLoose p l y (headSpec ws rm) cc maxL ret e s m args below meth c s₁ → c.maxLocals = maxL → (∀ x ∈ c.exceptionTable.toList, False) → Pc args s →
      W p l e (headSpec ws rm).room s m args below meth c s.heap [] 0 0 (vx_MQ below Qc XC args s mc ms free) (entryFrame m args maxL)) : vx_Met l y ws rm Pc Qc XC mc ms free := by
  have hin : Cond.code y cc maxL ret ∈ ws := by rw [hw]; exact List.mem_cons_self
  refine MetFree.of_bodySF (code := cc) (maxLocals := maxL) (ret := ret) hy (fun args s m h hn => ?_) (fun p e s m args below meth c s₁ B hml hP _ => ?_)
  · obtain ⟨meth, c, h1, h2, h3, h4, h5, h6, -, -⟩ := Cond.code_spec hn (atoms_spec (ws := ws) h _ hin)
    exact ⟨meth, c, h1, h2, h3, h4, h5, h6⟩
  · have hT : ∀ x ∈ c.exceptionTable.toList, False := fun x hx => by
      obtain ⟨m9, c9, h1, h2, -, -, -, -, h7, -⟩ := Cond.code_spec B.named (atoms_spec (ws := ws) B.pre _ hin)
      cases Option.some.inj (h1.symm.trans B.method)
      cases Option.some.inj (h2.symm.trans (Stand.of_body B).code)
      rw [Array.isEmpty_iff.mp h7] at hx
      cases hx
    obtain ⟨t, a, o, b1, b2, b3⟩ := body p e s m args below meth c s₁ B hml hT hP s₁ (by rw [B.state]; rfl) (Stand.of_body B)
    exact ⟨t, o, a, b1, b2, b3⟩
/-- and with handlers -/
theorem ra_ofWH {l : Launch} {y : MethodName} {ws ws' : List Cond} {rm : Room} {Pc : Array Value → State → Prop} {Qc : Array Value → State → Outcome → State → Prop} {XC : String → State → State → Prop} {mc ms : Nat} {free : Addr → Prop} {cc : ByteArray} {maxL : Nat} {ret : Option FieldType} {hh : List (Nat × Nat × Nat × Nat)} (hy : plainFor y = true) (hw : ws = Cond.codeWith y cc maxL ret hh :: ws')
    (body : ∀ p e s m args below meth c s₁, BodyLoose p l y (headSpec ws rm) cc maxL ret e s m args below meth c s₁ → c.maxLocals = maxL → Pc args s →
      W p l e (headSpec ws rm).room s m args below meth c s.heap [] 0 0 (vx_MQ below Qc XC args s mc ms free) (entryFrame m args maxL)) : vx_Met l y ws rm Pc Qc XC mc ms free := by
  refine MetFree.of_bodySF (code := cc) (maxLocals := maxL) (ret := ret) hy (fun args s m h hn => ?_) (fun p e s m args below meth c s₁ B hml hP _ => ?_)
  · obtain ⟨m9, meth, c, hn9, h1, h2, h3, h4, -, h5, h6, -⟩ := Cond.codeWith_spec (atoms_spec (ws := ws) h _ (by rw [hw]; exact List.mem_cons_self))
    cases hn.symm.trans hn9
    exact ⟨meth, c, h1, h2, h3, h4, h5, h6⟩
  · obtain ⟨t, a, o, b1, b2, b3⟩ := body p e s m args below meth c s₁ B hml hP s₁ (by rw [B.state]; rfl) (Stand.of_body B)
    exact ⟨t, o, a, b1, b2, b3⟩
def ra_Mall (cd : ra_Cd) (P : List ra_Mt) (Zf : (Nat → Prop) → State → Heap → Prop) (M : ra_Mt) : Prop := ra_Mok cd M ∧ ra_hok M ∧ (∀ q ∈ ra_Ml M, ra_calok P (ra_My M).cls q) ∧ plainFor (ra_My M) = true ∧ True ∧ ∀ q ∈ ra_Mh M, ra_thok Zf M q ∧ ra_mkok Zf M q
/-- the world behind a call -/
def ra_U (D : va_G) (wS : va_W) (A : Nat → Prop) (ad : List Nat) (tys : List (ClassId × FieldType)) (r : ra_Rs) (f : List Nat → Prop) (t : State) : Prop := ∃ (z : List Nat) (tz : List (ClassId × FieldType)) (ws : va_W), va_K D vwCl (tys ++ tz) t ∧ va_P D vwCl ws t.heap ∧ va_D A ws ∧ ra_G r.2.1 r.2.2.1 (ad ++ z) (tys ++ tz) (wS ++ ws) ∧ f (ad ++ z)
def ra_vOk (r : ra_Rs) (v : Option Value) (ad : List Nat) : Prop := (r.1.1 = 0 ∧ v = none) ∨ (r.1.1 = 1 ∧ ∃ w, v = some w ∧ ra_R ad r.1.2.1 w)
def ra_Qc (D : va_G) (wS : va_W) (A : Nat → Prop) (ad : List Nat) (tys : List (ClassId × FieldType)) (r : ra_Rs) : Array Value → State → Outcome → State → Prop := fun _ st oc t => (∃ v : Option Value, oc = .returned v ∧ ra_U D wS A ad tys r (ra_vOk r v) t) ∧ va_F A st t
def ra_XC (D : va_G) (wS : va_W) (A : Nat → Prop) (ad : List Nat) (tys : List (ClassId × FieldType)) (r : ra_Rs) : String → State → State → Prop := fun E st t => (E = r.1.2.2 ∧ r.1.1 = 2 ∧ ra_U D wS A ad tys r (fun _ => True) t) ∧ va_F A st t
def ra_Pc (D : va_G) (wS : va_W) (Zf : (Nat → Prop) → State → Heap → Prop) (vs : List Value) (ws : va_W) (tys : List (ClassId × FieldType)) (sz : Nat) : Array Value → State → Prop := va_Pc vs (fun U => U.heap.size = sz ∧ va_P D vwCl ws U.heap ∧ va_K D vwCl tys U ∧ va_D (fun _ => True) ws ∧ Zf (va_A ws sz) U U.heap ∧ ra_Sw D (va_A ws sz) U U.heap wS)
/-- what the frame's walk says of the machine -/
def ra_Good (cd : ra_Cd) (P : List ra_Mt) (Zf : (Nat → Prop) → State → Heap → Prop) (n : Nat) : Prop := ∀ (M : ra_Mt), M ∈ P → ∀ (pc : Nat) (al : List (Nat × ra_V)) (st : List ra_V) (ah : List ra_E) (ta : List FieldType) (a : ra_A) (r : ra_Rs), ra_run cd P n M pc al st ah ta a = some r → ra_le a r.2.2.2 ∧
  ∀ (p : Program) (l : Launch) (e : Env) (R : Room) (s : State) (m : MethodId) (args : Array Value) (below : List Frame) (meth : Method) (c : Code) (H : Heap) (locs : List Loc) (ls : Array Slot) (D : va_G) (A : Nat → Prop) (ad0 z : List Nat) (tys0 tz : List (ClassId × FieldType)) (wS ws : va_W) (x : Cond) (lv : List (Nat × Value)) (vs : List Value),
    ra_At p s m args meth c H s.heap locs ls D A ah ta (ad0 ++ z) (tys0 ++ tz) wS ws M x st vs → lv_has ls (ra_Mn M) lv → ra_L (ad0 ++ z) al lv → l.stackTraces = false → meth.locks = false → meth.sig.returnType = ra_Mr M → c.exceptionTable.toList = tableOf (ra_tab M) → Zf A s s.heap → ra_fits r.2.2.2 R →
    W p l e R s m args below meth c H locs a.1 a.2.1 (vx_MQ below (ra_Qc D wS A ad0 tys0 r) (ra_XC D wS A ad0 tys0 r) args s r.2.2.2.1 r.2.2.2.2.1 A) (F0 m pc ls vs)
/-- a method's contract out of its frame's walk -/
theorem ra_Met {cd : ra_Cd} {P : List ra_Mt} {Zf : (Nat → Prop) → State → Heap → Prop} {n : Nat} (hg : ra_Good cd P Zf n) {M : ra_Mt} (hMP : M ∈ P) (hM : ra_Mall cd P Zf M) {as : List ra_V} {ah : List ra_E} {ta : List FieldType} {r : ra_Rs} (h : ra_run cd P n M 0 (ra_args 0 as) [] ah ta (0, 0, 0, 0) = some r) (hn : (as.map ra_c).sum ≤ ra_Mn M)
    (l : Launch) (hlt : l.stackTraces = false) {D : va_G} {ad : List Nat} {tys : List (ClassId × FieldType)} {wS ws : va_W} {vs : List Value} (sz : Nat) (hG : ra_G ah ta ad tys (wS ++ ws)) (hS : ra_S ad as vs) :
    vx_Met l (ra_My M) (re_ws (ra_cw M)) ({ frames := r.2.2.2.2.2.1, cells := r.2.2.2.1, slots := r.2.2.2.2.1, locals := r.2.2.2.2.2.2 }) (ra_Pc D wS Zf vs ws tys sz) (ra_Qc D wS (va_A ws sz) ad tys r) (ra_XC D wS (va_A ws sz) ad tys r) r.2.2.2.1 r.2.2.2.2.1 (va_A ws sz) := by
  have body : ∀ p e s m args below meth c s₁, BodyLoose p l (ra_My M) (headSpec (re_ws (ra_cw M)) ({ frames := r.2.2.2.2.2.1, cells := r.2.2.2.1, slots := r.2.2.2.2.1, locals := r.2.2.2.2.2.2 })) (ra_Mc M) (ra_Mn M) (ra_Mr M) e s m args below meth c s₁ → c.maxLocals = ra_Mn M → c.exceptionTable.toList = tableOf (ra_tab M) → ra_Pc D wS Zf vs ws tys sz args s →
      W p l e ({ frames := r.2.2.2.2.2.1, cells := r.2.2.2.1, slots := r.2.2.2.2.1, locals := r.2.2.2.2.2.2 }) s m args below meth c s.heap [] 0 0 (vx_MQ below (ra_Qc D wS (va_A ws sz) ad tys r) (ra_XC D wS (va_A ws sz) ad tys r) args s r.2.2.2.1 r.2.2.2.2.1 (va_A ws sz)) (entryFrame m args (ra_Mn M)) := by
    intro p e s m args below meth c s₁ B hml htab hv
    obtain ⟨rfl, hsz, hP, hK, hD0, hZ, hW⟩ := hv
    have hts := atoms_spec (ws := re_ws (ra_cw M)) B.pre
    have hown : s.vm.findClass (ra_My M).cls = some m.cls := findClass_of_methodNamed B.named
    have hnm : meth.name = (ra_My M).name := (name_of_methodNamed B.named B.method).1
    subst hsz
    have hD := hD0.self (sz := s.heap.size)
    have hA : ∀ q : Nat, s.heap.size ≤ q → va_A ws s.heap.size q := fun q h => Or.inr h
    have hV : va_S (va_A ws s.heap.size) s.heap s.heap [] := va_S.rf
    have hlen : (lg_sl vs).length ≤ ra_Mn M := Nat.le_trans (ra_sl_len vs) (by rw [ra_S_sum hS]; exact hn)
    have hl := lv_entry vs (n := ra_Mn M) hlen
    rw [lg_entry_eq]
    have hsize : ((lg_sl vs ++ List.replicate (ra_Mn M - (lg_sl vs).length) Slot.unset).toArray).size = ra_Mn M := hl.1
    refine (hg M hMP 0 (ra_args 0 as) [] ah ta (0, 0, 0, 0) r h).2 p l e _ s m vs.toArray below meth c s.heap [] _ D (va_A ws s.heap.size) ad [] tys [] wS ws (ra_cw M) (lv_args 0 vs) [] ?_ hl (by rw [List.append_nil]; exact ra_args_L hS) hlt B.notSynchronized B.returns htab hZ ⟨Nat.le_refl _, Nat.le_refl _, Nat.le_refl _, Nat.le_refl _⟩
    rw [List.append_nil, List.append_nil]
    exact ⟨B.exec, B.bytes, by rw [hml, hsize], hnm, hts, hown, hA, hK, hP, hD, hV, hW, hG, trivial⟩
  by_cases hq : ra_Mq M = []
  · have hcw : ra_cw M = Cond.code (ra_My M) (ra_Mc M) (ra_Mn M) (ra_Mr M) := if_pos hq
    refine ra_ofW (cc := ra_Mc M) (maxL := ra_Mn M) (ret := ra_Mr M) (ws' := re_tbl) hM.2.2.2.1 (by rw [← hcw]; rfl) ?_
    intro p e s m args below meth c s₁ B hml htab hv
    refine body p e s m args below meth c s₁ B hml ?_ hv
    rw [show ra_tab M = [] by unfold ra_tab; rw [hq]; rfl]
    exact List.eq_nil_iff_forall_not_mem.mpr htab
  · have hcw : ra_cw M = Cond.codeWith (ra_My M) (ra_Mc M) (ra_Mn M) (ra_Mr M) (ra_tab M) := if_neg hq
    refine ra_ofWH (cc := ra_Mc M) (maxL := ra_Mn M) (ret := ra_Mr M) (hh := ra_tab M) (ws' := re_tbl) hM.2.2.2.1 (by rw [← hcw]; rfl) ?_
    intro p e s m args below meth c s₁ B hml hv
    refine body p e s m args below meth c s₁ B hml (vx_table B (x := ra_My M) (bytes := ra_Mc M) (maxL' := ra_Mn M) (ret' := ra_Mr M) ?_) hv
    exact atoms_spec (ws := re_ws (ra_cw M)) B.pre _ (by rw [← hcw]; exact List.mem_cons_self)
end RAB
