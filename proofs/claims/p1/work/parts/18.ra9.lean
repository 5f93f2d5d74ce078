section RA9
variable {p : Program} {l : Launch} {e : Env} {R : Room} {s : State} {m : MethodId} {args : Array Value} {below : List Frame} {meth : Method} {c : Code} {H H0 : Heap} {locs : List Loc} {cells slots : Nat} {Q : State → Prop} {pc : Nat} {ls : Array Slot}
variable {D : va_G} {A : Nat → Prop} {ah : List ra_E} {ta : List FieldType} {ad : List Nat} {tys : List (ClassId × FieldType)} {wS ws : va_W}
/-- a method: its name, its code, how many locals, what it returns, its handlers (from, to, where, entry, class), its fields and other links by their numbers in the class file, its numbers (ints by their entry, longs by their entry and 65536) -/
abbrev ra_Mt : Type := MethodName × ByteArray × Nat × Option FieldType × List (Nat × Nat × Nat × Nat × String) × List (Nat × Nat × Nat) × List (Nat × Nat × Nat) × List (Nat × Int) × List (Nat × Nat × String × Nat × Nat)
def ra_My (M : ra_Mt) : MethodName := M.1
def ra_Mc (M : ra_Mt) : ByteArray := M.2.1
def ra_Mn (M : ra_Mt) : Nat := M.2.2.1
def ra_Mr (M : ra_Mt) : Option FieldType := M.2.2.2.1
def ra_Mq (M : ra_Mt) : List (Nat × Nat × Nat × Nat × String) := M.2.2.2.2.1
def ra_Mf (M : ra_Mt) : List (Nat × Nat × Nat) := M.2.2.2.2.2.1
def ra_Ml (M : ra_Mt) : List (Nat × Nat × Nat) := M.2.2.2.2.2.2.1
def ra_Mk (M : ra_Mt) : List (Nat × Int) := M.2.2.2.2.2.2.2.1
/-- where it makes and throws (0), or makes (the class' place and 1), what: the class, frames, words of locals -/
def ra_Mh (M : ra_Mt) : List (Nat × Nat × String × Nat × Nat) := M.2.2.2.2.2.2.2.2
def ra_find {α : Type} : List (Nat × α) → Nat → Option α
  | [], _ => none
  | (i, a) :: L, k => if i = k then some a else ra_find L k
theorem ra_find_in {α : Type} : ∀ {L : List (Nat × α)} {k : Nat} {a : α}, ra_find L k = some a → (k, a) ∈ L
  | [], _, _, h => by cases h
  | (i, b) :: L, k, a, h => by
    unfold ra_find at h
    split at h
    · next e => subst e; cases h; exact List.mem_cons_self
    · exact List.mem_cons_of_mem _ (ra_find_in h)
abbrev ra_Cd : Type := Nat → Option (List (FieldType × Bool))
def ra_cdok (cd : ra_Cd) : Prop := ∀ ci fs, cd ci = some fs → ∃ (C : String) (T : u_T) (ty : Nat → FieldType), ra_Cok ci C T fs.length ty ∧ (∀ j, ¬ ty j = .float) ∧ ∀ k q, fs[k]? = some q → ty k = q.1 ∧ (T k).2.2.2 = q.2
theorem ra_dfs_eq {fs : List (FieldType × Bool)} {ty : Nat → FieldType} (h : ∀ k q, fs[k]? = some q → ty k = q.1) : fs.map (fun q => ra_df q.1) = ra_dfs ty fs.length := by
  apply List.ext_getElem?
  intro i
  unfold ra_dfs
  rw [List.getElem?_map, List.getElem?_map]
  rcases Nat.lt_or_ge i fs.length with hi | hi
  · rw [List.getElem?_eq_getElem hi, List.getElem?_range hi]
    simp only [Option.map_some]
    rw [h i fs[i] (List.getElem?_eq_getElem hi)]
  · rw [List.getElem?_eq_none hi, List.getElem?_eq_none (by simpa using hi)]
    rfl
/-- what is known of a field link and of the other links: 0 new, 5 new rows of references, 16 Object.<init>, 6 arraycopy, 7 and 8 static fields, 13 texts, 14 and 15 rows of rows, 21 rows of Object (kinds that are 1 to 4 mod 8 are calls) -/
def ra_fok (cd : ra_Cd) (own : String) (q : Nat × Nat × Nat) : Prop := ∃ (fs : List (FieldType × Bool)) (C : String) (T : u_T) (ty : Nat → FieldType), cd q.2.1 = some fs ∧ ra_Cok q.2.1 C T fs.length ty ∧ (∀ k z, fs[k]? = some z → ty k = z.1 ∧ (T k).2.2.2 = z.2) ∧ q.2.2 < fs.length ∧ ((T q.2.2).2.2.2 = true → (T q.2.2).1 = C) ∧ ra_fw own q.1 (T q.2.2)
def ra_lok (cd : ra_Cd) (own : String) (q : Nat × Nat × Nat) : Prop :=
  (q.2.1 = 0 → ∃ (fs : List (FieldType × Bool)) (C : String) (T : u_T) (ty : Nat → FieldType), cd q.2.2 = some fs ∧ ra_Cok q.2.2 C T fs.length ty ∧ (∀ j, ¬ ty j = .float) ∧ (∀ k z, fs[k]? = some z → ty k = z.1) ∧ Cond.classLink own q.1 C ∈ re_tbl ∧ Cond.instantiable C fs.length ∈ re_tbl ∧ Cond.initialized C ∈ re_tbl) ∧
  (q.2.1 = 5 → ∀ r, vwCl[q.2.2]? = some r → Cond.classLink own (q.1 - 65536) r.1 ∈ re_tbl ∧ FieldType.object r.1 ∈ ra_aov) ∧
  (q.2.1 = 16 → Cond.methodLink own q.1 objectInit ∈ re_tbl ∧ Cond.instanceMethod objectInit ∈ re_tbl ∧ Cond.code objectInit ⟨#[0xb1]⟩ 1 none ∈ re_tbl) ∧
  (q.2.1 = 6 → Cond.methodLink own q.1 arraycopyName ∈ re_tbl ∧ Cond.native arraycopyName ∈ re_tbl ∧ Cond.static arraycopyName ∈ re_tbl ∧ Cond.initialized "java/lang/System" ∈ re_tbl) ∧
  (q.2.1 = 7 → ∀ z, ra_stv[q.2.2]? = some z → Cond.fieldLink own (q.1 - 131072) z.1 z.2.1 z.2.2.1 ∈ re_tbl) ∧
  (q.2.1 = 8 → ∀ z, ra_stv[q.2.2]? = some z → ∃ host, (own, q.1 - 131072, z.1, z.2.1, z.2.2.1, host) ∈ ra_nsf) ∧
  (q.2.1 = 13 → ∀ z, ra_lit[q.2.2]? = some z → z.1 = own ∧ z.2.1 = q.1 - 196608) ∧
  (q.2.1 = 14 → Cond.classLink own (q.1 - 262144) ("[" ++ (FieldType.array .int).toString) ∈ re_tbl ∧ FieldType.array .int ∈ ra_aov) ∧
  (q.2.1 = 15 → Cond.classLink own (q.1 - 65536) (FieldType.array .byte).toString ∈ re_tbl ∧ FieldType.array .byte ∈ ra_aov) ∧
  (q.2.1 = 21 → Cond.classLink own (q.1 - 65536) "java/lang/Object" ∈ re_tbl ∧ FieldType.object "java/lang/Object" ∈ ra_aov)
def ra_Mok (cd : ra_Cd) (M : ra_Mt) : Prop := True ∧ (∀ q ∈ ra_Mf M, ra_fok cd (ra_My M).cls q) ∧ (∀ q ∈ ra_Ml M, ra_lok cd (ra_My M).cls q) ∧
  (∀ q ∈ ra_Mk M, (q.1 < 65536 → Cond.constant (ra_My M).cls q.1 (Int32.ofInt q.2) ∈ re_tbl) ∧ (65536 ≤ q.1 → Cond.constantLong (ra_My M).cls (q.1 - 65536) (Int64.ofInt q.2) ∈ re_tbl)) ∧
  (∀ t : FieldType, t = .byte ∨ t = .boolean ∨ t = .int ∨ t = .long ∨ t = .double → Cond.arrayClass t ∈ re_tbl)
abbrev ra_A : Type := Nat × Nat × Nat × Nat
/-- new rows of numbers -/
def ra_nar : ArrayType → Option (FieldType × Nat × ra_V)
  | .byte => some (.byte, 1, ra_k 0)
  | .boolean => some (.boolean, 1, ra_k 0)
  | .int => some (.int, 1, ra_k 0)
  | .long => some (.long, 2, ra_kl 0)
  | .double => some (.double, 4, (5, 0, 0))
  | _ => none
def ra_nel : ra_V → Option Nat
  | (0, lo, hi) => if lo = hi ∧ 0 ≤ lo ∧ lo ≤ 1000000 then some lo.toNat else none
  | _ => none
theorem ra_nel_R {a : ra_V} {v : Value} {N : Nat} (h : ra_nel a = some N) (hR : ra_R ad a v) : ∃ n : Int32, v = .int n ∧ ¬ n < 0 ∧ n.toNatClampNeg = N ∧ N ≤ 1000000 := by
  unfold ra_nel at h
  split at h
  · split at h
    · next q =>
      obtain ⟨x, rfl, h1, h2⟩ := hR
      cases h
      refine ⟨x, rfl, fun z => ?_, ?_, ?_⟩
      · have := Int32.lt_iff_toInt_lt.mp z; have e9 : (0 : Int32).toInt = 0 := rfl; omega
      · rw [ra_cln]; omega
      · omega
    · cases h
  · cases h
abbrev ra_O : Type := Option (Nat × List ra_V × List ra_E × List FieldType × ra_A)
def ra_xs (pc : Nat) (ah : List ra_E) (ta : List FieldType) (a : ra_A) : Option (List ra_V) → ra_O
  | some st' => some (pc, st', ah, ta, a)
  | none => none
def ra_xh (pc : Nat) (ta : List FieldType) (a : ra_A) : Option (List ra_E × List ra_V) → ra_O
  | some (ah', st') => some (pc, st', ah', ta, a)
  | none => none
theorem ra_xs_i {pc : Nat} {ta : List FieldType} {a : ra_A} {o : Option (List ra_V)} {r : Nat × List ra_V × List ra_E × List FieldType × ra_A} (h : ra_xs pc ah ta a o = some r) : ∃ st', o = some st' ∧ r = (pc, st', ah, ta, a) := by
  cases o with
  | none => cases h
  | some st' => exact ⟨st', rfl, (Option.some.inj h).symm⟩
theorem ra_xh_i {pc : Nat} {ta : List FieldType} {a : ra_A} {o : Option (List ra_E × List ra_V)} {r : Nat × List ra_V × List ra_E × List FieldType × ra_A} (h : ra_xh pc ta a o = some r) : ∃ ah' st', o = some (ah', st') ∧ r = (pc, st', ah', ta, a) := by
  cases o with
  | none => cases h
  | some q => exact ⟨q.1, q.2, rfl, (Option.some.inj h).symm⟩
def ra_xg (M : ra_Mt) (pc : Nat) (st : List ra_V) (ah : List ra_E) (ta : List FieldType) (a : ra_A) (i : Nat) : ra_O := match ra_find (ra_Mf M) i with
  | some (ci, k) => ra_xs (pc + 3) ah ta a (ra_gf ah ci k st)
  | none => none
def ra_own (M : ra_Mt) (ci : Nat) : Bool := decide ((ra_My M).name = "<init>") && decide ((vwCl[ci]?).map (fun r => r.1) = some (ra_My M).cls)
def ra_xp (cd : ra_Cd) (M : ra_Mt) (pc : Nat) (st : List ra_V) (ah : List ra_E) (ta : List FieldType) (a : ra_A) (i : Nat) : ra_O := match ra_find (ra_Mf M) i with
  | some (ci, k) => match (cd ci).bind (fun fs => fs[k]?) with
    | some (ty, fin) => if (!fin || ra_own M ci) = true then ra_xh (pc + 3) ta a (ra_pf ah ci k ty st) else none
    | none => none
  | none => none
def ra_xn (cd : ra_Cd) (M : ra_Mt) (pc : Nat) (st : List ra_V) (ah : List ra_E) (ta : List FieldType) (a : ra_A) (i : Nat) : ra_O := match ra_find (ra_Ml M) i with
  | some (0, ci) => match cd ci with
    | some fs => some (pc + 3, (3, (ah.length : Int), 0) :: st, ah ++ [(0, ci, 0, (0, 0, 0), [], fs.map (fun q => ra_df q.1))], ta, (a.1 + 1, a.2.1 + fs.length, a.2.2.1, a.2.2.2))
    | none => none
  | _ => none
def ra_xa (pc : Nat) (st : List ra_V) (ah : List ra_E) (ta : List FieldType) (a : ra_A) (t : ArrayType) : ra_O := match st with
  | x :: st => match ra_nar t, ra_nel x with
    | some (ty, tg, d), some N => some (pc + 2, (3, (ah.length : Int), 0) :: st, ah ++ [(tg, ta.length, N, d, [], [])], ta ++ [ty], (a.1 + 1, a.2.1 + N, a.2.2.1, a.2.2.2))
    | _, _ => none
  | [] => none
def ra_xq (M : ra_Mt) (pc : Nat) (st : List ra_V) (ah : List ra_E) (ta : List FieldType) (a : ra_A) (i : Nat) : ra_O := match st with
  | x :: st => match ra_find (ra_Ml M) (i + 65536), ra_nel x with
    | some (5, ci), some N => match vwCl[ci]? with
      | some r => some (pc + 3, (3, (ah.length : Int), 0) :: st, ah ++ [(3, ta.length, N, (4, 0, 0), [], [])], ta ++ [.object r.1], (a.1 + 1, a.2.1 + N, a.2.2.1, a.2.2.2))
      | none => none
    | some (15, _), some N => some (pc + 3, (3, (ah.length : Int), 0) :: st, ah ++ [(3, ta.length, N, (4, 0, 0), [], [])], ta ++ [.array .byte], (a.1 + 1, a.2.1 + N, a.2.2.1, a.2.2.2))
    | some (21, _), some N => some (pc + 3, (3, (ah.length : Int), 0) :: st, ah ++ [(3, ta.length, N, (4, 0, 0), [], [])], ta ++ [.object "java/lang/Object"], (a.1 + 1, a.2.1 + N, a.2.2.1, a.2.2.2))
    | _, _ => none
  | [] => none
def ra_xm (M : ra_Mt) (pc : Nat) (st : List ra_V) (ah : List ra_E) (ta : List FieldType) (a : ra_A) (i : Nat) : ra_O := match st with
  | y :: x :: st => match ra_find (ra_Ml M) (i + 262144), ra_nel y, ra_nel x with
    | some (14, _), some K, some N => if ta[ta.findIdx (fun t => decide (t = .int))]? = some .int then some (pc + 4, (3, (ah.length : Int), 0) :: st, ah ++ ((3, ta.length, N, (4, 0, 0), ra_mex (ah.length + 1) 0 N, []) :: (List.range N).map (fun _ => (1, ta.findIdx (fun t => decide (t = .int)), K, ra_k 0, [], []))), ta ++ [.array .int], (a.1 + (1 + N), a.2.1 + (N + N * K), a.2.2.1, a.2.2.2)) else none
    | _, _, _ => none
  | _ => none
def ra_xi (M : ra_Mt) (pc : Nat) (st : List ra_V) (ah : List ra_E) (ta : List FieldType) (a : ra_A) (i : Nat) : ra_O := match st with
  | (3, _, _) :: st => match ra_find (ra_Ml M) i with
    | some (16, _) => some (pc + 3, st, ah, ta, (a.1, a.2.1, max a.2.2.1 1, max a.2.2.2 ((st.map ra_c).sum + 12)))
    | _ => none
  | _ => none
def ra_xc (M : ra_Mt) (pc : Nat) (st : List ra_V) (ah : List ra_E) (ta : List FieldType) (a : ra_A) (i : Nat) : ra_O := match ra_find (ra_Ml M) i with
  | some (6, _) => match ra_copy ah ta st with
    | some (ah', st') => some (pc + 3, st', ah', ta, (a.1, a.2.1, max a.2.2.1 1, max a.2.2.2 ((st'.map ra_c).sum + (nativeFrameWords "java/lang/System" "arraycopy" 5 + 11))))
    | none => none
  | _ => none
def ra_xk (M : ra_Mt) (pc : Nat) (st : List ra_V) (ah : List ra_E) (ta : List FieldType) (a : ra_A) (i : Nat) : ra_O := match (if i < 65536 then ra_find (ra_Mk M) i else none) with
  | some v => some (pc + 2, ra_k (Int32.ofInt v) :: st, ah, ta, a)
  | none => none
def ra_xK (M : ra_Mt) (pc : Nat) (st : List ra_V) (ah : List ra_E) (ta : List FieldType) (a : ra_A) (i : Nat) : ra_O := match ra_find (ra_Mk M) (i + 65536) with
  | some v => some (pc + 3, ra_kl (Int64.ofInt v) :: st, ah, ta, a)
  | none => none
def ra_xG (M : ra_Mt) (pc : Nat) (st : List ra_V) (ah : List ra_E) (ta : List FieldType) (a : ra_A) (i : Nat) : ra_O := match ra_find (ra_Ml M) (i + 131072) with
  | some (k, j) => if k = 7 ∨ k = 8 then (match ra_stv[j]? with
    | some z => some (pc + 3, z.2.2.2 :: st, ah, ta, a)
    | none => none) else none
  | none => none
def ra_xl (M : ra_Mt) (pc : Nat) (st : List ra_V) (ah : List ra_E) (ta : List FieldType) (a : ra_A) (i : Nat) : ra_O := match ra_find (ra_Ml M) (i + 196608) with
  | some (13, j) => match ra_lit[j]? with
    | some z => some (pc + 2, (3, (z.2.2.2 : Int), 0) :: st, ah, ta, a)
    | none => none
  | _ => none
def ra_xL (M : ra_Mt) (pc : Nat) (st : List ra_V) (ah : List ra_E) (ta : List FieldType) (a : ra_A) (i : Nat) : ra_O := match ra_xk M pc st ah ta a i with
  | some r => some r
  | none => ra_xl M pc st ah ta a i
/-- what one instruction does, but for calls and ends -/
def ra_0s (cd : ra_Cd) (M : ra_Mt) (pc : Nat) (st : List ra_V) (ah : List ra_E) (ta : List FieldType) (a : ra_A) : Instr → Nat → ra_O
  | .getfield i, 3 => ra_xg M pc st ah ta a i
  | .putfield i, 3 => ra_xp cd M pc st ah ta a i
  | .new i, 3 => ra_xn cd M pc st ah ta a i
  | .newarray t, 2 => ra_xa pc st ah ta a t
  | .anewarray i, 3 => ra_xq M pc st ah ta a i
  | .multianewarray i 2, 4 => ra_xm M pc st ah ta a i
  | .aastore, 1 => ra_xh (pc + 1) ta a (ra_aas ah ta st)
  | .ldc i, 2 => ra_xL M pc st ah ta a i
  | .getstatic i, 3 => ra_xG M pc st ah ta a i
  | .ldc2_w i, 3 => ra_xK M pc st ah ta a i
  | .invokespecial i, 3 => ra_xi M pc st ah ta a i
  | .invokestatic i, 3 => ra_xc M pc st ah ta a i
  | _, _ => none
/-- the cells that are only read -/
def ra_Sw (D : va_G) (A : Nat → Prop) (s : State) (H0 : Heap) (wS : va_W) : Prop := (∀ (k : Nat) (q : Nat × va_E), wS[k]? = some q → ra_qt D vwCl s q H0) ∧ (∀ (k : Nat) (q : Nat × va_E), wS[k]? = some q → ¬ A q.1) ∧ wS.length = ra_S0 ∧ ra_Sx A s H0 (wS.map (fun q => q.1))
theorem ra_inH {D : va_G} {cl : List vw_C} {ws : va_W} {H : Heap} {k : Nat} {q : Nat × va_E} (h : va_P D cl ws H) (hk : ws[k]? = some q) : q.1 < H.size := by
  obtain ⟨a, en⟩ := q
  have h1 := h k _ hk
  cases en with
  | inl x => exact (Array.getElem?_eq_some_iff.mp (show H[a]? = some _ from h1)).1
  | inr o => obtain ⟨r, h2, cell, g1, -⟩ := h1; exact (Array.getElem?_eq_some_iff.mp g1).1
theorem ra_Pall (hW : ra_Sw D A s H0 wS) (hV : va_S A H0 H locs) (hP : va_P D vwCl ws H) : ra_Pq D vwCl s (wS ++ ws) H := by
  intro k q hq
  rcases Nat.lt_or_ge k wS.length with h | h
  · rw [List.getElem?_append_left h] at hq
    exact Or.inr ((hW.1 k q hq).kept (hV.2.1 _ (hW.1 k q hq).lt (hW.2.1 k q hq)))
  · rw [List.getElem?_append_right h] at hq
    exact Or.inl (hP _ q hq)
/-- what stands at a place of the walk -/
def ra_At (p : Program) (s : State) (m : MethodId) (args : Array Value) (meth : Method) (c : Code) (H H0 : Heap) (locs : List Loc) (ls : Array Slot) (D : va_G) (A : Nat → Prop) (ah : List ra_E) (ta : List FieldType) (ad : List Nat) (tys : List (ClassId × FieldType)) (wS ws : va_W) (M : ra_Mt) (x : Cond) (st : List ra_V) (vs : List Value) : Prop :=
  p.tables.exec = Jvm.exec ∧ c.code = ra_Mc M ∧ c.maxLocals = ls.size ∧ meth.name = (ra_My M).name ∧ (∀ w ∈ re_ws x, w.before args s = true) ∧ s.vm.findClass (ra_My M).cls = some m.cls ∧ (∀ q, H0.size ≤ q → A q) ∧ va_K D vwCl tys s ∧ va_P D vwCl ws H ∧ va_D A ws ∧ va_S A H0 H locs ∧ ra_Sw D A s H0 wS ∧ ra_G ah ta ad tys (wS ++ ws) ∧ ra_S ad st vs
/-- where the walk goes on -/
def ra_Ko (p : Program) (l : Launch) (e : Env) (R : Room) (s : State) (m : MethodId) (args : Array Value) (below : List Frame) (meth : Method) (c : Code) (H0 : Heap) (Q : State → Prop) (ls : Array Slot) (D : va_G) (A : Nat → Prop) (ad : List Nat) (tys : List (ClassId × FieldType)) (wS : va_W) (r : Nat × List ra_V × List ra_E × List FieldType × ra_A) : Prop :=
  ∀ (H1 : Heap) (locs1 : List Loc) (z : List Nat) (tz : List (ClassId × FieldType)) (ws1 : va_W) (vs1 : List Value), va_K D vwCl (tys ++ tz) s → va_P D vwCl ws1 H1 → va_D A ws1 → va_S A H0 H1 locs1 → ra_G r.2.2.1 r.2.2.2.1 (ad ++ z) (tys ++ tz) (wS ++ ws1) → ra_S (ad ++ z) r.2.1 vs1 → W p l e R s m args below meth c H1 locs1 r.2.2.2.2.1 r.2.2.2.2.2.1 Q (F0 m r.1 ls vs1)
def ra_fits (a : ra_A) (R : Room) : Prop := a.1 ≤ R.cells ∧ a.2.1 ≤ R.slots ∧ a.2.2.1 ≤ R.frames ∧ a.2.2.2 ≤ R.locals
theorem ra_Ko0 {r : Nat × List ra_V × List ra_E × List FieldType × ra_A} (hK : va_K D vwCl tys s) (kk : ra_Ko p l e R s m args below meth c H0 Q ls D A ad tys wS r) : ∀ (H1 : Heap) (locs1 : List Loc) (ws1 : va_W) (vs1 : List Value), va_P D vwCl ws1 H1 → va_D A ws1 → va_S A H0 H1 locs1 → ra_G r.2.2.1 r.2.2.2.1 ad tys (wS ++ ws1) → ra_S ad r.2.1 vs1 → W p l e R s m args below meth c H1 locs1 r.2.2.2.2.1 r.2.2.2.2.2.1 Q (F0 m r.1 ls vs1) :=
  fun H1 locs1 ws1 vs1 h1 h2 h3 h4 h5 => kk H1 locs1 [] [] ws1 vs1 (by rw [List.append_nil]; exact hK) h1 h2 h3 (by rw [List.append_nil, List.append_nil]; exact h4) (by rw [List.append_nil]; exact h5)
section X
variable {cd : ra_Cd} {M : ra_Mt} {x : Cond} {st : List ra_V} {vs : List Value} {i : Nat} {a : ra_A} {r : Nat × List ra_V × List ra_E × List FieldType × ra_A}
theorem ra_xg_W (hM : ra_Mok cd M) (h0 : ra_At p s m args meth c H H0 locs ls D A ah ta ad tys wS ws M x st vs) (hdg : decode (ra_Mc M) pc = .ok (.getfield i, 3)) (h : ra_xg M pc st ah ta a i = some r) (kk : ra_Ko p l e R s m args below meth c H0 Q ls D A ad tys wS r) : W p l e R s m args below meth c H locs a.1 a.2.1 Q (F0 m pc ls vs) := by
  obtain ⟨hx, hb, hml, hnm, hts, hown, hA, hK, hP, hD, hV, hW, hG, hS⟩ := h0
  unfold ra_xg at h
  split at h
  · next ci k hf =>
    obtain ⟨st1, hgf, rfl⟩ := ra_xs_i h
    have k0 := ra_Ko0 hK kk
    dsimp only at k0
    obtain ⟨fs, C, T, ty, h1, h2, h3, h4, h6, h5⟩ := hM.2.1 _ (ra_find_in hf)
    exact ra_gf_W hx hb hts hown hK (ra_Pall hW hV hP) hG hS h2 h4 h5 hdg hgf (fun vs1 h9 => k0 _ _ _ _ hP hD hV hG h9)
  · cases h
theorem ra_xp_W (hM : ra_Mok cd M) (h0 : ra_At p s m args meth c H H0 locs ls D A ah ta ad tys wS ws M x st vs) (hdg : decode (ra_Mc M) pc = .ok (.putfield i, 3)) (h : ra_xp cd M pc st ah ta a i = some r) (kk : ra_Ko p l e R s m args below meth c H0 Q ls D A ad tys wS r) : W p l e R s m args below meth c H locs a.1 a.2.1 Q (F0 m pc ls vs) := by
  obtain ⟨hx, hb, hml, hnm, hts, hown, hA, hK, hP, hD, hV, hW, hG, hS⟩ := h0
  unfold ra_xp at h
  split at h
  · next ci k hf =>
    split at h
    · next ty fin hty =>
      split at h
      · next hfi =>
        obtain ⟨ah1, st1, hpf, rfl⟩ := ra_xh_i h
        have k0 := ra_Ko0 hK kk
        dsimp only at k0
        obtain ⟨fs, C, T, tyf, h1, h2, h3, h4, h6, h5⟩ := hM.2.1 _ (ra_find_in hf)
        dsimp only at h1 h2 h3 h4 h6 h5
        rw [h1] at hty
        obtain ⟨t1, t2⟩ := h3 k _ hty
        dsimp only at t1 t2
        rw [← t1] at hpf
        refine ra_pf_W hx hb hts hown hK hP hD hV hW.2.2.1 hG hS h2 h4 h5 ?_ hdg hpf k0
        cases hfb : fin with
        | false => exact Or.inl (t2.trans hfb)
        | true =>
          rw [hfb] at hfi
          have hfi : ra_own M ci = true := by simpa using hfi
          unfold ra_own at hfi
          rw [Bool.and_eq_true, decide_eq_true_eq, decide_eq_true_eq, h2.1] at hfi
          exact Or.inr ⟨hnm.trans hfi.1, (h6 (t2.trans hfb)).trans (Option.some.inj hfi.2)⟩
      · cases h
    · cases h
  · cases h
theorem ra_xn_W (hM : ra_Mok cd M) (h0 : ra_At p s m args meth c H H0 locs ls D A ah ta ad tys wS ws M x st vs) (hdg : decode (ra_Mc M) pc = .ok (.new i, 3)) (h : ra_xn cd M pc st ah ta a i = some r) (hR : ra_fits r.2.2.2.2 R) (kk : ra_Ko p l e R s m args below meth c H0 Q ls D A ad tys wS r) : W p l e R s m args below meth c H locs a.1 a.2.1 Q (F0 m pc ls vs) := by
  obtain ⟨hx, hb, hml, hnm, hts, hown, hA, hK, hP, hD, hV, hW, hG, hS⟩ := h0
  unfold ra_xn at h
  split at h
  · next ci hf =>
    split at h
    · next fs hfs =>
      cases h
      obtain ⟨fs2, C, T, ty, h1, h2, h3, h4, h5, h6, h7⟩ := (hM.2.2.1 _ (ra_find_in hf)).1 rfl
      dsimp only at h1 h2 h3 h4 h5 h6 h7
      have e9 : fs2 = fs := Option.some.inj (h1.symm.trans hfs)
      subst e9
      rw [ra_dfs_eq h4] at kk
      exact ra_new_W hx hb hts hown hK hP hD hV hA hW.2.2.1 hG hS h2 h3 h5 h6 h7 hR.1 hR.2.1 hdg (fun q H1 ws' vs' hP1 hD1 hV1 hG1 hS1 => kk H1 locs [q] [] ws' vs' (by rw [List.append_nil]; exact hK) hP1 hD1 hV1 (by rw [List.append_nil]; exact hG1) hS1)
    · cases h
  · cases h
theorem ra_xa_W {t : ArrayType} (hM : ra_Mok cd M) (h0 : ra_At p s m args meth c H H0 locs ls D A ah ta ad tys wS ws M x st vs) (hdg : decode (ra_Mc M) pc = .ok (.newarray t, 2)) (h : ra_xa pc st ah ta a t = some r) (hR : ra_fits r.2.2.2.2 R) (kk : ra_Ko p l e R s m args below meth c H0 Q ls D A ad tys wS r) : W p l e R s m args below meth c H locs a.1 a.2.1 Q (F0 m pc ls vs) := by
  obtain ⟨hx, hb, hml, hnm, hts, hown, hA, hK, hP, hD, hV, hW, hG, hS⟩ := h0
  unfold ra_xa at h
  split at h
  · split at h
    · next ty tg d N h1 h2 =>
      cases h
      obtain ⟨v, vs1, rfl, r1, hS1⟩ := ra_S_cons hS
      obtain ⟨n, rfl, n1, n2, n3⟩ := ra_nel_R h2 r1
      unfold ra_nar at h1
      split at h1
      · cases h1
        exact ra_newa_W (a0 := (N, .inl (fun _ => 0))) (ty := .byte) (e1 := (1, ta.length, N, ra_k 0, [], [])) hx hb hts hK hP hD hV hA hW.2.2.1 hG hS1 rfl (hM.2.2.2.2 _ (by simp)) (fun _ => rfl) (fun ad2 cA => ⟨cA, _, .byte, rfl, by rw [ra_G_nt hG]; simp, fun _ j _ => rfl, fun j _ => ra_R_k 0⟩) n1 n2 (by show N * 1 ≤ _; omega) hR.1 hR.2.1 hdg
          (fun q cA H1 ws' vs' hK1 hP1 hD1 hV1 hG1 hS2 => kk H1 locs [q] [(cA, .byte)] ws' vs' hK1 hP1 hD1 hV1 hG1 hS2)
      · cases h1
        exact ra_newa_W (a0 := (N, .inl (fun _ => 0))) (ty := .boolean) (e1 := (1, ta.length, N, ra_k 0, [], [])) hx hb hts hK hP hD hV hA hW.2.2.1 hG hS1 rfl (hM.2.2.2.2 _ (by simp)) (fun _ => rfl) (fun ad2 cA => ⟨cA, _, .boolean, rfl, by rw [ra_G_nt hG]; simp, fun z => (by cases z), fun j _ => ra_R_k 0⟩) n1 n2 (by show N * 1 ≤ _; omega) hR.1 hR.2.1 hdg
          (fun q cA H1 ws' vs' hK1 hP1 hD1 hV1 hG1 hS2 => kk H1 locs [q] [(cA, .boolean)] ws' vs' hK1 hP1 hD1 hV1 hG1 hS2)
      · cases h1
        exact ra_newa_W (a0 := (N, .inl (fun _ => 0))) (ty := .int) (e1 := (1, ta.length, N, ra_k 0, [], [])) hx hb hts hK hP hD hV hA hW.2.2.1 hG hS1 rfl (hM.2.2.2.2 _ (by simp)) (fun _ => rfl) (fun ad2 cA => ⟨cA, _, .int, rfl, by rw [ra_G_nt hG]; simp, fun z => (by cases z), fun j _ => ra_R_k 0⟩) n1 n2 (by show N * 4 ≤ _; omega) hR.1 hR.2.1 hdg
          (fun q cA H1 ws' vs' hK1 hP1 hD1 hV1 hG1 hS2 => kk H1 locs [q] [(cA, .int)] ws' vs' hK1 hP1 hD1 hV1 hG1 hS2)
      · cases h1
        exact ra_newa_W (a0 := (N, .inr (.inl (fun _ => 0)))) (ty := .long) (e1 := (2, ta.length, N, ra_kl 0, [], [])) hx hb hts hK hP hD hV hA hW.2.2.1 hG hS1 rfl (hM.2.2.2.2 _ (by simp)) (fun _ => rfl) (fun ad2 cA => ⟨cA, _, .long, rfl, by rw [ra_G_nt hG]; simp, fun j _ => ra_R_kl 0⟩) n1 n2 (by show N * 8 ≤ _; omega) hR.1 hR.2.1 hdg
          (fun q cA H1 ws' vs' hK1 hP1 hD1 hV1 hG1 hS2 => kk H1 locs [q] [(cA, .long)] ws' vs' hK1 hP1 hD1 hV1 hG1 hS2)
      · cases h1
        exact ra_newa_W (a0 := (N, .inr (.inr (.inr (.inl (fun _ => 0)))))) (ty := .double) (e1 := (4, ta.length, N, (5, 0, 0), [], [])) hx hb hts hK hP hD hV hA hW.2.2.1 hG hS1 rfl (hM.2.2.2.2 _ (by simp)) (fun _ => rfl) (fun ad2 cA => ⟨cA, _, .double, rfl, by rw [ra_G_nt hG]; simp, fun j _ => rfl⟩) n1 n2 (by show N * 8 ≤ _; omega) hR.1 hR.2.1 hdg
          (fun q cA H1 ws' vs' hK1 hP1 hD1 hV1 hG1 hS2 => kk H1 locs [q] [(cA, .double)] ws' vs' hK1 hP1 hD1 hV1 hG1 hS2)
      · cases h1
    · cases h
  · cases h
theorem ra_xq_W (hM : ra_Mok cd M) (h0 : ra_At p s m args meth c H H0 locs ls D A ah ta ad tys wS ws M x st vs) (hdg : decode (ra_Mc M) pc = .ok (.anewarray i, 3)) (h : ra_xq M pc st ah ta a i = some r) (hR : ra_fits r.2.2.2.2 R) (kk : ra_Ko p l e R s m args below meth c H0 Q ls D A ad tys wS r) : W p l e R s m args below meth c H locs a.1 a.2.1 Q (F0 m pc ls vs) := by
  obtain ⟨hx, hb, hml, hnm, hts, hown, hA, hK, hP, hD, hV, hW, hG, hS⟩ := h0
  unfold ra_xq at h
  split at h
  · split at h
    · next ci N h1 h2 =>
      split at h
      · next r hr =>
        cases h
        obtain ⟨v, vs1, rfl, r1, hS1⟩ := ra_S_cons hS
        obtain ⟨n, rfl, n1, n2, n3⟩ := ra_nel_R h2 r1
        obtain ⟨w1, w2⟩ := (hM.2.2.1 _ (ra_find_in h1)).2.1 rfl r hr
        rw [Nat.add_sub_cancel] at w1
        exact ra_newq_W hx hb hts hown hK hP hD hV hA hW.2.2.1 hG hS1 w1 (hW.2.2.2.2.2.2.2.2.2.2 _ w2) n1 n2 (by omega) hR.1 hR.2.1 hdg
          (fun q cA H1 ws' vs' hK1 hP1 hD1 hV1 hG1 hS2 => kk H1 locs [q] [(cA, .object r.1)] ws' vs' hK1 hP1 hD1 hV1 hG1 hS2)
      · cases h
    · next N h1 h2 =>
      cases h
      obtain ⟨v, vs1, rfl, r1, hS1⟩ := ra_S_cons hS
      obtain ⟨n, rfl, n1, n2, n3⟩ := ra_nel_R h2 r1
      obtain ⟨w1, w2⟩ := (hM.2.2.1 _ (ra_find_in h1)).2.2.2.2.2.2.2.2.1 rfl
      rw [Nat.add_sub_cancel] at w1
      exact ra_newr_W hx hb hts hown hK hP hD hV hA hG hS1 w1 (hW.2.2.2.2.2.2.2.2.2.2 _ w2) n1 n2 (by omega) hR.1 hR.2.1 hdg
        (fun q cA H1 ws' vs' hK1 hP1 hD1 hV1 hG1 hS2 => kk H1 locs [q] [(cA, .array .byte)] ws' vs' hK1 hP1 hD1 hV1 hG1 hS2)
    · next N h1 h2 =>
      cases h
      obtain ⟨v, vs1, rfl, r1, hS1⟩ := ra_S_cons hS
      obtain ⟨n, rfl, n1, n2, n3⟩ := ra_nel_R h2 r1
      obtain ⟨w1, w2⟩ := (hM.2.2.1 _ (ra_find_in h1)).2.2.2.2.2.2.2.2.2 rfl
      rw [Nat.add_sub_cancel] at w1
      exact ra_newq_W hx hb hts hown hK hP hD hV hA hW.2.2.1 hG hS1 w1 (hW.2.2.2.2.2.2.2.2.2.2 _ w2) n1 n2 (by omega) hR.1 hR.2.1 hdg
        (fun q cA H1 ws' vs' hK1 hP1 hD1 hV1 hG1 hS2 => kk H1 locs [q] [(cA, .object "java/lang/Object")] ws' vs' hK1 hP1 hD1 hV1 hG1 hS2)
    · cases h
  · cases h
theorem ra_xm_W (hM : ra_Mok cd M) (h0 : ra_At p s m args meth c H H0 locs ls D A ah ta ad tys wS ws M x st vs) (hdg : decode (ra_Mc M) pc = .ok (.multianewarray i 2, 4)) (h : ra_xm M pc st ah ta a i = some r) (hR : ra_fits r.2.2.2.2 R) (kk : ra_Ko p l e R s m args below meth c H0 Q ls D A ad tys wS r) : W p l e R s m args below meth c H locs a.1 a.2.1 Q (F0 m pc ls vs) := by
  obtain ⟨hx, hb, hml, hnm, hts, hown, hA, hK, hP, hD, hV, hW, hG, hS⟩ := h0
  unfold ra_xm at h
  split at h
  · split at h
    · next N K h1 h2 h3 =>
      split at h
      · next ht =>
        cases h
        obtain ⟨v, vs1, rfl, r1, hS1⟩ := ra_S_cons hS
        obtain ⟨v2, vs2, rfl, r2, hS2⟩ := ra_S_cons hS1
        obtain ⟨k, rfl, n1, n2, n3⟩ := ra_nel_R h2 r1
        obtain ⟨n, rfl, m1, m2, m3⟩ := ra_nel_R h3 r2
        obtain ⟨w1, w2⟩ := (hM.2.2.1 _ (ra_find_in h1)).2.2.2.2.2.2.2.1 rfl
        rw [Nat.add_sub_cancel] at w1
        exact ra_mna_W hx hb hts hown hK hP hD hV hA hG hS2 w1 (hW.2.2.2.2.2.2.2.2.2.2 _ w2) (hM.2.2.2.2 _ (by simp)) ht m1 n1 m2 n2 m3 n3 hR.1 hR.2.1 hdg
          (fun z cA H1 locs1 ws' vs' hK1 hP1 hD1 hV1 hG1 hS9 => kk H1 locs1 z [(cA, .array .int)] ws' vs' hK1 hP1 hD1 hV1 hG1 hS9)
      · cases h
    · cases h
  · cases h
theorem ra_xk_W (hM : ra_Mok cd M) (h0 : ra_At p s m args meth c H H0 locs ls D A ah ta ad tys wS ws M x st vs) (hdg : decode (ra_Mc M) pc = .ok (.ldc i, 2)) (h : ra_xk M pc st ah ta a i = some r) (kk : ra_Ko p l e R s m args below meth c H0 Q ls D A ad tys wS r) : W p l e R s m args below meth c H locs a.1 a.2.1 Q (F0 m pc ls vs) := by
  obtain ⟨hx, hb, hml, hnm, hts, hown, hA, hK, hP, hD, hV, hW, hG, hS⟩ := h0
  unfold ra_xk at h
  split at h
  · next v hv =>
    split at hv
    · next hi =>
      cases h
      have k0 := ra_Ko0 hK kk
      dsimp only at k0
      have hw : Cond.constant (ra_My M).cls i (Int32.ofInt v) ∈ re_tbl := (hM.2.2.2.1 _ (ra_find_in hv)).1 hi
      have hs : ra_S ad (ra_k (Int32.ofInt v) :: st) (.int (Int32.ofInt v) :: vs) := ⟨ra_R_k _, hS⟩
      exact lv_ldc hx hb hown (re_hts hw hts) hdg (k0 H locs ws (.int (Int32.ofInt v) :: vs) hP hD hV hG hs)
    · cases hv
  · cases h
theorem ra_xK_W (hM : ra_Mok cd M) (h0 : ra_At p s m args meth c H H0 locs ls D A ah ta ad tys wS ws M x st vs) (hdg : decode (ra_Mc M) pc = .ok (.ldc2_w i, 3)) (h : ra_xK M pc st ah ta a i = some r) (kk : ra_Ko p l e R s m args below meth c H0 Q ls D A ad tys wS r) : W p l e R s m args below meth c H locs a.1 a.2.1 Q (F0 m pc ls vs) := by
  obtain ⟨hx, hb, hml, hnm, hts, hown, hA, hK, hP, hD, hV, hW, hG, hS⟩ := h0
  unfold ra_xK at h
  split at h
  · next v hv =>
    cases h
    have k0 := ra_Ko0 hK kk
    dsimp only at k0
    have hw := (hM.2.2.2.1 _ (ra_find_in hv)).2 (Nat.le_add_left _ _)
    dsimp only at hw
    rw [Nat.add_sub_cancel] at hw
    have hs : ra_S ad (ra_kl (Int64.ofInt v) :: st) (.long (Int64.ofInt v) :: vs) := ⟨ra_R_kl _, hS⟩
    exact lv_ldc2 hx hb hown (re_hts hw hts) hdg (k0 H locs ws (.long (Int64.ofInt v) :: vs) hP hD hV hG hs)
  · cases h
theorem ra_xi_W (hM : ra_Mok cd M) (h0 : ra_At p s m args meth c H H0 locs ls D A ah ta ad tys wS ws M x st vs) (hdg : decode (ra_Mc M) pc = .ok (.invokespecial i, 3)) (h : ra_xi M pc st ah ta a i = some r) (hR : ra_fits r.2.2.2.2 R) (kk : ra_Ko p l e R s m args below meth c H0 Q ls D A ad tys wS r) : W p l e R s m args below meth c H locs a.1 a.2.1 Q (F0 m pc ls vs) := by
  obtain ⟨hx, hb, hml, hnm, hts, hown, hA, hK, hP, hD, hV, hW, hG, hS⟩ := h0
  unfold ra_xi at h
  split at h
  · split at h
    · next hf =>
      cases h
      have k0 := ra_Ko0 hK kk
      dsimp only at k0
      obtain ⟨v, vs1, rfl, ⟨q, -, rfl⟩, hS1⟩ := ra_S_cons hS
      obtain ⟨w1, w2, w3⟩ := (hM.2.2.1 _ (ra_find_in hf)).2.2.1 rfl
      have b1 := hR.2.2.1
      have b2 := hR.2.2.2
      dsimp only at b1 b2
      refine W.objInit hx hb hown (re_hts w1 hts) (re_hts w2 hts) (re_hts w3 hts) rfl hml.symm rfl hdg (by omega) ?_ (k0 _ _ _ _ hP hD hV hG hS1)
      rw [ra_S_sum hS1]
      show 2 * 0 + _ + 12 ≤ R.locals
      omega
    · cases h
  · cases h
theorem ra_xc_W (hM : ra_Mok cd M) (h0 : ra_At p s m args meth c H H0 locs ls D A ah ta ad tys wS ws M x st vs) (hdg : decode (ra_Mc M) pc = .ok (.invokestatic i, 3)) (h : ra_xc M pc st ah ta a i = some r) (hR : ra_fits r.2.2.2.2 R) (kk : ra_Ko p l e R s m args below meth c H0 Q ls D A ad tys wS r) : W p l e R s m args below meth c H locs a.1 a.2.1 Q (F0 m pc ls vs) := by
  obtain ⟨hx, hb, hml, hnm, hts, hown, hA, hK, hP, hD, hV, hW, hG, hS⟩ := h0
  unfold ra_xc at h
  split at h
  · next hf =>
    split at h
    · next ah1 st1 hc =>
      cases h
      have k0 := ra_Ko0 hK kk
      dsimp only at k0
      obtain ⟨w1, w2, w3, w4⟩ := (hM.2.2.1 _ (ra_find_in hf)).2.2.2.1 rfl
      have b1 := hR.2.2.1
      have b2 := hR.2.2.2
      dsimp only at b1 b2
      exact ra_copy_W hx hb hml hts hown hK hP hD hV hW.2.2.1 hG hS w1 w2 w3 w4 (by omega) (by omega) hdg hc k0
    · cases h
  · cases h
theorem ra_xl_W (hM : ra_Mok cd M) (h0 : ra_At p s m args meth c H H0 locs ls D A ah ta ad tys wS ws M x st vs) (hdg : decode (ra_Mc M) pc = .ok (.ldc i, 2)) (h : ra_xl M pc st ah ta a i = some r) (kk : ra_Ko p l e R s m args below meth c H0 Q ls D A ad tys wS r) : W p l e R s m args below meth c H locs a.1 a.2.1 Q (F0 m pc ls vs) := by
  obtain ⟨hx, hb, hml, hnm, hts, hown, hA, hK, hP, hD, hV, hW, hG, hS⟩ := h0
  unfold ra_xl at h
  split at h
  · next j hf =>
    split at h
    · next z hz =>
      cases h
      have k0 := ra_Ko0 hK kk
      dsimp only at k0
      obtain ⟨w1, w2⟩ := (hM.2.2.1 _ (ra_find_in hf)).2.2.2.2.2.2.1 rfl z hz
      rw [Nat.add_sub_cancel] at w2
      obtain ⟨q, h2, h3⟩ := hW.2.2.2.2.1 z (List.mem_of_getElem? hz)
      rw [w1, w2] at h2
      refine va_ldcS hx hb hown h2 hdg (k0 _ _ _ (.ref q :: vs) hP hD hV hG ⟨⟨q, ?_, rfl⟩, hS⟩)
      rw [← hG.1, List.map_append]
      exact ra_gl h3
    · cases h
  · cases h
theorem ra_xG_W (hM : ra_Mok cd M) (h0 : ra_At p s m args meth c H H0 locs ls D A ah ta ad tys wS ws M x st vs) (hdg : decode (ra_Mc M) pc = .ok (.getstatic i, 3)) (h : ra_xG M pc st ah ta a i = some r) (kk : ra_Ko p l e R s m args below meth c H0 Q ls D A ad tys wS r) : W p l e R s m args below meth c H locs a.1 a.2.1 Q (F0 m pc ls vs) := by
  obtain ⟨hx, hb, hml, hnm, hts, hown, hA, hK, hP, hD, hV, hW, hG, hS⟩ := h0
  unfold ra_xG at h
  split at h
  · next k j hf =>
    split at h
    · next hkj =>
      split at h
      · next z hz =>
        cases h
        have k0 := ra_Ko0 hK kk
        dsimp only at k0
        obtain ⟨v, h2, h3⟩ := hW.2.2.2.1 z (List.mem_of_getElem? hz)
        have hR : ra_R ad z.2.2.2 v := by rw [← hG.1, List.map_append]; exact ra_R_app h3
        have k1 := k0 _ _ _ (v :: vs) hP hD hV hG ⟨hR, hS⟩
        obtain ⟨cf, kf, fi, f, a1, cell, g1, g2, g3, g4, g5, g6, g7, g8⟩ := h2
        have g5' : H[a1]? = some cell := by rw [hV.2.1 a1 (Array.getElem?_eq_some_iff.mp g5).1 g8]; exact g5
        rcases hkj with rfl | rfl
        · have w1 := (hM.2.2.1 _ (ra_find_in hf)).2.2.2.2.1 rfl z hz
          rw [Nat.add_sub_cancel] at w1
          exact W.gets hx hb hown (re_hts w1 hts) g1 g2 g3 g4 g5' (fun e => by rw [e] at g6; cases g6) g7 rfl hdg k1
        · obtain ⟨host, w1⟩ := (hM.2.2.1 _ (ra_find_in hf)).2.2.2.2.2.1 rfl z hz
          rw [Nat.add_sub_cancel] at w1
          exact va_WgetsN hx hb hown (va_Nw.use rfl (hW.2.2.2.2.2.1 _ w1)) g1 g2 g3 g4 g5' (fun e => by rw [e] at g6; cases g6) g7 rfl hdg k1
      · cases h
    · cases h
  · cases h
theorem ra_0s_W {ig : Instr} {len : Nat} (hM : ra_Mok cd M) (h0 : ra_At p s m args meth c H H0 locs ls D A ah ta ad tys wS ws M x st vs) (hdg : decode (ra_Mc M) pc = .ok (ig, len)) (h : ra_0s cd M pc st ah ta a ig len = some r) (hR : ra_fits r.2.2.2.2 R) (kk : ra_Ko p l e R s m args below meth c H0 Q ls D A ad tys wS r) : W p l e R s m args below meth c H locs a.1 a.2.1 Q (F0 m pc ls vs) := by
  unfold ra_0s at h
  split at h
  · exact ra_xg_W hM h0 hdg h kk
  · exact ra_xp_W hM h0 hdg h kk
  · exact ra_xn_W hM h0 hdg h hR kk
  · exact ra_xa_W hM h0 hdg h hR kk
  · exact ra_xq_W hM h0 hdg h hR kk
  · exact ra_xm_W hM h0 hdg h hR kk
  · obtain ⟨ah1, st1, haa, rfl⟩ := ra_xh_i h
    obtain ⟨hx, hb, hml, hnm, hts, hown, hA, hK, hP, hD, hV, hW, hG, hS⟩ := h0
    have k0 := ra_Ko0 hK kk
    dsimp only at k0
    exact ra_aas_W hW.2.2.2.2.2.2.2.1 hx hb hK hP hD hV hW.2.2.1 hG hS hdg haa k0
  · unfold ra_xL at h
    split at h
    · next q => cases h; exact ra_xk_W hM h0 hdg q kk
    · exact ra_xl_W hM h0 hdg h kk
  · exact ra_xG_W hM h0 hdg h kk
  · exact ra_xK_W hM h0 hdg h kk
  · exact ra_xi_W hM h0 hdg h hR kk
  · exact ra_xc_W hM h0 hdg h hR kk
  · cases h
end X
end RA9
