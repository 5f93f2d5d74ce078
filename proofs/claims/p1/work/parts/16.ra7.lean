section RA7
variable {p : Program} {l : Launch} {e : Env} {R : Room} {s : State} {m : MethodId} {args : Array Value} {below : List Frame} {meth : Method} {c : Code} {H H0 : Heap} {locs : List Loc} {cells slots : Nat} {Q : State → Prop} {cc : ByteArray} {pc : Nat} {ls : Array Slot} {rest : List Value}
variable {D : va_G} {A : Nat → Prop} {ah : List ra_E} {ta : List FieldType} {ad : List Nat} {tys : List (ClassId × FieldType)} {ws : va_W}
theorem ra_S_get {ad : List Nat} : ∀ {st : List ra_V} {vs : List Value} {k : Nat} {a : ra_V}, ra_S ad st vs → st[k]? = some a → ∃ v, vs[k]? = some v ∧ ra_R ad a v
  | [], _, _, _, _, h => by simp at h
  | _ :: _, [], _, _, hW, _ => hW.elim
  | e :: ah, q :: ws, 0, e', hW, h => by simp at h; subst h; exact ⟨q, rfl, hW.1⟩
  | e :: ah, q :: ws, k + 1, e', hW, h => by simpa using ra_S_get (k := k) hW.2 (by simpa using h)
theorem ra_S_set {ad : List Nat} : ∀ {st : List ra_V} {vs : List Value} {k : Nat} {a : ra_V} {v : Value}, ra_S ad st vs → ra_R ad a v → ra_S ad (st.set k a) (vs.set k v)
  | [], [], _, _, _, _, _ => trivial
  | [], _ :: _, _, _, _, hW, _ => hW.elim
  | _ :: _, [], _, _, _, hW, _ => hW.elim
  | _ :: _, _ :: _, 0, _, _, hW, h => ⟨h, hW.2⟩
  | _ :: _, _ :: _, k + 1, _, _, hW, h => ⟨hW.1, ra_S_set (k := k) hW.2 h⟩
theorem ra_S_len {ad : List Nat} : ∀ {st : List ra_V} {vs : List Value}, ra_S ad st vs → st.length = vs.length
  | [], [], _ => rfl
  | [], _ :: _, hW => hW.elim
  | _ :: _, [], hW => hW.elim
  | _ :: _, _ :: _, hW => by simp [ra_S_len hW.2]
theorem ra_S_app2 {ad : List Nat} : ∀ {st st2 : List ra_V} {vs vs2 : List Value}, ra_S ad st vs → ra_S ad st2 vs2 → ra_S ad (st ++ st2) (vs ++ vs2)
  | [], _, [], _, _, h => h
  | [], _, _ :: _, _, hW, _ => hW.elim
  | _ :: _, _, [], _, hW, _ => hW.elim
  | _ :: _, _, _ :: _, _, hW, h => ⟨hW.1, ra_S_app2 hW.2 h⟩
/-- a value that a field of a type may hold -/
def ra_fit : FieldType → ra_V → Bool
  | .int, (0, _, _) => true
  | .boolean, (0, lo, hi) => decide (0 ≤ lo ∧ hi ≤ 1)
  | .long, (1, _, _) => true
  | .long, (2, _, _) => true
  | .double, (5, _, _) => true
  | .object _, (3, _, _) => true
  | .object _, (4, _, _) => true
  | .array _, (3, _, _) => true
  | .array _, (4, _, _) => true
  | _, _ => false
theorem ra_fit_R {ty : FieldType} {a : ra_V} {v : Value} (h : ra_fit ty a = true) (hR : ra_R ad a v) : narrow ty v = v ∧ fits ty v = true := by
  unfold ra_fit at h
  split at h
  · obtain ⟨x, rfl, -⟩ := hR; exact ⟨rfl, rfl⟩
  · obtain ⟨x, rfl, h1, h2⟩ := hR
    have h3 := of_decide_eq_true h
    have : x = 0 ∨ x = 1 := by
      rcases (show x.toInt = 0 ∨ x.toInt = 1 by omega) with q | q
      · exact Or.inl (Int32.toInt_inj.mp q)
      · exact Or.inr (Int32.toInt_inj.mp q)
    rcases this with rfl | rfl <;> exact ⟨rfl, rfl⟩
  · have e2 : v = .long _ := hR
    subst e2; exact ⟨rfl, rfl⟩
  · obtain ⟨x, rfl⟩ := hR; exact ⟨rfl, rfl⟩
  · have e2 : v = .double _ := hR
    subst e2; exact ⟨rfl, rfl⟩
  · obtain ⟨x, -, rfl⟩ := hR; exact ⟨rfl, rfl⟩
  · have e2 : v = .null := hR
    subst e2; exact ⟨rfl, rfl⟩
  · obtain ⟨x, -, rfl⟩ := hR; exact ⟨rfl, rfl⟩
  · have e2 : v = .null := hR
    subst e2; exact ⟨rfl, rfl⟩
  · cases h
/-- what a class is known by: its place in vwCl, its words, its types -/
def ra_Cok (ci : Nat) (C : String) (T : u_T) (N : Nat) (ty : Nat → FieldType) : Prop := vwCl[ci]? = some (C, T, N) ∧ (∀ w ∈ u_ws C T N, w ∈ re_tbl) ∧ (∀ k, k < N → parseFieldDescriptor (T k).2.2.1 = some (ty k)) ∧ ∀ a, a < N → ∀ b, b < N → a ≠ b → (T a).2.1 ≠ (T b).2.1
def ra_gf (ah : List ra_E) (ci k : Nat) : List ra_V → Option (List ra_V)
  | (3, q, _) :: st => match ah[q.toNat]? with
    | some (0, ci', _, _, _, fs) => if ci' = ci then (match fs[k]? with
      | some a => some (a :: st)
      | none => none) else none
    | _ => none
  | _ => none
/-- a field's link, also under the name of a class that inherits the field -/
def ra_fw (own : String) (i : Nat) (f : String × String × String × Bool) : Prop := ∃ ref, Cond.fieldLink own i ref f.2.1 f.2.2.1 ∈ re_tbl ∧ (ref = f.1 ∨ Cond.sameField ref f.1 f.2.1 f.2.2.1 ∈ re_tbl)
theorem ra_fsame {x0 : Cond} {args : Array Value} {s : State} {ref o nm d : String} (h : ref = o ∨ Cond.sameField ref o nm d ∈ re_tbl) (hts : ∀ w ∈ re_ws x0, w.before args s = true) : ∀ x, s.fieldFound? o nm d = some x → s.fieldFound? ref nm d = some x := by
  rcases h with rfl | h
  · exact fun _ h9 => h9
  · exact u_same (re_hts h hts)
theorem ra_gf_W {x : Cond} {own C : String} {T : u_T} {N ci k index : Nat} {ty : Nat → FieldType} {st st' : List ra_V} {vs : List Value} (hx : p.tables.exec = Jvm.exec) (hb : c.code = cc) (hts : ∀ w ∈ re_ws x, w.before args s = true) (hown : s.vm.findClass own = some m.cls) (hK : va_K D vwCl tys s) (hP : ra_Pq D vwCl s ws H) (hG : ra_G ah ta ad tys ws) (hS : ra_S ad st vs)
    (hC : ra_Cok ci C T N ty) (hk : k < N) (hl0 : ra_fw own index (T k)) (hdg : decode cc pc = .ok (.getfield index, 3)) (h : ra_gf ah ci k st = some st')
    (kk : ∀ vs', ra_S ad st' vs' → W p l e R s m args below meth c H locs cells slots Q (F0 m (pc + 3) ls vs')) : W p l e R s m args below meth c H locs cells slots Q (F0 m pc ls vs) := by
  obtain ⟨ref, hl, hsm⟩ := hl0
  unfold ra_gf at h
  split at h
  · split at h
    · next hc =>
      split at h
      · next ei =>
        subst ei
        split at h
        · next a ha =>
          cases h
          obtain ⟨v, vs1, rfl, h1, hS1⟩ := ra_S_cons hS
          obtain ⟨q, en, rfl, hw, hH⟩ := ra_cell hG h1 hc
          obtain ⟨fs, rfl, hf⟩ := hH
          obtain ⟨v, hv, hR⟩ := ra_S_get hf ha
          exact rz_get hx hb hts (fun w h => List.mem_cons_of_mem _ (hC.2.1 w h)) hown hK hP _ hw hC.1 k hk (re_hts hl hts) (ra_fsame hsm hts) hv hdg (kk _ ⟨hR, hS1⟩)
        · cases h
      · cases h
    · cases h
  · cases h
def ra_pf (ah : List ra_E) (ci k : Nat) (ty : FieldType) : List ra_V → Option (List ra_E × List ra_V)
  | a :: (3, q, _) :: st => match ra_hw ah q.toNat with
    | some (0, ci', n, d, ex, fs) => if ci' = ci ∧ ra_fit ty a = true ∧ k < fs.length then some (ah.set q.toNat (0, ci', n, d, ex, fs.set k a), st) else none
    | _ => none
  | _ => none
theorem ra_pf_W {wS : va_W} {x : Cond} {own C : String} {T : u_T} {N ci k index : Nat} {ty : Nat → FieldType} {ah' : List ra_E} {st st' : List ra_V} {vs : List Value} (hx : p.tables.exec = Jvm.exec) (hb : c.code = cc) (hts : ∀ w ∈ re_ws x, w.before args s = true) (hown : s.vm.findClass own = some m.cls) (hK : va_K D vwCl tys s) (hP : va_P D vwCl ws H) (hD : va_D A ws) (hV : va_S A H0 H locs) (hS0 : wS.length = ra_S0) (hG : ra_G ah ta ad tys (wS ++ ws)) (hS : ra_S ad st vs)
    (hC : ra_Cok ci C T N ty) (hk : k < N) (hl0 : ra_fw own index (T k)) (hfin : (T k).2.2.2 = false ∨ (meth.name = "<init>" ∧ (T k).1 = own)) (hdg : decode cc pc = .ok (.putfield index, 3)) (h : ra_pf ah ci k (ty k) st = some (ah', st'))
    (kk : ∀ (H1 : Heap) (locs1 : List Loc) (ws' : va_W) (vs' : List Value), va_P D vwCl ws' H1 → va_D A ws' → va_S A H0 H1 locs1 → ra_G ah' ta ad tys (wS ++ ws') → ra_S ad st' vs' → W p l e R s m args below meth c H1 locs1 cells slots Q (F0 m (pc + 3) ls vs')) : W p l e R s m args below meth c H locs cells slots Q (F0 m pc ls vs) := by
  obtain ⟨ref, hl, hsm⟩ := hl0
  unfold ra_pf at h
  split at h
  · split at h
    · next hc =>
      split at h
      · next q3 =>
        obtain ⟨rfl, hft, hlen⟩ := q3
        cases h
        obtain ⟨v, vs1, rfl, h1, hS1⟩ := ra_S_cons hS
        obtain ⟨w, vs2, rfl, h2, hS2⟩ := ra_S_cons hS1
        obtain ⟨q, en, rfl, hw, hle, hH⟩ := ra_cellW hS0 hG h2 hc
        obtain ⟨fs, rfl, hf⟩ := hH
        obtain ⟨n1, n2⟩ := ra_fit_R hft h1
        have hlen2 : k < fs.length := by rw [← ra_S_len hf]; exact hlen
        cases hb4 : (T k).2.2.2 with
        | false => exact va_put hx hb hts (fun w h => List.mem_cons_of_mem _ (hC.2.1 w h)) ty hC.2.2.1 hC.2.2.2 hown hK hP hD hV _ hw hC.1 k hk (re_hts hl hts) (ra_fsame hsm hts) hb4 (hC.2.2.1 k hk) n1 n2 hlen2 hdg (fun H1 locs1 hP1 hD1 hV1 => kk H1 locs1 _ _ hP1 hD1 hV1 (ra_G_setW hG hle hw ⟨_, rfl, ra_S_set hf h1⟩) hS2)
        | true =>
          have hi : meth.name = "<init>" ∧ (T k).1 = own := hfin.elim (fun z => absurd (hb4.symm.trans z) (by decide)) id
          exact va_putF hx hb hts (fun w h => List.mem_cons_of_mem _ (hC.2.1 w h)) ty hC.2.2.1 hC.2.2.2 hown hK hP hD hV _ hw hC.1 k hk (re_hts hl hts) (ra_fsame hsm hts) hb4 hi.1 hi.2 (hC.2.2.1 k hk) n1 n2 hlen2 hdg (fun H1 locs1 hP1 hD1 hV1 => kk H1 locs1 _ _ hP1 hD1 hV1 (ra_G_setW hG hle hw ⟨_, rfl, ra_S_set hf h1⟩) hS2)
      · cases h
    · cases h
  · cases h
/-- new objects -/
def ra_df : FieldType → ra_V
  | .long => ra_kl 0
  | .float => (9, 0, 0)
  | .double => (5, 0, 0)
  | .object _ => (4, 0, 0)
  | .array _ => (4, 0, 0)
  | _ => ra_k 0
def ra_dfs (ty : Nat → FieldType) (N : Nat) : List ra_V := (List.range N).map (fun j => ra_df (ty j))
theorem ra_df_R {ty : FieldType} (h : ¬ ty = .float) : ra_R ad (ra_df ty) (defaultValue ty) := by
  cases ty <;> first | exact ra_R_k 0 | exact ra_R_kl 0 | rfl | exact absurd rfl h
theorem ra_dfs_R {ty : Nat → FieldType} (h : ∀ j, ¬ ty j = .float) : ∀ (L : List Nat), ra_S ad (L.map (fun j => ra_df (ty j))) (L.map (fun j => defaultValue (ty j)))
  | [] => trivial
  | j :: L => ⟨ra_df_R (h j), ra_dfs_R h L⟩
theorem ra_new_W {wS : va_W} {x : Cond} {own C : String} {T : u_T} {N ci index : Nat} {ty : Nat → FieldType} {st : List ra_V} {vs : List Value} (hx : p.tables.exec = Jvm.exec) (hb : c.code = cc) (hts : ∀ w ∈ re_ws x, w.before args s = true) (hown : s.vm.findClass own = some m.cls) (hK : va_K D vwCl tys s) (hP : va_P D vwCl ws H) (hD : va_D A ws) (hV : va_S A H0 H locs) (hA : ∀ q, H0.size ≤ q → A q) (hS0 : wS.length = ra_S0) (hG : ra_G ah ta ad tys (wS ++ ws)) (hS : ra_S ad st vs)
    (hC : ra_Cok ci C T N ty) (hnf : ∀ j, ¬ ty j = .float) (h1 : Cond.classLink own index C ∈ re_tbl) (h2 : Cond.instantiable C N ∈ re_tbl) (h3 : Cond.initialized C ∈ re_tbl) (hc1 : cells + 1 ≤ R.cells) (hc2 : slots + N ≤ R.slots) (hdg : decode cc pc = .ok (.new index, 3))
    (kk : ∀ (q : Nat) (H1 : Heap) (ws' : va_W) (vs' : List Value), va_P D vwCl ws' H1 → va_D A ws' → va_S A H0 H1 locs → ra_G (ah ++ [(0, ci, 0, (0, 0, 0), [], ra_dfs ty N)]) ta (ad ++ [q]) tys (wS ++ ws') → ra_S (ad ++ [q]) ((3, (ah.length : Int), 0) :: st) vs' → W p l e R s m args below meth c H1 locs (cells + 1) (slots + N) Q (F0 m (pc + 3) ls vs')) : W p l e R s m args below meth c H locs cells slots Q (F0 m pc ls vs) := by
  refine va_new hx hb hts (fun w h => List.mem_cons_of_mem _ (hC.2.1 w h)) ty hC.2.2.1 hown (re_hts h1 hts) (re_hts h2 hts) (re_hts h3 hts) hK hP hD hV hA hC.1 (fs := (List.range N).map (fun j => defaultValue (ty j))) (fun j hj => by simp [vp_V, List.getD, hj]) hc1 hc2 hdg (fun q H1 hP1 hD1 hV1 => ?_)
  have hG1 := ra_G_newW hG (q := q) (en := .inr (ci, (List.range N).map (fun j => defaultValue (ty j)))) (e := (0, ci, 0, (0, 0, 0), [], ra_dfs ty N)) [] ⟨_, rfl, ra_dfs_R hnf _⟩
  simp only [List.map_nil, List.append_nil] at hG1
  refine kk q H1 _ _ hP1 hD1 hV1 hG1 ⟨?_, ra_S_app hS⟩
  rw [ra_G_len hG]
  exact ra_new_R ad q 0
/-- new rows -/
theorem ra_newa_W {wS : va_W} {atype : ArrayType} {ty : FieldType} {x : Cond} {n : Int32} {N' : Nat} {st : List ra_V} {vs : List Value} {e1 : ra_E} {a0 : vp_A} (hx : p.tables.exec = Jvm.exec) (hb : c.code = cc) (hts : ∀ w ∈ re_ws x, w.before args s = true) (hK : va_K D vwCl tys s) (hP : va_P D vwCl ws H) (hD : va_D A ws) (hV : va_S A H0 H locs) (hA : ∀ q, H0.size ≤ q → A q) (hS0 : wS.length = ra_S0) (hG : ra_G ah ta ad tys (wS ++ ws)) (hS : ra_S ad st vs)
    (hty : newarray.typeOf atype = ty) (harr : Cond.arrayClass ty ∈ re_tbl) (ha : ∀ cA : ClassId, vp_cell cA a0 = arrV cA N' (fun _ => defaultValue ty)) (he : ∀ (ad2 : List Nat) (cA : ClassId), ra_H ad2 (tys ++ [(cA, ty)]) e1 (.inl (cA, a0))) (hn : ¬ n < 0) (hN : n.toNatClampNeg = N') (hbytes : N' * componentBytes ty ≤ 536870912) (hc1 : cells + 1 ≤ R.cells) (hc2 : slots + N' ≤ R.slots) (hdg : decode cc pc = .ok (.newarray atype, 2))
    (kk : ∀ (q : Nat) (cA : ClassId) (H1 : Heap) (ws' : va_W) (vs' : List Value), va_K D vwCl (tys ++ [(cA, ty)]) s → va_P D vwCl ws' H1 → va_D A ws' → va_S A H0 H1 locs → ra_G (ah ++ [e1]) (ta ++ [ty]) (ad ++ [q]) (tys ++ [(cA, ty)]) (wS ++ ws') → ra_S (ad ++ [q]) ((3, (ah.length : Int), 0) :: st) vs' → W p l e R s m args below meth c H1 locs (cells + 1) (slots + N') Q (F0 m (pc + 2) ls vs')) : W p l e R s m args below meth c H locs cells slots Q (F0 m pc ls (.int n :: vs)) := by
  subst hty
  refine va_newa (atype := atype) hx hb (re_hts harr hts) rfl hK hP hD hV hA ha hn hN hbytes hc1 hc2 hdg (fun q cA H1 hK1 hP1 hD1 hV1 => ?_)
  have hG1 := ra_G_newW hG (q := q) (en := .inl (cA, a0)) (e := e1) [(cA, newarray.typeOf atype)] (he _ cA)
  refine kk q cA H1 _ _ hK1 hP1 hD1 hV1 hG1 ⟨?_, ra_S_app hS⟩
  rw [ra_G_len hG]
  exact ra_new_R ad q 0
/-- the class of rows of this type stands -/
def ra_Ao (t : FieldType) (U : State) : Prop := (Cond.arrayOver t).before #[] U = true
theorem ra_Ao.use {t : FieldType} {A : Array Value} {U : State} (h : ra_Ao t U) : (Cond.arrayOver t).before A U = true := h
theorem ra_Ao_spec {t : FieldType} {s : State} (h : ra_Ao (.array t) s) : ∃ comp c k, s.vm.findClass (FieldType.array t).toString = some comp ∧ (s.vm.classes.findIdx? fun (x : Class) => match x.kind with | .array component _ => component == comp | _ => false) = some c ∧ s.vm.classes[c]? = some k ∧ k.kind = .array comp (.array t) ∧ s.vm.findClass ("[" ++ (FieldType.array t).toString) = some c := by
  unfold ra_Ao Cond.before Cond.holds at h
  simp only [Cond.value, beq_iff_eq] at h
  cases hc : s.vm.findClass (FieldType.array t).toString with
  | none => simp [hc] at h
  | some comp =>
    simp only [hc, Option.bind_some, Option.bind_eq_some_iff, Option.map_eq_some_iff] at h
    obtain ⟨c, hi, k, hk, hb⟩ := h
    obtain ⟨hlt, hp, -⟩ := Array.findIdx?_eq_some_iff_getElem.mp hi
    have hkk : s.vm.classes[c] = k := (Array.getElem?_eq_some_iff.mp hk).2
    rw [hkk] at hp
    cases hkind : k.kind with
    | array component ty =>
      rw [hkind] at hb hp
      simp at hb hp
      exact ⟨comp, c, k, rfl, hi, hk, by rw [hkind, hp, hb.1], hb.2⟩
    | _ => rw [hkind] at hb; simp at hb
theorem ra_Ao.moved {t : FieldType} {u U : State} (hvm : u.vm.Alike U.vm) (h : ra_Ao t u) : ra_Ao t U := by
  cases t with
  | object C => exact va_AO.moved hvm h
  | array t =>
    obtain ⟨comp, c, k, h1, h2, h3, h4, h5⟩ := ra_Ao_spec h
    obtain ⟨k', hk', he⟩ := hvm.2.2 _ _ h3
    have hi : (U.vm.classes.findIdx? fun (x : Class) => match x.kind with | .array component _ => component == comp | _ => false) = some c := by
      have e : U.vm.bare = u.vm.bare := by first | exact hvm.bare_eq | exact hvm.bare_eq.symm
      refine (va_idx_bare U.vm comp).symm.trans ?_
      rw [e]
      exact (va_idx_bare u.vm comp).trans h2
    have hkind : k'.kind = .array comp (.array t) := by rw [he]; exact h4
    have f1 : U.vm.findClass (FieldType.array t).toString = some comp := by rw [hvm.findClass]; exact h1
    have f2 : U.vm.findClass ("[" ++ (FieldType.array t).toString) = some c := by rw [hvm.findClass]; exact h5
    unfold ra_Ao Cond.before Cond.holds
    simp only [Cond.value]
    rw [f1, Option.bind_some]
    refine (congrArg (fun o : Option Nat => (o.bind (fun c => (U.vm.classes[c]?).map fun (k : Class) => match k.kind with | .array _ ty => decide (ty = FieldType.array t) && decide (U.vm.findClass ("[" ++ (FieldType.array t).toString) = some c) | _ => false) == some true)) hi).trans ?_
    simp [hk', hkind, f2]
  | _ => exact absurd (show (none : Option Bool) == some true from h) (by decide)
theorem ra_newq_W {wS : va_W} {x : Cond} {own C : String} {index : Nat} {n : Int32} {N' : Nat} {st : List ra_V} {vs : List Value} (hx : p.tables.exec = Jvm.exec) (hb : c.code = cc) (hts : ∀ w ∈ re_ws x, w.before args s = true) (hown : s.vm.findClass own = some m.cls) (hK : va_K D vwCl tys s) (hP : va_P D vwCl ws H) (hD : va_D A ws) (hV : va_S A H0 H locs) (hA : ∀ q, H0.size ≤ q → A q) (hS0 : wS.length = ra_S0) (hG : ra_G ah ta ad tys (wS ++ ws)) (hS : ra_S ad st vs)
    (h1 : Cond.classLink own index C ∈ re_tbl) (h2 : ra_Ao (.object C) s) (hn : ¬ n < 0) (hN : n.toNatClampNeg = N') (hbytes : N' * 4 ≤ 536870912) (hc1 : cells + 1 ≤ R.cells) (hc2 : slots + N' ≤ R.slots) (hdg : decode cc pc = .ok (.anewarray index, 3))
    (kk : ∀ (q : Nat) (cA : ClassId) (H1 : Heap) (ws' : va_W) (vs' : List Value), va_K D vwCl (tys ++ [(cA, .object C)]) s → va_P D vwCl ws' H1 → va_D A ws' → va_S A H0 H1 locs → ra_G (ah ++ [(3, ta.length, N', (4, 0, 0), [], [])]) (ta ++ [.object C]) (ad ++ [q]) (tys ++ [(cA, .object C)]) (wS ++ ws') → ra_S (ad ++ [q]) ((3, (ah.length : Int), 0) :: st) vs' → W p l e R s m args below meth c H1 locs (cells + 1) (slots + N') Q (F0 m (pc + 3) ls vs')) : W p l e R s m args below meth c H locs cells slots Q (F0 m pc ls (.int n :: vs)) := by
  refine va_newq hx hb hown (re_hts h1 hts) h2 hK hP hD hV hA hn hN hbytes hc1 hc2 hdg (fun q cA H1 hK1 hP1 hD1 hV1 => ?_)
  have hG1 := ra_G_newW hG (q := q) (en := .inl (cA, N', .inr (.inr (.inr (.inr (fun _ => none)))))) (e := (3, ta.length, N', (4, 0, 0), [], [])) [(cA, .object C)] ⟨cA, _, .object C, rfl, by rw [ra_G_nt hG]; simp, fun j _ => rfl⟩
  refine kk q cA H1 _ _ hK1 hP1 hD1 hV1 hG1 ⟨?_, ra_S_app hS⟩
  rw [ra_G_len hG]
  exact ra_new_R ad q 0
end RA7
