section RA6
variable {p : Program} {l : Launch} {e : Env} {R : Room} {s : State} {m : MethodId} {args : Array Value} {below : List Frame} {meth : Method} {c : Code} {H H0 : Heap} {locs : List Loc} {cells slots : Nat} {Q : State → Prop} {cc : ByteArray} {pc : Nat} {ls : Array Slot} {rest : List Value}
variable {D : va_G} {cl : List vw_C} {A : Nat → Prop} {ah : List ra_E} {ta : List FieldType} {ad : List Nat} {tys : List (ClassId × FieldType)} {ws : va_W}
theorem ra_aldA {a : Nat} (hexec : p.tables.exec = Jvm.exec) (hb : c.code = cc) (hK : va_K D cl tys s) (hP : va_P D cl ws H) (q0 t0 : Nat) {cA : ClassId} {t : FieldType} {n : Nat} {f : Nat → Option Nat} (ha : ws[q0]? = some (a, .inl (cA, n, .inr (.inr (.inr (.inr f)))))) (ht : tys[t0]? = some (cA, .array t)) {i : Int32} (hin : vp_in i n) (hdg : decode cc pc = .ok (.aaload, 1))
    (kk : W p l e R s m args below meth c H locs cells slots Q (F0 m (pc + 1) ls (va_rf (f i.toNatClampNeg) :: rest))) : W p l e R s m args below meth c H locs cells slots Q (F0 m pc ls (.int i :: .ref a :: rest)) := by
  have hlt : i.toNatClampNeg < n := Nat.not_le.mp fun q => hin (Or.inr q)
  refine W.aald (v := va_rf (f i.toNatClampNeg)) (ty := .array t) hexec hb (hP q0 _ ha) ((hK.2 t0 _ ht).1 n (fun j => va_rf (f j))) rfl (fun q => by cases q) ?_ ?_ rfl rfl hdg kk
  · show ¬ (i < 0 ∨ (arrV _ _ _).slots.size ≤ _)
    rw [arrV_size]
    exact hin
  · show (arrV _ _ _).slots[_]? = _
    rw [arrV_read _ _ hlt]
/-- a cell that is only read (it stood there at the start): what it holds, whatever else it bears -/
def ra_qt (D : va_G) (cl : List vw_C) (U : State) (q : Nat × va_E) (H : Heap) : Prop := match q.2 with
  | .inl a => ∃ (cell : Cell) (ty : FieldType), H[q.1]? = some cell ∧ ArrOfT U a.1 ty ∧ U.isArrayOf cell ty ∧ cell.vm ≠ .unknown ∧ a.2.1 ≤ cell.slots.size ∧ cell.slots.size.toInt32 = Int32.ofNat a.2.1 ∧ ∀ j : Nat, j < a.2.1 → cell.slots[j]? = (vp_cell a.1 a.2).slots[j]?
  | .inr o => ∃ (r : vw_C) (cell : Cell), cl[o.1]? = some r ∧ H[q.1]? = some cell ∧ U.vm.findClass r.1 = some cell.cls ∧ cell.vm ≠ .unknown ∧ cell.vm.isStatics = false ∧ ∀ k, k < r.2.2 → cell.slots[D.2 o.1 k]? = some (vp_V o.2 k)
theorem ra_qt.moved {D : va_G} {cl : List vw_C} {u U : State} {q : Nat × va_E} {H : Heap} (hvm : u.vm.Alike U.vm) (h : ra_qt D cl u q H) : ra_qt D cl U q H := by
  obtain ⟨a, e⟩ := q
  cases e with
  | inl x =>
    obtain ⟨cell, ty, h1, h2, h3, h4⟩ := h
    exact ⟨cell, ty, h1, arrOfT_moved hvm h2, State.isArrayOf_alike hvm h3, h4⟩
  | inr o =>
    obtain ⟨r, cell, h1, h2, h3, h4⟩ := h
    exact ⟨r, cell, h1, h2, by rw [hvm.findClass]; exact h3, h4⟩
theorem ra_qt.kept {D : va_G} {cl : List vw_C} {U : State} {q : Nat × va_E} {H H1 : Heap} (h : ra_qt D cl U q H) (hq : H1[q.1]? = H[q.1]?) : ra_qt D cl U q H1 := by
  obtain ⟨a, e⟩ := q
  cases e with
  | inl x =>
    obtain ⟨cell, ty, h1, h4⟩ := h
    exact ⟨cell, ty, hq.trans h1, h4⟩
  | inr o =>
    obtain ⟨r, cell, h1, h2, h4⟩ := h
    exact ⟨r, cell, h1, hq.trans h2, h4⟩
theorem ra_qt.lt {D : va_G} {cl : List vw_C} {U : State} {q : Nat × va_E} {H : Heap} (h : ra_qt D cl U q H) : q.1 < H.size := by
  obtain ⟨a, e⟩ := q
  cases e with
  | inl x => obtain ⟨cell, ty, h1, -⟩ := h; exact (Array.getElem?_eq_some_iff.mp h1).1
  | inr o => obtain ⟨r, cell, -, h2, -⟩ := h; exact (Array.getElem?_eq_some_iff.mp h2).1
/-- the cells of a walk: its own, and those that are only read -/
def ra_Pq (D : va_G) (cl : List vw_C) (U : State) (ws : va_W) (H : Heap) : Prop := ∀ (k : Nat) (q : Nat × va_E), ws[k]? = some q → va_at D cl q H ∨ ra_qt D cl U q H
theorem ra_one {D : va_G} {cl : List vw_C} {q : Nat × va_E} {H : Heap} (h : va_at D cl q H) : va_P D cl [q] H := fun k z hz => by
  have hk : k < 1 := (List.getElem?_eq_some_iff.mp hz).1
  rw [show k = 0 by omega] at hz
  cases hz
  exact h
theorem rz_ty {U : State} {cA : ClassId} {t1 t2 : FieldType} (h1 : ArrOfT U cA t1) (h2 : ArrOfT U cA t2) : t1 = t2 := by
  obtain ⟨-, k, hk, comp, hc⟩ := h1 0 (fun _ => .null)
  obtain ⟨-, k2, hk2, comp2, hc2⟩ := h2 0 (fun _ => .null)
  have e := Option.some.inj (hk.symm.trans hk2)
  subst e
  rw [hc] at hc2
  cases hc2
  rfl
section RZ
variable {a q0 t0 : Nat} {cA : ClassId} {n : Nat}
theorem rz_in {i : Int32} {k : Nat} (hin : vp_in i n) (h : n ≤ k) : ¬ (i < 0 ∨ k ≤ i.toNatClampNeg) := by
  have hlt : i.toNatClampNeg < n := Nat.not_le.mp fun q => hin (Or.inr q)
  intro q
  rcases q with q | q
  · exact hin (Or.inl q)
  · omega
theorem rz_iald (hexec : p.tables.exec = Jvm.exec) (hb : c.code = cc) (hK : va_K D cl tys s) (hP : ra_Pq D cl s ws H) (q0 t0 : Nat) {f : Nat → Int32} (ha : ws[q0]? = some (a, .inl (cA, n, .inl f))) (ht : tys[t0]? = some (cA, .int)) {i : Int32} (hin : vp_in i n) (hdg : decode cc pc = .ok (.iaload, 1))
    (kk : W p l e R s m args below meth c H locs cells slots Q (F0 m (pc + 1) ls (.int (f i.toNatClampNeg) :: rest))) : W p l e R s m args below meth c H locs cells slots Q (F0 m pc ls (.int i :: .ref a :: rest)) := by
  rcases hP q0 _ ha with h | ⟨cell, ty, h1, h2, h3, h4, h5, h6, h7⟩
  · exact va_iald hexec hb hK (ra_one h) 0 _ rfl ht hin hdg kk
  · have hlt : i.toNatClampNeg < n := Nat.not_le.mp fun q => hin (Or.inr q)
    rw [rz_ty h2 (hK.2 t0 _ ht).1] at h3
    exact W.iald (v := .int (f i.toNatClampNeg)) hexec hb h1 h3 h4 (rz_in hin h5) (by rw [h7 _ hlt]; show (arrV _ _ _).slots[_]? = _; rw [arrV_read _ _ hlt]) rfl rfl hdg kk
theorem rz_bald (hexec : p.tables.exec = Jvm.exec) (hb : c.code = cc) (hK : va_K D cl tys s) (hP : ra_Pq D cl s ws H) (q0 t0 : Nat) {f : Nat → Int32} (ha : ws[q0]? = some (a, .inl (cA, n, .inl f))) (ht : tys[t0]? = some (cA, .byte)) {i : Int32} (hin : vp_in i n) (hdg : decode cc pc = .ok (.baload, 1))
    (kk : W p l e R s m args below meth c H locs cells slots Q (F0 m (pc + 1) ls (.int (f i.toNatClampNeg) :: rest))) : W p l e R s m args below meth c H locs cells slots Q (F0 m pc ls (.int i :: .ref a :: rest)) := by
  rcases hP q0 _ ha with h | ⟨cell, ty, h1, h2, h3, h4, h5, h6, h7⟩
  · exact va_bald hexec hb hK (ra_one h) 0 _ rfl ht hin hdg kk
  · have hlt : i.toNatClampNeg < n := Nat.not_le.mp fun q => hin (Or.inr q)
    rw [rz_ty h2 (hK.2 t0 _ ht).1] at h3
    exact W.bald (v := .int (f i.toNatClampNeg)) hexec hb h1 h3 h4 (rz_in hin h5) (by rw [h7 _ hlt]; show (arrV _ _ _).slots[_]? = _; rw [arrV_read _ _ hlt]) rfl rfl hdg kk
theorem rz_zald (hexec : p.tables.exec = Jvm.exec) (hb : c.code = cc) (hK : va_K D cl tys s) (hP : ra_Pq D cl s ws H) (q0 t0 : Nat) {f : Nat → Int32} (ha : ws[q0]? = some (a, .inl (cA, n, .inl f))) (ht : tys[t0]? = some (cA, .boolean)) {i : Int32} (hin : vp_in i n) (hdg : decode cc pc = .ok (.baload, 1))
    (kk : W p l e R s m args below meth c H locs cells slots Q (F0 m (pc + 1) ls (.int (f i.toNatClampNeg) :: rest))) : W p l e R s m args below meth c H locs cells slots Q (F0 m pc ls (.int i :: .ref a :: rest)) := by
  rcases hP q0 _ ha with h | ⟨cell, ty, h1, h2, h3, h4, h5, h6, h7⟩
  · exact va_zald hexec hb hK (ra_one h) 0 _ rfl ht hin hdg kk
  · have hlt : i.toNatClampNeg < n := Nat.not_le.mp fun q => hin (Or.inr q)
    rw [rz_ty h2 (hK.2 t0 _ ht).1] at h3
    exact W.zald (v := .int (f i.toNatClampNeg)) hexec hb h1 h3 h4 (rz_in hin h5) (by rw [h7 _ hlt]; show (arrV _ _ _).slots[_]? = _; rw [arrV_read _ _ hlt]) rfl rfl hdg kk
theorem rz_lald (hexec : p.tables.exec = Jvm.exec) (hb : c.code = cc) (hK : va_K D cl tys s) (hP : ra_Pq D cl s ws H) (q0 t0 : Nat) {f : Nat → Int64} (ha : ws[q0]? = some (a, .inl (cA, n, .inr (.inl f)))) (ht : tys[t0]? = some (cA, .long)) {i : Int32} (hin : vp_in i n) (hdg : decode cc pc = .ok (.laload, 1))
    (kk : W p l e R s m args below meth c H locs cells slots Q (F0 m (pc + 1) ls (.long (f i.toNatClampNeg) :: rest))) : W p l e R s m args below meth c H locs cells slots Q (F0 m pc ls (.int i :: .ref a :: rest)) := by
  rcases hP q0 _ ha with h | ⟨cell, ty, h1, h2, h3, h4, h5, h6, h7⟩
  · exact va_lald hexec hb hK (ra_one h) 0 _ rfl ht hin hdg kk
  · have hlt : i.toNatClampNeg < n := Nat.not_le.mp fun q => hin (Or.inr q)
    rw [rz_ty h2 (hK.2 t0 _ ht).1] at h3
    exact W.lald (v := .long (f i.toNatClampNeg)) hexec hb h1 h3 h4 (rz_in hin h5) (by rw [h7 _ hlt]; show (arrV _ _ _).slots[_]? = _; rw [arrV_read _ _ hlt]) rfl rfl hdg kk
theorem rz_dald (hexec : p.tables.exec = Jvm.exec) (hb : c.code = cc) (hK : va_K D cl tys s) (hP : ra_Pq D cl s ws H) (q0 t0 : Nat) {f : Nat → UInt64} (ha : ws[q0]? = some (a, .inl (cA, n, .inr (.inr (.inr (.inl f)))))) (ht : tys[t0]? = some (cA, .double)) {i : Int32} (hin : vp_in i n) (hdg : decode cc pc = .ok (.daload, 1))
    (kk : W p l e R s m args below meth c H locs cells slots Q (F0 m (pc + 1) ls (.double (f i.toNatClampNeg) :: rest))) : W p l e R s m args below meth c H locs cells slots Q (F0 m pc ls (.int i :: .ref a :: rest)) := by
  rcases hP q0 _ ha with h | ⟨cell, ty, h1, h2, h3, h4, h5, h6, h7⟩
  · exact va_dald hexec hb hK (ra_one h) 0 _ rfl ht hin hdg kk
  · have hlt : i.toNatClampNeg < n := Nat.not_le.mp fun q => hin (Or.inr q)
    rw [rz_ty h2 (hK.2 t0 _ ht).1] at h3
    exact W.dald (v := .double (f i.toNatClampNeg)) hexec hb h1 h3 h4 (rz_in hin h5) (by rw [h7 _ hlt]; show (arrV _ _ _).slots[_]? = _; rw [arrV_read _ _ hlt]) rfl rfl hdg kk
theorem rz_aldq (hexec : p.tables.exec = Jvm.exec) (hb : c.code = cc) (hK : va_K D cl tys s) (hP : ra_Pq D cl s ws H) (q0 t0 : Nat) {C : String} {f : Nat → Option Nat} (ha : ws[q0]? = some (a, .inl (cA, n, .inr (.inr (.inr (.inr f)))))) (ht : tys[t0]? = some (cA, .object C)) {i : Int32} (hin : vp_in i n) (hdg : decode cc pc = .ok (.aaload, 1))
    (kk : W p l e R s m args below meth c H locs cells slots Q (F0 m (pc + 1) ls (va_rf (f i.toNatClampNeg) :: rest))) : W p l e R s m args below meth c H locs cells slots Q (F0 m pc ls (.int i :: .ref a :: rest)) := by
  rcases hP q0 _ ha with h | ⟨cell, ty, h1, h2, h3, h4, h5, h6, h7⟩
  · exact va_aldq hexec hb hK (ra_one h) 0 _ rfl ht hin hdg kk
  · have hlt : i.toNatClampNeg < n := Nat.not_le.mp fun q => hin (Or.inr q)
    rw [rz_ty h2 (hK.2 t0 _ ht).1] at h3
    exact W.aald (v := va_rf (f i.toNatClampNeg)) (ty := .object C) hexec hb h1 h3 rfl h4 (rz_in hin h5) (by rw [h7 _ hlt]; show (arrV _ _ _).slots[_]? = _; rw [arrV_read _ _ hlt]) rfl rfl hdg kk
theorem rz_aldA (hexec : p.tables.exec = Jvm.exec) (hb : c.code = cc) (hK : va_K D cl tys s) (hP : ra_Pq D cl s ws H) (q0 t0 : Nat) {t : FieldType} {f : Nat → Option Nat} (ha : ws[q0]? = some (a, .inl (cA, n, .inr (.inr (.inr (.inr f)))))) (ht : tys[t0]? = some (cA, .array t)) {i : Int32} (hin : vp_in i n) (hdg : decode cc pc = .ok (.aaload, 1))
    (kk : W p l e R s m args below meth c H locs cells slots Q (F0 m (pc + 1) ls (va_rf (f i.toNatClampNeg) :: rest))) : W p l e R s m args below meth c H locs cells slots Q (F0 m pc ls (.int i :: .ref a :: rest)) := by
  rcases hP q0 _ ha with h | ⟨cell, ty, h1, h2, h3, h4, h5, h6, h7⟩
  · exact ra_aldA hexec hb hK (ra_one h) 0 _ rfl ht hin hdg kk
  · have hlt : i.toNatClampNeg < n := Nat.not_le.mp fun q => hin (Or.inr q)
    rw [rz_ty h2 (hK.2 t0 _ ht).1] at h3
    exact W.aald (v := va_rf (f i.toNatClampNeg)) (ty := .array t) hexec hb h1 h3 rfl h4 (rz_in hin h5) (by rw [h7 _ hlt]; show (arrV _ _ _).slots[_]? = _; rw [arrV_read _ _ hlt]) rfl rfl hdg kk
theorem rz_alen (hexec : p.tables.exec = Jvm.exec) (hb : c.code = cc) (hK : va_K D cl tys s) (hP : ra_Pq D cl s ws H) (q0 t0 : Nat) {x : vp_A} (ha : ws[q0]? = some (a, .inl (cA, x))) {ty : FieldType} (ht : tys[t0]? = some (cA, ty)) {v : Int32} (hv : Int32.ofNat x.1 = v) (hdg : decode cc pc = .ok (.arraylength, 1))
    (kk : W p l e R s m args below meth c H locs cells slots Q (F0 m (pc + 1) ls (.int v :: rest))) : W p l e R s m args below meth c H locs cells slots Q (F0 m pc ls (.ref a :: rest)) := by
  rcases hP q0 _ ha with h | ⟨cell, ty2, h1, h2, h3, h4, h5, h6, h7⟩
  · exact va_alen hexec hb hK (ra_one h) 0 _ rfl ht hv hdg kk
  · subst hv
    exact W.alen (n := Int32.ofNat x.1) hexec hb h1 h3 h6 rfl rfl hdg kk
theorem rz_get (hexec : p.tables.exec = Jvm.exec) (hb : c.code = cc) {own ref C : String} {T : u_T} {N ci index : Nat} {Ts : List Cond} (hts : ∀ w ∈ Ts, w.before args s = true) (hin : ∀ w ∈ u_ws C T N, w ∈ Ts) (hown : s.vm.findClass own = some m.cls) (hK : va_K D cl tys s) (hP : ra_Pq D cl s ws H) (q0 : Nat) {fs : List Value} (he : ws[q0]? = some (a, .inr (ci, fs))) (hc : cl[ci]? = some (C, T, N)) (k : Nat) (hk : k < N) (hlink : (Cond.fieldLink own index ref (T k).2.1 (T k).2.2.1).before args s = true) (hsame : ∀ x, s.fieldFound? (T k).1 (T k).2.1 (T k).2.2.1 = some x → s.fieldFound? ref (T k).2.1 (T k).2.2.1 = some x) {v : Value} (hv : fs[k]? = some v) (hdg : decode cc pc = .ok (.getfield index, 3))
    (kk : W p l e R s m args below meth c H locs cells slots Q (F0 m (pc + 3) ls (v :: rest))) : W p l e R s m args below meth c H locs cells slots Q (F0 m pc ls (.ref a :: rest)) := by
  rcases hP q0 _ he with h | ⟨r, cell, h1, q1, q2, q3, q4, q5⟩
  · exact va_get hexec hb hts hin hown hK (ra_one h) 0 rfl hc k hk hlink hsame hv hdg kk
  · have hr : r = (C, T, N) := Option.some.inj (h1.symm.trans hc)
    subst hr
    obtain ⟨hS, hfc, kC, hkC, hkind⟩ := hK.1 ci _ hc
    obtain ⟨cf, kf, fi, f, hi, hsl⟩ := hS k hk
    refine W.getf hexec hb hown hlink (hsame _ hi) (u_facts hfc hkC (u_lays hts hin hk) hi).1 q1 q3 (v := v) ?_ rfl rfl hdg kk
    rw [hsl, q5 k hk]
    simp [vp_V, hv]
end RZ
theorem rz_recv {s : State} {H : Heap} {D : va_G} {cl : List vw_C} {a q0 ci : Nat} {q : vw_C} {fs : List Value} {ws : va_W} {tys : List (ClassId × FieldType)} (hK : va_K D cl tys s) (hP : ra_Pq D cl s ws H) (hc : cl[ci]? = some q) (he : ws[q0]? = some (a, .inr (ci, fs))) : ∃ cell : Cell, H[a]? = some cell ∧ cell.vm.isStatics = false ∧ s.vm.findClass q.1 = some cell.cls := by
  rcases hP q0 _ he with h | ⟨r, cell, h1, q1, q2, q3, q4, q5⟩
  · exact va_recv hK (ra_one h) hc (q0 := 0) rfl
  · have hr : r = q := Option.some.inj (h1.symm.trans hc)
    subst hr
    exact ⟨cell, q1, q4, q2⟩
theorem ra_cell {k j : Int} {e0 : ra_E} {v : Value} (hG : ra_G ah ta ad tys ws) (h : ra_R ad (3, k, j) v) (hk : ah[k.toNat]? = some e0) : ∃ q en, v = .ref q ∧ ws[k.toNat]? = some (q, en) ∧ ra_H ad tys e0 en := by
  obtain ⟨q, h1, rfl⟩ := h
  obtain ⟨q2, en, h2, h3⟩ := ra_Ws_get hG.2.2 hk
  rw [ra_G_ad hG h2 h1]
  exact ⟨q2, en, rfl, h2, h3⟩
theorem ra_cellW {wS : va_W} {k j : Int} {e0 : ra_E} {v : Value} (hS0 : wS.length = ra_S0) (hG : ra_G ah ta ad tys (wS ++ ws)) (h : ra_R ad (3, k, j) v) (hk : ra_hw ah k.toNat = some e0) : ∃ q en, v = .ref q ∧ ws[k.toNat - wS.length]? = some (q, en) ∧ wS.length ≤ k.toNat ∧ ra_H ad tys e0 en := by
  obtain ⟨h1, h2⟩ := ra_hw_i hk
  obtain ⟨q, en, h3, h4, h5⟩ := ra_cell hG h h2
  rw [← hS0] at h1
  rw [List.getElem?_append_right h1] at h4
  exact ⟨q, en, h3, h4, h1, h5⟩
def ra_cix : ra_V → Option Nat
  | (0, lo, hi) => if lo = hi then some lo.toNat else none
  | _ => none
theorem ra_cix_R {a : ra_V} {i : Int32} {n k : Nat} (h : ra_cix a = some k) (hR : ra_R ad a (.int i)) (hi : vp_in i n) : i.toNatClampNeg = k := by
  unfold ra_cix at h
  split at h
  · split at h
    · next e9 => obtain ⟨u, e1, p1, p2⟩ := hR; cases e1; cases h; subst e9; have := vp_in_iff.mp hi; rw [ra_cln]; omega
    · cases h
  · cases h
/-- what is read of rows -/
def ra_ald (ah : List ra_E) (ta : List FieldType) : Instr → Nat → List ra_V → Option (List ra_V)
  | .iaload, 1, i :: (3, k, _) :: st => match ah[k.toNat]? with
    | some (1, t0, n, d, ex, _) => if ta[t0]? = some .int ∧ ra_inb i n = true ∧ ra_i1 i = true then some (ra_rdI d ex i :: st) else none
    | _ => none
  | .baload, 1, i :: (3, k, _) :: st => match ah[k.toNat]? with
    | some (1, t0, n, d, ex, _) => if (ta[t0]? = some .byte ∨ ta[t0]? = some .boolean) ∧ ra_inb i n = true ∧ ra_i1 i = true then some (ra_rdI d ex i :: st) else none
    | _ => none
  | .laload, 1, i :: (3, k, _) :: st => match ah[k.toNat]? with
    | some (2, t0, n, d, ex, _) => if ta[t0]? = some .long ∧ ra_inb i n = true ∧ ra_i1 i = true then some (ra_rdL d ex i :: st) else none
    | _ => none
  | .aaload, 1, i :: (3, k, _) :: st => match ah[k.toNat]?, ra_cix i with
    | some (3, t0, n, d, ex, _), some j => match ta[t0]? with
      | some (.object _) => if ra_inb i n = true ∧ ra_i1 i = true then some (ra_at d ex j :: st) else none
      | some (.array _) => if ra_inb i n = true ∧ ra_i1 i = true then some (ra_at d ex j :: st) else none
      | _ => none
    | _, _ => none
  | .daload, 1, i :: (3, k, _) :: st => match ah[k.toNat]?, ra_cix i with
    | some (4, t0, n, d, ex, _), some j => if ta[t0]? = some .double ∧ ra_inb i n = true ∧ ra_i1 i = true then some (ra_at d ex j :: st) else none
    | _, _ => none
  | .arraylength, 1, (3, k, _) :: st => match ah[k.toNat]? with
    | some (1, _, n, _, _, _) => some (ra_k (Int32.ofNat n) :: st)
    | some (2, _, n, _, _, _) => some (ra_k (Int32.ofNat n) :: st)
    | some (3, _, n, _, _, _) => some (ra_k (Int32.ofNat n) :: st)
    | _ => none
  | _, _, _ => none
theorem ra_ald_W {st st' : List ra_V} {vs : List Value} (hx : p.tables.exec = Jvm.exec) (hb : c.code = cc) (hK : va_K D cl tys s) (hP : ra_Pq D cl s ws H) (hG : ra_G ah ta ad tys ws) (hS : ra_S ad st vs) {ig : Instr} {len : Nat} (hdg : decode cc pc = .ok (ig, len)) (h : ra_ald ah ta ig len st = some st')
    (k : ∀ vs', ra_S ad st' vs' → W p l e R s m args below meth c H locs cells slots Q (F0 m (pc + len) ls vs')) : W p l e R s m args below meth c H locs cells slots Q (F0 m pc ls vs) := by
  unfold ra_ald at h
  split at h
  · split at h
    · next hk =>
      split at h
      · next q =>
        cases h
        obtain ⟨v, vs1, rfl, h1, hS1⟩ := ra_S_cons hS
        obtain ⟨w, vs2, rfl, h2, hS2⟩ := ra_S_cons hS1
        obtain ⟨i, rfl⟩ := ra_i1_R q.2.2 h1
        obtain ⟨a, en, rfl, hw, hH⟩ := ra_cell hG h2 hk
        obtain ⟨cA, f, ty, rfl, ht, -, hf⟩ := hH
        have e2 := ra_G_ty hG ht q.1
        subst e2
        have hi := ra_inb_R q.2.1 h1
        exact rz_iald hx hb hK hP _ _ hw ht hi hdg (k _ ⟨ra_rdI_R h1 hi hf, hS2⟩)
      · cases h
    · cases h
  · split at h
    · next hk =>
      split at h
      · next q =>
        cases h
        obtain ⟨v, vs1, rfl, h1, hS1⟩ := ra_S_cons hS
        obtain ⟨w, vs2, rfl, h2, hS2⟩ := ra_S_cons hS1
        obtain ⟨i, rfl⟩ := ra_i1_R q.2.2 h1
        obtain ⟨a, en, rfl, hw, hH⟩ := ra_cell hG h2 hk
        obtain ⟨cA, f, ty, rfl, ht, -, hf⟩ := hH
        have hi := ra_inb_R q.2.1 h1
        rcases q.1 with q1 | q1
        · have e2 := ra_G_ty hG ht q1
          subst e2
          exact rz_bald hx hb hK hP _ _ hw ht hi hdg (k _ ⟨ra_rdI_R h1 hi hf, hS2⟩)
        · have e2 := ra_G_ty hG ht q1
          subst e2
          exact rz_zald hx hb hK hP _ _ hw ht hi hdg (k _ ⟨ra_rdI_R h1 hi hf, hS2⟩)
      · cases h
    · cases h
  · split at h
    · next hk =>
      split at h
      · next q =>
        cases h
        obtain ⟨v, vs1, rfl, h1, hS1⟩ := ra_S_cons hS
        obtain ⟨w, vs2, rfl, h2, hS2⟩ := ra_S_cons hS1
        obtain ⟨i, rfl⟩ := ra_i1_R q.2.2 h1
        obtain ⟨a, en, rfl, hw, hH⟩ := ra_cell hG h2 hk
        obtain ⟨cA, f, ty, rfl, ht, hf⟩ := hH
        have e2 := ra_G_ty hG ht q.1
        subst e2
        have hi := ra_inb_R q.2.1 h1
        exact rz_lald hx hb hK hP _ _ hw ht hi hdg (k _ ⟨ra_rdL_R h1 hi hf, hS2⟩)
      · cases h
    · cases h
  · split at h
    · next hk hj =>
      split at h
      · next hC =>
        split at h
        · next q =>
          cases h
          obtain ⟨v, vs1, rfl, h1, hS1⟩ := ra_S_cons hS
          obtain ⟨w, vs2, rfl, h2, hS2⟩ := ra_S_cons hS1
          obtain ⟨i, rfl⟩ := ra_i1_R q.2 h1
          obtain ⟨a, en, rfl, hw, hH⟩ := ra_cell hG h2 hk
          obtain ⟨cA, f, ty, rfl, ht, hf⟩ := hH
          have e2 := ra_G_ty hG ht hC
          subst e2
          have hi := ra_inb_R q.1 h1
          have hn := vp_in_iff.mp hi
          have hr := hf _ (show i.toNatClampNeg < _ by rw [ra_cln]; omega)
          rw [ra_cix_R hj h1 hi] at hr
          exact rz_aldq hx hb hK hP _ _ hw ht hi hdg (k _ ⟨by rw [ra_cix_R hj h1 hi]; exact hr, hS2⟩)
        · cases h
      · next hC =>
        split at h
        · next q =>
          cases h
          obtain ⟨v, vs1, rfl, h1, hS1⟩ := ra_S_cons hS
          obtain ⟨w, vs2, rfl, h2, hS2⟩ := ra_S_cons hS1
          obtain ⟨i, rfl⟩ := ra_i1_R q.2 h1
          obtain ⟨a, en, rfl, hw, hH⟩ := ra_cell hG h2 hk
          obtain ⟨cA, f, ty, rfl, ht, hf⟩ := hH
          have e2 := ra_G_ty hG ht hC
          subst e2
          have hi := ra_inb_R q.1 h1
          have hn := vp_in_iff.mp hi
          have hr := hf _ (show i.toNatClampNeg < _ by rw [ra_cln]; omega)
          rw [ra_cix_R hj h1 hi] at hr
          exact rz_aldA hx hb hK hP _ _ hw ht hi hdg (k _ ⟨by rw [ra_cix_R hj h1 hi]; exact hr, hS2⟩)
        · cases h
      · cases h
    · cases h
  · split at h
    · next hk hj =>
      split at h
      · next q =>
        cases h
        obtain ⟨v, vs1, rfl, h1, hS1⟩ := ra_S_cons hS
        obtain ⟨w, vs2, rfl, h2, hS2⟩ := ra_S_cons hS1
        obtain ⟨i, rfl⟩ := ra_i1_R q.2.2 h1
        obtain ⟨a, en, rfl, hw, hH⟩ := ra_cell hG h2 hk
        obtain ⟨cA, f, ty, rfl, ht, hf⟩ := hH
        have e2 := ra_G_ty hG ht q.1
        subst e2
        have hi := ra_inb_R q.2.1 h1
        have hn := vp_in_iff.mp hi
        have hr := hf _ (show i.toNatClampNeg < _ by rw [ra_cln]; omega)
        rw [ra_cix_R hj h1 hi] at hr
        exact rz_dald hx hb hK hP _ _ hw ht hi hdg (k _ ⟨by rw [ra_cix_R hj h1 hi]; exact hr, hS2⟩)
      · cases h
    · cases h
  · split at h
    · next hk =>
      cases h
      obtain ⟨v, vs1, rfl, h1, hS1⟩ := ra_S_cons hS
      obtain ⟨a, en, rfl, hw, hH⟩ := ra_cell hG h1 hk
      obtain ⟨cA, f, ty, rfl, ht, -⟩ := hH
      exact rz_alen hx hb hK hP _ _ hw ht rfl hdg (k _ ⟨ra_R_k _, hS1⟩)
    · next hk =>
      cases h
      obtain ⟨v, vs1, rfl, h1, hS1⟩ := ra_S_cons hS
      obtain ⟨a, en, rfl, hw, hH⟩ := ra_cell hG h1 hk
      obtain ⟨cA, f, ty, rfl, ht, -⟩ := hH
      exact rz_alen hx hb hK hP _ _ hw ht rfl hdg (k _ ⟨ra_R_k _, hS1⟩)
    · next hk =>
      cases h
      obtain ⟨v, vs1, rfl, h1, hS1⟩ := ra_S_cons hS
      obtain ⟨a, en, rfl, hw, hH⟩ := ra_cell hG h1 hk
      obtain ⟨cA, f, ty, rfl, ht, -⟩ := hH
      exact rz_alen hx hb hK hP _ _ hw ht rfl hdg (k _ ⟨ra_R_k _, hS1⟩)
    · cases h
  · cases h
/-- what is written into rows -/
theorem ra_fitB (x : Int32) : fits .byte (.int (vp_nar .byte x)) = true := by rw [vp_nar_byte]; exact pk_fb x
def ra_ast (ah : List ra_E) (ta : List FieldType) : Instr → Nat → List ra_V → Option (List ra_E × List ra_V)
  | .iastore, 1, x :: i :: (3, k, _) :: st => match ra_hw ah k.toNat with
    | some (1, t0, n, d, ex, fs) => if ta[t0]? = some .int ∧ ra_inb i n = true ∧ ra_i1 i = true ∧ ra_i1 x = true then some (ah.set k.toNat (1, t0, n, (ra_wr d ex ra_any x i).1, (ra_wr d ex ra_any x i).2, fs), st) else none
    | _ => none
  | .bastore, 1, x :: i :: (3, k, _) :: st => match ra_hw ah k.toNat with
    | some (1, t0, n, d, ex, fs) => if ra_inb i n = true ∧ ra_i1 i = true ∧ ra_i1 x = true then (if ta[t0]? = some .byte then some (ah.set k.toNat (1, t0, n, (ra_wr d ex ra_any (ra_u (vp_nar .byte) x) i).1, (ra_wr d ex ra_any (ra_u (vp_nar .byte) x) i).2, fs), st) else if ta[t0]? = some .boolean then some (ah.set k.toNat (1, t0, n, (ra_wr d ex ra_any (ra_u (vp_nar .boolean) x) i).1, (ra_wr d ex ra_any (ra_u (vp_nar .boolean) x) i).2, fs), st) else none) else none
    | _ => none
  | .lastore, 1, x :: i :: (3, k, _) :: st => match ra_hw ah k.toNat with
    | some (2, t0, n, d, ex, fs) => if ta[t0]? = some .long ∧ ra_inb i n = true ∧ ra_i1 i = true ∧ ra_l1 x = true then some (ah.set k.toNat (2, t0, n, (ra_wr d ex (2, 0, 0) x i).1, (ra_wr d ex (2, 0, 0) x i).2, fs), st) else none
    | _ => none
  | .dastore, 1, (5, x, y) :: i :: (3, k, _) :: st => match ra_hw ah k.toNat, ra_cix i with
    | some (4, t0, n, d, ex, fs), some j => if ta[t0]? = some .double ∧ ra_inb i n = true ∧ ra_i1 i = true then some (ah.set k.toNat (4, t0, n, d, (j, (5, x, y)) :: ex.filter (fun q => !(q.1 == j)), fs), st) else none
    | _, _ => none
  | _, _, _ => none
theorem ra_ast_W {wS : va_W} {ah' : List ra_E} {st st' : List ra_V} {vs : List Value} (hx : p.tables.exec = Jvm.exec) (hb : c.code = cc) (hK : va_K D cl tys s) (hP : va_P D cl ws H) (hD : va_D A ws) (hV : va_S A H0 H locs) (hS0 : wS.length = ra_S0) (hG : ra_G ah ta ad tys (wS ++ ws)) (hS : ra_S ad st vs) {ig : Instr} {len : Nat} (hdg : decode cc pc = .ok (ig, len)) (h : ra_ast ah ta ig len st = some (ah', st'))
    (kk : ∀ (H1 : Heap) (locs1 : List Loc) (ws' : va_W) (vs' : List Value), va_P D cl ws' H1 → va_D A ws' → va_S A H0 H1 locs1 → ra_G ah' ta ad tys (wS ++ ws') → ra_S ad st' vs' → W p l e R s m args below meth c H1 locs1 cells slots Q (F0 m (pc + len) ls vs')) : W p l e R s m args below meth c H locs cells slots Q (F0 m pc ls vs) := by
  unfold ra_ast at h
  split at h
  · split at h
    · next hk =>
      split at h
      · next q =>
        cases h
        obtain ⟨v, vs1, rfl, h1, hS1⟩ := ra_S_cons hS
        obtain ⟨w, vs2, rfl, h2, hS2⟩ := ra_S_cons hS1
        obtain ⟨u, vs3, rfl, h3, hS3⟩ := ra_S_cons hS2
        obtain ⟨x, rfl⟩ := ra_i1_R q.2.2.2 h1
        obtain ⟨i, rfl⟩ := ra_i1_R q.2.2.1 h2
        obtain ⟨a, en, rfl, hw, hle, hH⟩ := ra_cellW hS0 hG h3 hk
        obtain ⟨cA, f, ty, rfl, ht, hb8, hf⟩ := hH
        have e2 := ra_G_ty hG ht q.1
        subst e2
        have hi := ra_inb_R q.2.1 h2
        refine va_iast hx hb hK hP hD hV _ _ hw ht hi hdg (fun H1 locs1 hP1 hD1 hV1 => kk H1 locs1 _ _ hP1 hD1 hV1 (ra_G_setW hG hle hw ?_) hS3)
        exact ⟨cA, _, .int, rfl, ht, fun z => (by cases z), ra_wr_R (V := fun z => Value.int z) h2 hi h1 (fun z => ra_R_any z) hf⟩
      · cases h
    · cases h
  · split at h
    · next hk =>
      split at h
      · next q =>
        obtain ⟨v, vs1, rfl, h1, hS1⟩ := ra_S_cons hS
        obtain ⟨w, vs2, rfl, h2, hS2⟩ := ra_S_cons hS1
        obtain ⟨u, vs3, rfl, h3, hS3⟩ := ra_S_cons hS2
        obtain ⟨x, rfl⟩ := ra_i1_R q.2.2 h1
        obtain ⟨i, rfl⟩ := ra_i1_R q.2.1 h2
        obtain ⟨a, en, rfl, hw, hle, hH⟩ := ra_cellW hS0 hG h3 hk
        obtain ⟨cA, f, ty, rfl, ht, hb8, hf⟩ := hH
        have hi := ra_inb_R q.1 h2
        split at h
        · next q1 =>
          cases h
          have e2 := ra_G_ty hG ht q1
          subst e2
          refine va_bast hx hb hK hP hD hV _ _ hw ht hi hdg (fun H1 locs1 hP1 hD1 hV1 => kk H1 locs1 _ _ hP1 hD1 hV1 (ra_G_setW hG hle hw ?_) hS3)
          refine ⟨cA, _, .byte, rfl, ht, fun _ j hj => ?_, ra_wr_R (V := fun z => Value.int z) h2 hi (ra_R_u (op := vp_nar .byte) h1) (fun z => ra_R_any z) hf⟩
          unfold upd
          split
          · exact ra_fitB x
          · exact hb8 rfl j hj
        · split at h
          · next q1 =>
            cases h
            have e2 := ra_G_ty hG ht q1
            subst e2
            refine va_zast hx hb hK hP hD hV _ _ hw ht hi hdg (fun H1 locs1 hP1 hD1 hV1 => kk H1 locs1 _ _ hP1 hD1 hV1 (ra_G_setW hG hle hw ?_) hS3)
            exact ⟨cA, _, .boolean, rfl, ht, fun z => (by cases z), ra_wr_R (V := fun z => Value.int z) h2 hi (ra_R_u (op := vp_nar .boolean) h1) (fun z => ra_R_any z) hf⟩
          · cases h
      · cases h
    · cases h
  · split at h
    · next hk =>
      split at h
      · next q =>
        cases h
        obtain ⟨v, vs1, rfl, h1, hS1⟩ := ra_S_cons hS
        obtain ⟨w, vs2, rfl, h2, hS2⟩ := ra_S_cons hS1
        obtain ⟨u, vs3, rfl, h3, hS3⟩ := ra_S_cons hS2
        obtain ⟨x, rfl⟩ := ra_l1_R q.2.2.2 h1
        obtain ⟨i, rfl⟩ := ra_i1_R q.2.2.1 h2
        obtain ⟨a, en, rfl, hw, hle, hH⟩ := ra_cellW hS0 hG h3 hk
        obtain ⟨cA, f, ty, rfl, ht, hf⟩ := hH
        have e2 := ra_G_ty hG ht q.1
        subst e2
        have hi := ra_inb_R q.2.1 h2
        refine va_last hx hb hK hP hD hV _ _ hw ht hi hdg (fun H1 locs1 hP1 hD1 hV1 => kk H1 locs1 _ _ hP1 hD1 hV1 (ra_G_setW hG hle hw ?_) hS3)
        exact ⟨cA, _, .long, rfl, ht, ra_wr_R (V := fun z => Value.long z) h2 hi h1 (fun z => ⟨z, rfl⟩) hf⟩
      · cases h
    · cases h
  · split at h
    · next hk hj =>
      split at h
      · next q =>
        cases h
        obtain ⟨v, vs1, rfl, h1, hS1⟩ := ra_S_cons hS
        obtain ⟨w, vs2, rfl, h2, hS2⟩ := ra_S_cons hS1
        obtain ⟨u, vs3, rfl, h3, hS3⟩ := ra_S_cons hS2
        have e5 : v = .double _ := h1
        subst e5
        obtain ⟨i, rfl⟩ := ra_i1_R q.2.2 h2
        obtain ⟨a, en, rfl, hw, hle, hH⟩ := ra_cellW hS0 hG h3 hk
        obtain ⟨cA, f, ty, rfl, ht, hf⟩ := hH
        have e2 := ra_G_ty hG ht q.1
        subst e2
        have hi := ra_inb_R q.2.1 h2
        have e3 := ra_cix_R hj h2 hi
        refine va_dast hx hb hK hP hD hV _ _ hw ht hi hdg (fun H1 locs1 hP1 hD1 hV1 => kk H1 locs1 _ _ hP1 hD1 hV1 (ra_G_setW hG hle hw ?_) hS3)
        refine ⟨cA, _, .double, rfl, ht, fun j hj => ?_⟩
        unfold ra_at vf_upd
        rw [e3]
        split
        · next z => rw [if_pos z.symm]; exact h1
        · next z => rw [if_neg (fun y => z y.symm), ra_at_filter z]; exact hf j hj
      · cases h
    · cases h
  · cases h
end RA6
