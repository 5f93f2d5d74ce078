section RA5
/-- a cell: 0 an object (its class by its place, its fields); 1 ints (bytes, booleans), 2 longs, 3 references: the place of its type, its length, what stands at most places, the others; 9: nothing is known -/
abbrev ra_E : Type := Nat × Nat × Nat × ra_V × List (Nat × ra_V) × List ra_V
def ra_at (d : ra_V) : List (Nat × ra_V) → Nat → ra_V
  | [], _ => d
  | (i, a) :: ex, j => if i = j then a else ra_at d ex j
def ra_H (ad : List Nat) (tys : List (ClassId × FieldType)) : ra_E → va_E → Prop
  | (0, ci, _, _, _, fs), en => ∃ vs, en = .inr (ci, vs) ∧ ra_S ad fs vs
  | (1, t0, n, d, ex, _), en => ∃ (cA : ClassId) (f : Nat → Int32) (ty : FieldType), en = .inl (cA, n, .inl f) ∧ tys[t0]? = some (cA, ty) ∧ (ty = .byte → ∀ j, j < n → fits .byte (.int (f j)) = true) ∧ ∀ j, j < n → ra_R ad (ra_at d ex j) (.int (f j))
  | (2, t0, n, d, ex, _), en => ∃ (cA : ClassId) (f : Nat → Int64) (ty : FieldType), en = .inl (cA, n, .inr (.inl f)) ∧ tys[t0]? = some (cA, ty) ∧ ∀ j, j < n → ra_R ad (ra_at d ex j) (.long (f j))
  | (3, t0, n, d, ex, _), en => ∃ (cA : ClassId) (f : Nat → Option Nat) (ty : FieldType), en = .inl (cA, n, .inr (.inr (.inr (.inr f)))) ∧ tys[t0]? = some (cA, ty) ∧ ∀ j, j < n → ra_R ad (ra_at d ex j) (va_rf (f j))
  | (4, t0, n, d, ex, _), en => ∃ (cA : ClassId) (f : Nat → UInt64) (ty : FieldType), en = .inl (cA, n, .inr (.inr (.inr (.inl f)))) ∧ tys[t0]? = some (cA, ty) ∧ ∀ j, j < n → ra_R ad (ra_at d ex j) (.double (f j))
  | (9, _, _, _, _, _), _ => True
  | _, _ => False
def ra_Ws (ad : List Nat) (tys : List (ClassId × FieldType)) : List ra_E → va_W → Prop
  | [], [] => True
  | e :: ah, q :: ws => ra_H ad tys e q.2 ∧ ra_Ws ad tys ah ws
  | _, _ => False
theorem ra_Ws_get {ad : List Nat} {tys : List (ClassId × FieldType)} : ∀ {ah : List ra_E} {ws : va_W} {k : Nat} {e : ra_E}, ra_Ws ad tys ah ws → ah[k]? = some e → ∃ q en, ws[k]? = some (q, en) ∧ ra_H ad tys e en
  | [], _, _, _, _, h => by simp at h
  | _ :: _, [], _, _, hW, _ => hW.elim
  | e :: ah, q :: ws, 0, e', hW, h => by simp at h; subst h; exact ⟨q.1, q.2, rfl, hW.1⟩
  | e :: ah, q :: ws, k + 1, e', hW, h => by simpa using ra_Ws_get (k := k) hW.2 (by simpa using h)
theorem ra_Ws_set {ad : List Nat} {tys : List (ClassId × FieldType)} : ∀ {ah : List ra_E} {ws : va_W} {k q : Nat} {e' : ra_E} {en' : va_E}, ra_Ws ad tys ah ws → ra_H ad tys e' en' → ra_Ws ad tys (ah.set k e') (ws.set k (q, en'))
  | [], [], _, _, _, _, _, _ => trivial
  | [], _ :: _, _, _, _, _, hW, _ => hW.elim
  | _ :: _, [], _, _, _, _, hW, _ => hW.elim
  | e :: ah, p :: ws, 0, q, e', en', hW, h => ⟨h, hW.2⟩
  | e :: ah, p :: ws, k + 1, q, e', en', hW, h => ⟨hW.1, ra_Ws_set (k := k) hW.2 h⟩
theorem ra_Ws_app {ad : List Nat} {tys : List (ClassId × FieldType)} : ∀ {ah : List ra_E} {ws : va_W} {q : Nat} {e : ra_E} {en : va_E}, ra_Ws ad tys ah ws → ra_H ad tys e en → ra_Ws ad tys (ah ++ [e]) (ws ++ [(q, en)])
  | [], [], _, _, _, _, h => ⟨h, trivial⟩
  | [], _ :: _, _, _, _, hW, _ => hW.elim
  | _ :: _, [], _, _, _, hW, _ => hW.elim
  | e :: ah, p :: ws, q, e', en', hW, h => ⟨hW.1, ra_Ws_app hW.2 h⟩
theorem ra_Ws_len {ad : List Nat} {tys : List (ClassId × FieldType)} : ∀ {ah : List ra_E} {ws : va_W}, ra_Ws ad tys ah ws → ah.length = ws.length
  | [], [], _ => rfl
  | [], _ :: _, hW => hW.elim
  | _ :: _, [], hW => hW.elim
  | _ :: _, _ :: _, hW => by simp [ra_Ws_len hW.2]
/-- more cells, more types -/
theorem ra_R_app {ad x : List Nat} {a : ra_V} {v : Value} (h : ra_R ad a v) : ra_R (ad ++ x) a v := by
  unfold ra_R at h ⊢
  split at h
  · exact h
  · exact h
  · exact h
  · obtain ⟨q, h1, h2⟩ := h
    exact ⟨q, by rw [List.getElem?_append_left (List.getElem?_eq_some_iff.mp h1).1]; exact h1, h2⟩
  · exact h
  · exact h
  · exact h
  · exact h
  · exact h.elim
theorem ra_S_app {ad x : List Nat} : ∀ {st : List ra_V} {vs : List Value}, ra_S ad st vs → ra_S (ad ++ x) st vs
  | [], [], _ => trivial
  | [], _ :: _, h => h.elim
  | _ :: _, [], h => h.elim
  | _ :: _, _ :: _, h => ⟨ra_R_app h.1, ra_S_app h.2⟩
theorem ra_L_app {ad x : List Nat} : ∀ {al : List (Nat × ra_V)} {lv : List (Nat × Value)}, ra_L ad al lv → ra_L (ad ++ x) al lv
  | [], [], _ => trivial
  | [], _ :: _, h => h.elim
  | _ :: _, [], h => by simp [ra_L] at h
  | (_, _) :: _, (_, _) :: _, h => ⟨h.1, ra_R_app h.2.1, ra_L_app h.2.2⟩
theorem ra_gl {α : Type} {l x : List α} {k : Nat} {a : α} (h : l[k]? = some a) : (l ++ x)[k]? = some a := by
  rw [List.getElem?_append_left (List.getElem?_eq_some_iff.mp h).1]; exact h
theorem ra_H_app {ad x : List Nat} {tys ty : List (ClassId × FieldType)} {e : ra_E} {en : va_E} (h : ra_H ad tys e en) : ra_H (ad ++ x) (tys ++ ty) e en := by
  unfold ra_H at h ⊢
  split at h
  · obtain ⟨vs, h1, h2⟩ := h; exact ⟨vs, h1, ra_S_app h2⟩
  · obtain ⟨cA, f, t, h1, h2, h3, h4⟩ := h; exact ⟨cA, f, t, h1, ra_gl h2, h3, fun j hj => ra_R_app (h4 j hj)⟩
  · obtain ⟨cA, f, t, h1, h2, h4⟩ := h; exact ⟨cA, f, t, h1, ra_gl h2, fun j hj => ra_R_app (h4 j hj)⟩
  · obtain ⟨cA, f, t, h1, h2, h4⟩ := h; exact ⟨cA, f, t, h1, ra_gl h2, fun j hj => ra_R_app (h4 j hj)⟩
  · obtain ⟨cA, f, t, h1, h2, h4⟩ := h; exact ⟨cA, f, t, h1, ra_gl h2, fun j hj => ra_R_app (h4 j hj)⟩
  · trivial
  · exact h.elim
theorem ra_Ws_more {ad x : List Nat} {tys ty : List (ClassId × FieldType)} : ∀ {ah : List ra_E} {ws : va_W}, ra_Ws ad tys ah ws → ra_Ws (ad ++ x) (tys ++ ty) ah ws
  | [], [], _ => trivial
  | [], _ :: _, h => h.elim
  | _ :: _, [], h => h.elim
  | _ :: _, _ :: _, h => ⟨ra_H_app h.1, ra_Ws_more h.2⟩
/-- the world -/
def ra_G (ah : List ra_E) (ta : List FieldType) (ad : List Nat) (tys : List (ClassId × FieldType)) (ws : va_W) : Prop := ws.map (fun q => q.1) = ad ∧ tys.map (fun q => q.2) = ta ∧ ra_Ws ad tys ah ws
theorem ra_G_ad {ah : List ra_E} {ta : List FieldType} {ad : List Nat} {tys : List (ClassId × FieldType)} {ws : va_W} (h : ra_G ah ta ad tys ws) {k q q' : Nat} {en : va_E} (h1 : ws[k]? = some (q, en)) (h2 : ad[k]? = some q') : q' = q := by
  rw [← h.1, List.getElem?_map, h1] at h2
  exact (Option.some.inj h2).symm
theorem ra_G_ty {ah : List ra_E} {ta : List FieldType} {ad : List Nat} {tys : List (ClassId × FieldType)} {ws : va_W} (h : ra_G ah ta ad tys ws) {t : Nat} {cA : ClassId} {ty ty' : FieldType} (h1 : tys[t]? = some (cA, ty)) (h2 : ta[t]? = some ty') : ty = ty' := by
  rw [← h.2.1, List.getElem?_map, h1] at h2
  exact Option.some.inj h2
theorem ra_G_set {ah : List ra_E} {ta : List FieldType} {ad : List Nat} {tys : List (ClassId × FieldType)} {ws : va_W} (h : ra_G ah ta ad tys ws) {k q : Nat} {en en' : va_E} {e' : ra_E} (h1 : ws[k]? = some (q, en)) (h2 : ra_H ad tys e' en') : ra_G (ah.set k e') ta ad tys (ws.set k (q, en')) := by
  refine ⟨?_, h.2.1, ra_Ws_set h.2.2 h2⟩
  rw [← h.1, List.map_set]
  apply List.ext_getElem?
  intro i
  rw [List.getElem?_set]
  split
  · next e =>
    subst e
    rw [List.getElem?_map, h1]
    have := (List.getElem?_eq_some_iff.mp h1).1
    simp [this]
  · rfl
theorem ra_G_new {ah : List ra_E} {ta : List FieldType} {ad : List Nat} {tys : List (ClassId × FieldType)} {ws : va_W} (h : ra_G ah ta ad tys ws) {q : Nat} {en : va_E} {e : ra_E} (ty : List (ClassId × FieldType)) (h2 : ra_H (ad ++ [q]) (tys ++ ty) e en) : ra_G (ah ++ [e]) (ta ++ ty.map (fun q => q.2)) (ad ++ [q]) (tys ++ ty) (ws ++ [(q, en)]) := by
  refine ⟨by rw [List.map_append, h.1]; rfl, by rw [List.map_append, h.2.1], ra_Ws_app (ra_Ws_more h.2.2) h2⟩
theorem ra_G_len {ah : List ra_E} {ta : List FieldType} {ad : List Nat} {tys : List (ClassId × FieldType)} {ws : va_W} (h : ra_G ah ta ad tys ws) : ah.length = ad.length := by
  rw [ra_Ws_len h.2.2, ← h.1, List.length_map]
theorem ra_G_nt {ah : List ra_E} {ta : List FieldType} {ad : List Nat} {tys : List (ClassId × FieldType)} {ws : va_W} (h : ra_G ah ta ad tys ws) : ta.length = tys.length := by
  rw [← h.2.1, List.length_map]
/-- the cells that stand ahead of the world's own and are only read: how many -/
def ra_S0 : Nat := 140
def ra_hw (ah : List ra_E) (k : Nat) : Option ra_E := if ra_S0 ≤ k then ah[k]? else none
theorem ra_hw_i {ah : List ra_E} {k : Nat} {e : ra_E} (h : ra_hw ah k = some e) : ra_S0 ≤ k ∧ ah[k]? = some e := by
  unfold ra_hw at h
  split at h
  · next q => exact ⟨q, h⟩
  · cases h
theorem ra_G_setW {ah : List ra_E} {ta : List FieldType} {ad : List Nat} {tys : List (ClassId × FieldType)} {wS ws : va_W} (h : ra_G ah ta ad tys (wS ++ ws)) {k q : Nat} {en en' : va_E} {e' : ra_E} (hle : wS.length ≤ k) (h1 : ws[k - wS.length]? = some (q, en)) (h2 : ra_H ad tys e' en') : ra_G (ah.set k e') ta ad tys (wS ++ ws.set (k - wS.length) (q, en')) := by
  have h3 : (wS ++ ws)[k]? = some (q, en) := by rw [List.getElem?_append_right hle]; exact h1
  have h4 := ra_G_set h h3 h2
  rw [List.set_append_right _ _ hle] at h4
  exact h4
theorem ra_G_newW {ah : List ra_E} {ta : List FieldType} {ad : List Nat} {tys : List (ClassId × FieldType)} {wS ws : va_W} (h : ra_G ah ta ad tys (wS ++ ws)) {q : Nat} {en : va_E} {e : ra_E} (ty : List (ClassId × FieldType)) (h2 : ra_H (ad ++ [q]) (tys ++ ty) e en) : ra_G (ah ++ [e]) (ta ++ ty.map (fun q => q.2)) (ad ++ [q]) (tys ++ ty) (wS ++ (ws ++ [(q, en)])) := by
  rw [← List.append_assoc]
  exact ra_G_new h ty h2
/-- the newest cell -/
theorem ra_new_R (ad : List Nat) (q : Nat) (j : Int) : ra_R (ad ++ [q]) (3, (ad.length : Int), j) (.ref q) := ⟨q, by simp, rfl⟩
/-- reading and writing rows -/
def ra_inb : ra_V → Nat → Bool
  | (0, lo, hi), n => decide (0 ≤ lo ∧ hi < (n : Int))
  | _, _ => false
theorem ra_inb_R {ad : List Nat} {a : ra_V} {n : Nat} {i : Int32} (h : ra_inb a n = true) (hR : ra_R ad a (.int i)) : vp_in i n := by
  unfold ra_inb at h
  split at h
  · obtain ⟨u, e1, p1, p2⟩ := hR
    cases e1
    have := of_decide_eq_true h
    exact vp_in_iff.mpr (by omega)
  · cases h
theorem ra_cln (i : Int32) : i.toNatClampNeg = i.toInt.toNat := rfl
def ra_rdI (d : ra_V) (ex : List (Nat × ra_V)) : ra_V → ra_V
  | (0, lo, hi) => if lo = hi then ra_at d ex lo.toNat else if ex.all (fun q => decide ((q.1 : Int) < lo ∨ hi < (q.1 : Int) ∨ q.2 = d)) = true then d else ra_any
  | _ => ra_any
theorem ra_at_d {d : ra_V} {lo hi : Int} : ∀ {ex : List (Nat × ra_V)} {j : Nat}, ex.all (fun q => decide ((q.1 : Int) < lo ∨ hi < (q.1 : Int) ∨ q.2 = d)) = true → lo ≤ (j : Int) → (j : Int) ≤ hi → ra_at d ex j = d
  | [], _, _, _, _ => rfl
  | (i, a) :: ex, j, h, h1, h2 => by
    rw [List.all_cons, Bool.and_eq_true] at h
    unfold ra_at
    split
    · next e =>
      subst e
      have := of_decide_eq_true h.1
      dsimp only at this
      rcases this with q | q | q
      · exact absurd q (by omega)
      · exact absurd q (by omega)
      · exact q
    · exact ra_at_d h.2 h1 h2
theorem ra_rdI_R {ad : List Nat} {d : ra_V} {ex : List (Nat × ra_V)} {a : ra_V} {i : Int32} {n : Nat} {f : Nat → Int32} (ha : ra_R ad a (.int i)) (hi : vp_in i n) (hf : ∀ j, j < n → ra_R ad (ra_at d ex j) (.int (f j))) : ra_R ad (ra_rdI d ex a) (.int (f i.toNatClampNeg)) := by
  have hn := vp_in_iff.mp hi
  have hj : i.toNatClampNeg < n := by rw [ra_cln]; omega
  unfold ra_rdI
  split
  · obtain ⟨u, e1, p1, p2⟩ := ha
    cases e1
    split
    · next lo hi2 e =>
      subst e
      have : lo.toNat = i.toNatClampNeg := by rw [ra_cln]; omega
      rw [this]
      exact hf _ hj
    · split
      · next q =>
        have := hf _ hj
        rwa [ra_at_d q (by rw [ra_cln]; omega) (by rw [ra_cln]; omega)] at this
      · exact ra_R_any _
  · exact ra_R_any _
def ra_rdL (d : ra_V) (ex : List (Nat × ra_V)) : ra_V → ra_V
  | (0, lo, hi) => if lo = hi then ra_at d ex lo.toNat else (2, 0, 0)
  | _ => (2, 0, 0)
theorem ra_rdL_R {ad : List Nat} {d : ra_V} {ex : List (Nat × ra_V)} {a : ra_V} {i : Int32} {n : Nat} {f : Nat → Int64} (ha : ra_R ad a (.int i)) (hi : vp_in i n) (hf : ∀ j, j < n → ra_R ad (ra_at d ex j) (.long (f j))) : ra_R ad (ra_rdL d ex a) (.long (f i.toNatClampNeg)) := by
  have hn := vp_in_iff.mp hi
  have hj : i.toNatClampNeg < n := by rw [ra_cln]; omega
  unfold ra_rdL
  split
  · obtain ⟨u, e1, p1, p2⟩ := ha
    cases e1
    split
    · next lo hi2 e =>
      subst e
      have : lo.toNat = i.toNatClampNeg := by rw [ra_cln]; omega
      rw [this]
      exact hf _ hj
    · exact ⟨_, rfl⟩
  · exact ⟨_, rfl⟩
theorem ra_at_filter {d : ra_V} {i : Nat} : ∀ {ex : List (Nat × ra_V)} {j : Nat}, i ≠ j → ra_at d (ex.filter (fun q => !(q.1 == i))) j = ra_at d ex j
  | [], _, _ => rfl
  | (k, a) :: ex, j, h => by
    rw [List.filter_cons]
    split
    · unfold ra_at
      split
      · rfl
      · exact ra_at_filter h
    · next q =>
      have e : k = i := by simpa using q
      rw [ra_at_filter h]
      conv => rhs; unfold ra_at
      rw [if_neg (by rw [e]; exact h)]
/-- a row with a at the place i -/
def ra_wr (d : ra_V) (ex : List (Nat × ra_V)) (any : ra_V) (a : ra_V) : ra_V → ra_V × List (Nat × ra_V)
  | (0, lo, hi) => if lo = hi then (d, (lo.toNat, a) :: ex.filter (fun q => !(q.1 == lo.toNat))) else (any, [])
  | _ => (any, [])
theorem ra_wr_R {ad : List Nat} {d any b a : ra_V} {ex : List (Nat × ra_V)} {i : Int32} {n : Nat} {α : Type} {V : α → Value} {f : Nat → α} {x : α} (ha : ra_R ad a (.int i)) (hi : vp_in i n) (hb : ra_R ad b (V x)) (hany : ∀ z : α, ra_R ad any (V z)) (hf : ∀ j, j < n → ra_R ad (ra_at d ex j) (V (f j))) :
    ∀ j, j < n → ra_R ad (ra_at (ra_wr d ex any b a).1 (ra_wr d ex any b a).2 j) (V (if j = i.toNatClampNeg then x else f j)) := by
  have hn := vp_in_iff.mp hi
  intro j hj
  unfold ra_wr
  split
  · obtain ⟨u, e1, p1, p2⟩ := ha
    cases e1
    split
    · next lo hi2 e =>
      subst e
      have e2 : lo.toNat = i.toNatClampNeg := by rw [ra_cln]; omega
      unfold ra_at
      rw [e2]
      split
      · next e3 => rw [if_pos e3.symm]; exact hb
      · next e3 => rw [if_neg (fun z => e3 z.symm), ra_at_filter e3]; exact hf j hj
    · exact hany _
  · exact hany _
end RA5
