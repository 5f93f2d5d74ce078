/-! The fast walk's rows: cells. -/
section RBH
variable {cd : ra_Cd} {Ps : List ra_Mt} {M : ra_Mt} {pc len : Nat} {ig : Instr}
/-- the slow walk's functions, row by row -/
theorem rq_gf (ah : List ra_E) (ci k : Nat) (q j : Int) (st : List ra_V) : ra_gf ah ci k ((3, q, j) :: st) = (match ah[q.toNat]? with
    | some (0, ci', _, _, _, fs) => if ci' = ci then (match fs[k]? with
      | some a => some (a :: st)
      | none => none) else none
    | _ => none) := rfl
theorem rq_pf (ah : List ra_E) (ci k : Nat) (ty : FieldType) (a : ra_V) (q j : Int) (st : List ra_V) : ra_pf ah ci k ty (a :: (3, q, j) :: st) = (match ra_hw ah q.toNat with
    | some (0, ci', n, d, ex, fs) => if ci' = ci ∧ ra_fit ty a = true ∧ k < fs.length then some (ah.set q.toNat (0, ci', n, d, ex, fs.set k a), st) else none
    | _ => none) := rfl
theorem rq_iald (ah : List ra_E) (ta : List FieldType) (i : ra_V) (k j : Int) (st : List ra_V) : ra_ald ah ta .iaload 1 (i :: (3, k, j) :: st) = (match ah[k.toNat]? with
    | some (1, t0, n, d, ex, _) => if ta[t0]? = some FieldType.int ∧ ra_inb i n = true ∧ ra_i1 i = true then some (ra_rdI d ex i :: st) else none
    | _ => none) := rfl
theorem rq_bald (ah : List ra_E) (ta : List FieldType) (i : ra_V) (k j : Int) (st : List ra_V) : ra_ald ah ta .baload 1 (i :: (3, k, j) :: st) = (match ah[k.toNat]? with
    | some (1, t0, n, d, ex, _) => if (ta[t0]? = some FieldType.byte ∨ ta[t0]? = some FieldType.boolean) ∧ ra_inb i n = true ∧ ra_i1 i = true then some (ra_rdI d ex i :: st) else none
    | _ => none) := rfl
theorem rq_lald (ah : List ra_E) (ta : List FieldType) (i : ra_V) (k j : Int) (st : List ra_V) : ra_ald ah ta .laload 1 (i :: (3, k, j) :: st) = (match ah[k.toNat]? with
    | some (2, t0, n, d, ex, _) => if ta[t0]? = some FieldType.long ∧ ra_inb i n = true ∧ ra_i1 i = true then some (ra_rdL d ex i :: st) else none
    | _ => none) := rfl
theorem rq_aald (ah : List ra_E) (ta : List FieldType) (i : ra_V) (k j : Int) (st : List ra_V) : ra_ald ah ta .aaload 1 (i :: (3, k, j) :: st) = (match ah[k.toNat]?, ra_cix i with
    | some (3, t0, n, d, ex, _), some j => match ta[t0]? with
      | some (FieldType.object _) => if ra_inb i n = true ∧ ra_i1 i = true then some (ra_at d ex j :: st) else none
      | some (FieldType.array _) => if ra_inb i n = true ∧ ra_i1 i = true then some (ra_at d ex j :: st) else none
      | _ => none
    | _, _ => none) := rfl
theorem rq_dald (ah : List ra_E) (ta : List FieldType) (i : ra_V) (k j : Int) (st : List ra_V) : ra_ald ah ta .daload 1 (i :: (3, k, j) :: st) = (match ah[k.toNat]?, ra_cix i with
    | some (4, t0, n, d, ex, _), some j => if ta[t0]? = some FieldType.double ∧ ra_inb i n = true ∧ ra_i1 i = true then some (ra_at d ex j :: st) else none
    | _, _ => none) := rfl
theorem rq_alen (ah : List ra_E) (ta : List FieldType) (k j : Int) (st : List ra_V) : ra_ald ah ta .arraylength 1 ((3, k, j) :: st) = (match ah[k.toNat]? with
    | some (1, _, n, _, _, _) => some (ra_k (Int32.ofNat n) :: st)
    | some (2, _, n, _, _, _) => some (ra_k (Int32.ofNat n) :: st)
    | some (3, _, n, _, _, _) => some (ra_k (Int32.ofNat n) :: st)
    | _ => none) := rfl
theorem rq_iast (ah : List ra_E) (ta : List FieldType) (x i : ra_V) (k j : Int) (st : List ra_V) : ra_ast ah ta .iastore 1 (x :: i :: (3, k, j) :: st) = (match ra_hw ah k.toNat with
    | some (1, t0, n, d, ex, fs) => if ta[t0]? = some FieldType.int ∧ ra_inb i n = true ∧ ra_i1 i = true ∧ ra_i1 x = true then some (ah.set k.toNat (1, t0, n, (ra_wr d ex ra_any x i).1, (ra_wr d ex ra_any x i).2, fs), st) else none
    | _ => none) := rfl
theorem rq_bast (ah : List ra_E) (ta : List FieldType) (x i : ra_V) (k j : Int) (st : List ra_V) : ra_ast ah ta .bastore 1 (x :: i :: (3, k, j) :: st) = (match ra_hw ah k.toNat with
    | some (1, t0, n, d, ex, fs) => if ra_inb i n = true ∧ ra_i1 i = true ∧ ra_i1 x = true then (if ta[t0]? = some FieldType.byte then some (ah.set k.toNat (1, t0, n, (ra_wr d ex ra_any (ra_u (vp_nar FieldType.byte) x) i).1, (ra_wr d ex ra_any (ra_u (vp_nar FieldType.byte) x) i).2, fs), st) else if ta[t0]? = some FieldType.boolean then some (ah.set k.toNat (1, t0, n, (ra_wr d ex ra_any (ra_u (vp_nar FieldType.boolean) x) i).1, (ra_wr d ex ra_any (ra_u (vp_nar FieldType.boolean) x) i).2, fs), st) else none) else none
    | _ => none) := rfl
theorem rq_last (ah : List ra_E) (ta : List FieldType) (x i : ra_V) (k j : Int) (st : List ra_V) : ra_ast ah ta .lastore 1 (x :: i :: (3, k, j) :: st) = (match ra_hw ah k.toNat with
    | some (2, t0, n, d, ex, fs) => if ta[t0]? = some FieldType.long ∧ ra_inb i n = true ∧ ra_i1 i = true ∧ ra_l1 x = true then some (ah.set k.toNat (2, t0, n, (ra_wr d ex (2, 0, 0) x i).1, (ra_wr d ex (2, 0, 0) x i).2, fs), st) else none
    | _ => none) := rfl
theorem rq_dast (ah : List ra_E) (ta : List FieldType) (x y : Int) (i : ra_V) (k j : Int) (st : List ra_V) : ra_ast ah ta .dastore 1 ((5, x, y) :: i :: (3, k, j) :: st) = (match ra_hw ah k.toNat, ra_cix i with
    | some (4, t0, n, d, ex, fs), some j => if ta[t0]? = some FieldType.double ∧ ra_inb i n = true ∧ ra_i1 i = true then some (ah.set k.toNat (4, t0, n, d, (j, (5, x, y)) :: ex.filter (fun q => !(q.1 == j)), fs), st) else none
    | _, _ => none) := rfl
theorem rq_aas (ah : List ra_E) (ta : List FieldType) (kx j : Int) (i : ra_V) (k z : Int) (st : List ra_V) : ra_aas ah ta ((3, kx, j) :: i :: (3, k, z) :: st) = (match ra_hw ah k.toNat, ra_hw ah kx.toNat with
    | some (3, t0, n, d, ex, fs), some (0, ci, _, _, _, _) => match vwCl[ci]? with
      | some r => (match ta[t0]? with
        | some (FieldType.object E) => if (E = r.1 ∨ (r.1, E) ∈ ra_yes) ∧ ra_inb i n = true ∧ ra_i1 i = true then (match ra_cix i with
          | some i0 => some (ah.set k.toNat (3, t0, n, d, (i0, (3, kx, j)) :: ex.filter (fun q => !(q.1 == i0)), fs), st)
          | none => none) else none
        | _ => none)
      | none => none
    | _, _ => none) := rfl
theorem rq_copy (ah : List ra_E) (ta : List FieldType) (n dp sp : ra_V) (k2 j2 k1 j1 : Int) (st : List ra_V) : ra_copy ah ta (n :: dp :: (3, k2, j2) :: sp :: (3, k1, j1) :: st) = (match ra_hw ah k1.toNat, ra_hw ah k2.toNat, ra_cix n, ra_cix dp, ra_cix sp with
    | some (1, t1, n1, d1, ex1, _), some (1, t2, n2, d2, ex2, f2), some n0, some dp0, some sp0 =>
      if ra_inb n (n1 + 1) = true ∧ ra_inb dp (n2 + 1) = true ∧ ra_inb sp (n1 + 1) = true ∧ ra_i1 n = true ∧ ra_i1 dp = true ∧ ra_i1 sp = true ∧ d1 = d2 ∧ sp0 + n0 ≤ n1 ∧ dp0 + n0 ≤ n2 ∧ ta[t1]? = ta[t2]? ∧ (ta[t1]? = some FieldType.byte ∨ ta[t1]? = some FieldType.int) then
        some (ah.set k2.toNat (1, t2, n2, d2, ra_shift ex1 sp0 dp0 n0 ++ ra_outs ex2 dp0 n0, f2), st) else none
    | _, _, _, _, _ => none) := rfl
theorem rq_thr (ah : List ra_E) (k j : Int) (st : List ra_V) : ra_thr ah .athrow 1 ((3, k, j) :: st) = (match ra_hw ah k.toNat with
    | some (0, ci, _, _, _, _) => (vwCl[ci]?).map (fun r => r.1)
    | _ => none) := rfl
theorem rq_rec (M : ra_Mt) (ah : List ra_E) (k j : Int) (st : List ra_V) : ra_rec M ah ((3, k, j) :: st) = (match ah[k.toNat]? with
    | some (0, ci, _, _, _, _) => decide ((vwCl[ci]?).map (fun r => r.1) = some (ra_My M).cls)
    | _ => false) := rfl
theorem rq_xi (M : ra_Mt) (pc : Nat) (k j : Int) (st : List ra_V) (ah : List ra_E) (ta : List FieldType) (a : ra_A) (i : Nat) : ra_xi M pc ((3, k, j) :: st) ah ta a i = (match ra_find (ra_Ml M) i with
    | some (16, _) => some (pc + 3, st, ah, ta, (a.1, a.2.1, max a.2.2.1 1, max a.2.2.2 ((st.map ra_c).sum + 12)))
    | _ => none) := rfl
theorem rb_re_app {ta : List FieldType} {f e : ra_E} (h : rb_re ta f e) (ty : List FieldType) : rb_re (ta ++ ty) f e := ⟨h.1, h.2.1, h.2.2.1, fun z => by
  obtain ⟨ty1, h1, h2⟩ := h.2.2.2 z
  exact ⟨ty1, ra_gl h1, h2⟩⟩
theorem rb_re_o {ta : List FieldType} {f e : ra_E} (h : rb_re ta f e) (h0 : f.1 = 0) : e = f := by
  obtain ⟨a, b, c⟩ := f
  obtain ⟨a', b', c'⟩ := e
  obtain ⟨h1, h2, h3, -⟩ := h
  dsimp only at h0 h1 h2 h3
  rw [← h1, h3 h0, ← h2]
theorem rb_re_a {ta : List FieldType} {g tg : Nat} {r : Nat × ra_V × List (Nat × ra_V) × List ra_V} {e : ra_E} (h : rb_re ta (g + 1, tg, r) e) : ∃ t0 ty, e = (g + 1, t0, r) ∧ ta[t0]? = some ty ∧ rb_tys[tg]? = some ty := by
  obtain ⟨a', b', c'⟩ := e
  obtain ⟨h1, h2, -, h4⟩ := h
  dsimp only at h1 h2 h4
  obtain ⟨ty, h5, h6⟩ := h4 (Nat.succ_ne_zero g)
  exact ⟨b', ty, by rw [← h1, ← h2], h5, h6⟩
theorem rb_Rel_set {t : rb_W} {c k : Nat} {ah : List ra_E} {ta : List FieldType} {f0 f e : ra_E} (h : rb_Rel t c ah ta) (hg : rb_get 11 t k = some f0) (he : rb_re ta f e) : rb_Rel (rb_set 11 t k f) c (ah.set k e) ta := by
  refine ⟨by rw [List.length_set]; exact h.1, fun j f2 hj => ?_⟩
  rw [rb_get_set 11 t k f j (rb_get_lt 11 t k f0 hg)] at hj
  obtain ⟨e0, h1, -⟩ := h.2 k f0 hg
  by_cases z : j = k
  · subst z
    rw [if_pos rfl] at hj
    cases hj
    exact ⟨e, by rw [List.getElem?_set_self (List.getElem?_eq_some_iff.mp h1).1], he⟩
  · rw [if_neg z] at hj
    obtain ⟨e2, h3, h4⟩ := h.2 j f2 hj
    exact ⟨e2, by rw [List.getElem?_set_ne (fun y => z y.symm)]; exact h3, h4⟩
theorem rb_Rel_new {t : rb_W} {c : Nat} {ah : List ra_E} {ta : List FieldType} {f e : ra_E} (h : rb_Rel t c ah ta) (hc : c < 2048) (ty : List FieldType) (he : rb_re (ta ++ ty) f e) : rb_Rel (rb_set 11 t c f) (Nat.succ c) (ah ++ [e]) (ta ++ ty) := by
  refine ⟨by rw [List.length_append, h.1]; rfl, fun j f2 hj => ?_⟩
  rw [rb_get_set 11 t c f j hc] at hj
  by_cases z : j = c
  · subst z
    rw [if_pos rfl] at hj
    cases hj
    exact ⟨e, by rw [← h.1]; simp, he⟩
  · rw [if_neg z] at hj
    obtain ⟨e2, h3, h4⟩ := h.2 j f2 hj
    exact ⟨e2, ra_gl h3, rb_re_app h4 ty⟩
/-- how a step of the slow walk is found -/
theorem rb_0s_pre {al : List (Nat × ra_V)} {st st' : List ra_V} {ah ah' : List ra_E} {ta ta' : List FieldType} {a a' : ra_A} {pc' : Nat} (h1 : ra_push al ig len = none) (h2 : ra_st ig len st = none) (h3 : ra_sto (ra_Mn M) al ig len st = none) (h4 : ra_br pc ig len st = none) (h5 : ra_ald ah ta ig len st = none) (h6 : ra_ast ah ta ig len st = none) (h : ra_0s cd M pc st ah ta a ig len = some (pc', st', ah', ta', a')) : ra_pre cd M pc al st ah ta a ig len = some (pc', al, st', ah', ta', a') := by
  unfold ra_pre
  rw [h1]; dsimp only
  rw [h2]; dsimp only
  rw [h3]; dsimp only
  rw [h4]; dsimp only
  rw [h5]; dsimp only
  rw [h6]; dsimp only
  rw [h]
theorem rb_ald_pre {al : List (Nat × ra_V)} {st st' : List ra_V} {ah : List ra_E} {ta : List FieldType} {a : ra_A} (h1 : ra_push al ig len = none) (h2 : ra_st ig len st = none) (h3 : ra_sto (ra_Mn M) al ig len st = none) (h4 : ra_br pc ig len st = none) (h5 : ra_ald ah ta ig len st = some st') : ra_pre cd M pc al st ah ta a ig len = some (pc + len, al, st', ah, ta, a) := by
  unfold ra_pre
  rw [h1]; dsimp only
  rw [h2]; dsimp only
  rw [h3]; dsimp only
  rw [h4]; dsimp only
  rw [h5]
theorem rb_ast_pre {al : List (Nat × ra_V)} {st st' : List ra_V} {ah ah' : List ra_E} {ta : List FieldType} {a : ra_A} (h1 : ra_push al ig len = none) (h2 : ra_st ig len st = none) (h3 : ra_sto (ra_Mn M) al ig len st = none) (h4 : ra_br pc ig len st = none) (h5 : ra_ald ah ta ig len st = none) (h6 : ra_ast ah ta ig len st = some (ah', st')) : ra_pre cd M pc al st ah ta a ig len = some (pc + len, al, st', ah', ta, a) := by
  unfold ra_pre
  rw [h1]; dsimp only
  rw [h2]; dsimp only
  rw [h3]; dsimp only
  rw [h4]; dsimp only
  rw [h5]; dsimp only
  rw [h6]
/-- fields -/
noncomputable def rb_gfd (ci k pc' : Nat) : rb_F := fun k1 _ _ _ al st t c a => rb_l st (fun x st => rb_w (Nat.beq x.1 3) (rb_o (rb_get 11 t (Int.toNat x.2.1)) (fun f => rb_w (Nat.beq f.1 0) (rb_w (Nat.beq f.2.1 ci) (rb_o (rb_nth f.2.2.2.2.2 k) (fun v => k1 pc' al (v :: st) t c a))))))
theorem rk_getfield {i ci k pc' : Nat} (hh : ra_find (ra_Mh M) pc = none) (hd : decode (ra_Mc M) pc = .ok (.getfield i, 3)) (hp : pc + 3 = pc') (hf : ra_find (ra_Mf M) i = some (ci, k)) : rb_Ok cd Ps M pc (rb_gfd ci k pc') := by
  subst hp
  refine rb_ok1 hh hd (fun k1 k2 k3 k4 al st t c a C h => ?_)
  obtain ⟨x, s, eL, hL⟩ := rb_l_i (show rb_l st _ = some C from h); clear h; subst eL; have h := hL; clear hL
  obtain ⟨q1, h⟩ := rb_w_i h
  obtain ⟨f, q2, h⟩ := rb_o_i h
  obtain ⟨q3, h⟩ := rb_w_i h
  obtain ⟨q4, h⟩ := rb_w_i h
  obtain ⟨v, q5, h⟩ := rb_o_i h
  refine ⟨_, _, _, _, _, _, h, fun ah ta hR => ⟨ah, ta, hR, rb_fr_r _, ?_⟩⟩
  obtain ⟨e, g1, g2⟩ := hR.2 _ _ q2
  have e1 := rb_re_o g2 (Nat.eq_of_beq_eq_true q3)
  subst e1
  obtain ⟨x1, x2, x3⟩ := x
  replace q1 : x1 = 3 := Nat.eq_of_beq_eq_true q1
  subst q1
  obtain ⟨f1, f2, f3, f4, f5, f6⟩ := e
  replace q3 : f1 = 0 := Nat.eq_of_beq_eq_true q3
  replace q4 : f2 = ci := Nat.eq_of_beq_eq_true q4
  subst q3 q4
  rw [rb_nth_e] at q5
  dsimp only at q5 g1
  refine rb_0s_pre rfl rfl rfl rfl rfl rfl ?_
  show ra_xg M pc _ ah ta a i = _
  unfold ra_xg
  rw [hf]
  show ra_xs (pc + 3) ah ta a (ra_gf ah f2 k ((3, x2, x3) :: s)) = _
  have e5 : ra_gf ah f2 k ((3, x2, x3) :: s) = some (v :: s) := by
    rw [rq_gf, g1]
    exact (if_pos rfl).trans (by rw [q5])
  rw [e5]
  rfl
noncomputable def rb_pfd (ci k : Nat) (ty : FieldType) (pc' : Nat) : rb_F := fun k1 _ _ _ al st t c a => rb_l st (fun v st => rb_l st (fun x st => rb_w (Nat.beq x.1 3) (rb_w (Nat.ble ra_S0 (Int.toNat x.2.1)) (rb_o (rb_get 11 t (Int.toNat x.2.1)) (fun f => rb_w (Nat.beq f.1 0) (rb_w (Nat.beq f.2.1 ci) (rb_w (ra_fit ty v) (rb_o (rb_nth f.2.2.2.2.2 k) (fun _ => k1 pc' al st (rb_set 11 t (Int.toNat x.2.1) (0, ci, f.2.2.1, f.2.2.2.1, f.2.2.2.2.1, rb_upd f.2.2.2.2.2 k v)) c a)))))))))
theorem rb_hw_e {ah : List ra_E} {k : Nat} (h : Nat.ble ra_S0 k = true) : ra_hw ah k = ah[k]? := if_pos (Nat.le_of_ble_eq_true h)
theorem rk_putfield {i ci k pc' : Nat} {ty : FieldType} {fin : Bool} (hh : ra_find (ra_Mh M) pc = none) (hd : decode (ra_Mc M) pc = .ok (.putfield i, 3)) (hp : pc + 3 = pc') (hf : ra_find (ra_Mf M) i = some (ci, k)) (hty : (cd ci).bind (fun fs => fs[k]?) = some (ty, fin)) (hfin : (!fin || ra_own M ci) = true) : rb_Ok cd Ps M pc (rb_pfd ci k ty pc') := by
  subst hp
  refine rb_ok1 hh hd (fun k1 k2 k3 k4 al st t c a C h => ?_)
  obtain ⟨v, s, eL, hL⟩ := rb_l_i (show rb_l st _ = some C from h); clear h; subst eL; have h := hL; clear hL
  obtain ⟨x, s, eL, hL⟩ := rb_l_i h; clear h; subst eL; have h := hL; clear hL
  obtain ⟨q1, h⟩ := rb_w_i h
  obtain ⟨q0, h⟩ := rb_w_i h
  obtain ⟨f, q2, h⟩ := rb_o_i h
  obtain ⟨q3, h⟩ := rb_w_i h
  obtain ⟨q4, h⟩ := rb_w_i h
  obtain ⟨q6, h⟩ := rb_w_i h
  obtain ⟨w, q5, h⟩ := rb_o_i h
  refine ⟨_, _, _, _, _, _, h, fun ah ta hR => ?_⟩
  obtain ⟨e, g1, g2⟩ := hR.2 _ _ q2
  have e1 := rb_re_o g2 (Nat.eq_of_beq_eq_true q3)
  subst e1
  obtain ⟨x1, x2, x3⟩ := x
  replace q1 : x1 = 3 := Nat.eq_of_beq_eq_true q1
  subst q1
  obtain ⟨f1, f2, f3, f4, f5, f6⟩ := e
  replace q3 : f1 = 0 := Nat.eq_of_beq_eq_true q3
  replace q4 : f2 = ci := Nat.eq_of_beq_eq_true q4
  subst q3 q4
  rw [rb_nth_e] at q5
  dsimp only at q5 g1 q0 q2
  refine ⟨_, ta, rb_Rel_set hR q2 (f := (0, f2, f3, f4, f5, rb_upd f6 k v)) (e := (0, f2, f3, f4, f5, rb_upd f6 k v)) ⟨rfl, rfl, fun _ => rfl, fun z => absurd rfl z⟩, rb_fr_s q0, ?_⟩
  refine rb_0s_pre rfl rfl rfl rfl rfl rfl ?_
  show ra_xp cd M pc _ ah ta a i = _
  unfold ra_xp
  rw [hf]
  try dsimp only
  rw [hty]
  try dsimp only
  rw [if_pos hfin]
  show ra_xh (pc + 3) ta a (ra_pf ah f2 k ty (v :: (3, x2, x3) :: s)) = _
  have e5 : ra_pf ah f2 k ty (v :: (3, x2, x3) :: s) = some (ah.set x2.toNat (0, f2, f3, f4, f5, rb_upd f6 k v), s) := by
    rw [rq_pf, rb_hw_e q0, g1]
    exact (if_pos ⟨rfl, q6, (List.getElem?_eq_some_iff.mp q5).1⟩).trans (by rw [rb_upd_e])
  rw [e5]
  rfl
/-- numbers between bounds -/
noncomputable def rb_z0 (x : Int) : Bool := Int.rec (fun _ => true) (fun _ => false) x
theorem rb_z0_t {x : Int} (h : rb_z0 x = true) : 0 ≤ x := by
  cases x with
  | ofNat m => exact Int.natCast_nonneg m
  | negSucc m => cases h
noncomputable def rb_zl (x : Int) (n : Nat) : Bool := Int.rec (fun m => Nat.ble (Nat.succ m) n) (fun _ => true) x
theorem rb_zl_t {x : Int} {n : Nat} (h : rb_zl x n = true) : x < (n : Int) := by
  cases x with
  | ofNat m =>
    replace h : m + 1 ≤ n := Nat.le_of_ble_eq_true h
    show (m : Int) < n
    omega
  | negSucc m => exact Int.lt_of_lt_of_le (Int.negSucc_lt_zero m) (Int.natCast_nonneg n)
noncomputable def rb_inb (i : ra_V) (n : Nat) : Bool := rb_i (Nat.beq i.1 0) (rb_i (rb_z0 i.2.1) (rb_zl i.2.2 n) false) false
theorem rb_an_t {b c : Bool} (h : rb_i b c false = true) : b = true ∧ c = true := by
  cases b with
  | true => exact ⟨rfl, h⟩
  | false => cases h
theorem rb_inb_t {i : ra_V} {n : Nat} (h : rb_inb i n = true) : ra_inb i n = true ∧ ra_i1 i = true := by
  obtain ⟨t, x, y⟩ := i
  obtain ⟨h1, h2⟩ := rb_an_t h
  obtain ⟨h2, h3⟩ := rb_an_t h2
  replace h1 : t = 0 := Nat.eq_of_beq_eq_true h1
  subst h1
  exact ⟨decide_eq_true ⟨rb_z0_t h2, rb_zl_t h3⟩, rfl⟩
/-- a place in a row that is known -/
noncomputable def rb_ix (i : ra_V) : Option Nat := rb_w (Nat.beq i.1 0) (rb_w (rb_zeq i.2.1 i.2.2) (some (Int.toNat i.2.1)))
theorem rb_ix_t {i : ra_V} {j : Nat} (h : rb_ix i = some j) : ra_cix i = some j := by
  obtain ⟨t, x, y⟩ := i
  obtain ⟨h1, h⟩ := rb_w_i (show rb_w _ _ = some j from h)
  obtain ⟨h2, h⟩ := rb_w_i h
  replace h1 : t = 0 := Nat.eq_of_beq_eq_true h1
  replace h2 : x = y := rb_zeq_t h2
  subst h1 h2
  exact (if_pos rfl).trans h
/-- rows are read -/
noncomputable def rb_rd (d : ra_V) (ex : List (Nat × ra_V)) (i : ra_V) : ra_V := rb_i (rb_i (Nat.beq i.1 0) (rb_zeq i.2.1 i.2.2) false) (rb_at d ex (Int.toNat i.2.1)) (ra_rdI d ex i)
theorem rb_rd_e {d : ra_V} {ex : List (Nat × ra_V)} {i : ra_V} : rb_rd d ex i = ra_rdI d ex i := by
  unfold rb_rd
  rw [rb_i_e]
  split
  · next h =>
    obtain ⟨h1, h2⟩ := rb_an_t h
    obtain ⟨t, x, y⟩ := i
    replace h1 : t = 0 := Nat.eq_of_beq_eq_true h1
    replace h2 : x = y := rb_zeq_t h2
    subst h1 h2
    rw [rb_at_e]
    exact (if_pos rfl).symm
  · rfl
noncomputable def rb_ild (g1 g2 pc' : Nat) : rb_F := fun k1 _ _ _ al st t c a => rb_l st (fun i st => rb_l st (fun x st => rb_w (Nat.beq x.1 3) (rb_o (rb_get 11 t (Int.toNat x.2.1)) (fun f => rb_w (Nat.beq f.1 1) (rb_w (rb_i (Nat.beq f.2.1 g1) true (Nat.beq f.2.1 g2)) (rb_w (rb_inb i f.2.2.1) (rb_fv (rb_rd f.2.2.2.1 f.2.2.2.2.1 i) (fun v => k1 pc' al (v :: st) t c a))))))))
theorem rb_ild_ok {g1 g2 pc' : Nat} (hh : ra_find (ra_Mh M) pc = none) (hd : decode (ra_Mc M) pc = .ok (ig, 1)) (hp : pc + 1 = pc') (n1 : ∀ al, ra_push al ig 1 = none) (n2 : ∀ st, ra_st ig 1 st = none) (n3 : ∀ al st, ra_sto (ra_Mn M) al ig 1 st = none) (n4 : ∀ st, ra_br pc ig 1 st = none)
    (hf : ∀ (ah : List ra_E) (ta : List FieldType) (i : ra_V) (q : Int) (j : Int) (st : List ra_V) (t0 n : Nat) (d : ra_V) (ex : List (Nat × ra_V)) (fs : List ra_V) (ty : FieldType), ah[q.toNat]? = some (1, t0, n, d, ex, fs) → ta[t0]? = some ty → (rb_tys[g1]? = some ty ∨ rb_tys[g2]? = some ty) → ra_inb i n = true → ra_i1 i = true → ra_ald ah ta ig 1 (i :: (3, q, j) :: st) = some (ra_rdI d ex i :: st)) : rb_Ok cd Ps M pc (rb_ild g1 g2 pc') := by
  subst hp
  refine rb_ok1 hh hd (fun k1 k2 k3 k4 al st t c a C h => ?_)
  obtain ⟨i, s, eL, hL⟩ := rb_l_i (show rb_l st _ = some C from h); clear h; subst eL; have h := hL; clear hL
  obtain ⟨x, s, eL, hL⟩ := rb_l_i h; clear h; subst eL; have h := hL; clear hL
  obtain ⟨q1, h⟩ := rb_w_i h
  obtain ⟨f, q2, h⟩ := rb_o_i h
  obtain ⟨q3, h⟩ := rb_w_i h
  obtain ⟨q4, h⟩ := rb_w_i h
  obtain ⟨q5, h⟩ := rb_w_i h
  rw [rb_fv_e, rb_rd_e] at h
  refine ⟨_, _, _, _, _, _, h, fun ah ta hR => ⟨ah, ta, hR, rb_fr_r _, ?_⟩⟩
  obtain ⟨e, u1, u2⟩ := hR.2 _ _ q2
  obtain ⟨x1, x2, x3⟩ := x
  replace q1 : x1 = 3 := Nat.eq_of_beq_eq_true q1
  subst q1
  obtain ⟨f1, f2, f3, f4, f5, f6⟩ := f
  replace q3 : f1 = 1 := Nat.eq_of_beq_eq_true q3
  subst q3
  obtain ⟨t0, ty, rfl, w1, w2⟩ := rb_re_a u2
  obtain ⟨v1, v2⟩ := rb_inb_t q5
  refine rb_ald_pre (n1 _) (n2 _) (n3 _ _) (n4 _) (hf ah ta i x2 x3 s t0 f3 f4 f5 f6 ty u1 w1 ?_ v1 v2)
  rcases rb_or_t q4 with z | z
  · replace z : f2 = g1 := Nat.eq_of_beq_eq_true z
    subst z; exact Or.inl w2
  · replace z : f2 = g2 := Nat.eq_of_beq_eq_true z
    subst z; exact Or.inr w2
theorem rk_iaload {pc' : Nat} (hh : ra_find (ra_Mh M) pc = none) (hd : decode (ra_Mc M) pc = .ok (.iaload, 1)) (hp : pc + 1 = pc') : rb_Ok cd Ps M pc (rb_ild 0 0 pc') :=
  rb_ild_ok hh hd hp (fun _ => rfl) (fun _ => rfl) (fun _ _ => rfl) (fun _ => rfl) (fun ah ta i q j st t0 n d ex fs ty h1 h2 h3 h4 h5 => by
    have e : ty = .int := by rcases h3 with h3 | h3 <;> exact (Option.some.inj h3).symm
    subst e
    rw [rq_iald, h1]
    try dsimp only
    exact if_pos ⟨h2, h4, h5⟩)
theorem rk_baload {pc' : Nat} (hh : ra_find (ra_Mh M) pc = none) (hd : decode (ra_Mc M) pc = .ok (.baload, 1)) (hp : pc + 1 = pc') : rb_Ok cd Ps M pc (rb_ild 1 2 pc') :=
  rb_ild_ok hh hd hp (fun _ => rfl) (fun _ => rfl) (fun _ _ => rfl) (fun _ => rfl) (fun ah ta i q j st t0 n d ex fs ty h1 h2 h3 h4 h5 => by
    have e : ta[t0]? = some .byte ∨ ta[t0]? = some .boolean := by
      rcases h3 with h3 | h3
      · exact Or.inl (h2.trans h3.symm)
      · exact Or.inr (h2.trans h3.symm)
    rw [rq_bald, h1]
    try dsimp only
    exact if_pos ⟨e, h4, h5⟩)
/-- longs, doubles, references: at a place that is known -/
noncomputable def rb_old (g : Nat) (p : Nat → Bool) (pc' : Nat) : rb_F := fun k1 _ _ _ al st t c a => rb_l st (fun i st => rb_l st (fun x st => rb_w (Nat.beq x.1 3) (rb_o (rb_get 11 t (Int.toNat x.2.1)) (fun f => rb_w (Nat.beq f.1 (Nat.succ g)) (rb_w (p f.2.1) (rb_w (rb_inb i f.2.2.1) (rb_o (rb_ix i) (fun j => rb_fv (rb_at f.2.2.2.1 f.2.2.2.2.1 j) (fun v => k1 pc' al (v :: st) t c a)))))))))
theorem rb_old_ok {g : Nat} {p : Nat → Bool} {pc' : Nat} (hh : ra_find (ra_Mh M) pc = none) (hd : decode (ra_Mc M) pc = .ok (ig, 1)) (hp : pc + 1 = pc') (n1 : ∀ al, ra_push al ig 1 = none) (n2 : ∀ st, ra_st ig 1 st = none) (n3 : ∀ al st, ra_sto (ra_Mn M) al ig 1 st = none) (n4 : ∀ st, ra_br pc ig 1 st = none)
    (hf : ∀ (ah : List ra_E) (ta : List FieldType) (i : ra_V) (k : Nat) (q : Int) (j : Int) (st : List ra_V) (t0 n tg : Nat) (d : ra_V) (ex : List (Nat × ra_V)) (fs : List ra_V) (ty : FieldType), ah[q.toNat]? = some (g + 1, t0, n, d, ex, fs) → ta[t0]? = some ty → p tg = true → rb_tys[tg]? = some ty → ra_inb i n = true → ra_i1 i = true → ra_cix i = some k → ra_ald ah ta ig 1 (i :: (3, q, j) :: st) = some (ra_at d ex k :: st)) : rb_Ok cd Ps M pc (rb_old g p pc') := by
  subst hp
  refine rb_ok1 hh hd (fun k1 k2 k3 k4 al st t c a C h => ?_)
  obtain ⟨i, s, eL, hL⟩ := rb_l_i (show rb_l st _ = some C from h); clear h; subst eL; have h := hL; clear hL
  obtain ⟨x, s, eL, hL⟩ := rb_l_i h; clear h; subst eL; have h := hL; clear hL
  obtain ⟨q1, h⟩ := rb_w_i h
  obtain ⟨f, q2, h⟩ := rb_o_i h
  obtain ⟨q3, h⟩ := rb_w_i h
  obtain ⟨q4, h⟩ := rb_w_i h
  obtain ⟨q5, h⟩ := rb_w_i h
  obtain ⟨k, q6, h⟩ := rb_o_i h
  rw [rb_fv_e, rb_at_e] at h
  refine ⟨_, _, _, _, _, _, h, fun ah ta hR => ⟨ah, ta, hR, rb_fr_r _, ?_⟩⟩
  obtain ⟨e, u1, u2⟩ := hR.2 _ _ q2
  obtain ⟨x1, x2, x3⟩ := x
  replace q1 : x1 = 3 := Nat.eq_of_beq_eq_true q1
  subst q1
  obtain ⟨f1, f2, f3, f4, f5, f6⟩ := f
  replace q3 : f1 = g + 1 := Nat.eq_of_beq_eq_true q3
  subst q3
  obtain ⟨t0, ty, rfl, w1, w2⟩ := rb_re_a u2
  obtain ⟨v1, v2⟩ := rb_inb_t q5
  exact rb_ald_pre (n1 _) (n2 _) (n3 _ _) (n4 _) (hf ah ta i k x2 x3 s t0 f3 f2 f4 f5 f6 ty u1 w1 q4 w2 v1 v2 (rb_ix_t q6))
theorem rk_laload {pc' : Nat} (hh : ra_find (ra_Mh M) pc = none) (hd : decode (ra_Mc M) pc = .ok (.laload, 1)) (hp : pc + 1 = pc') : rb_Ok cd Ps M pc (rb_old 1 (fun g => Nat.beq g 3) pc') :=
  rb_old_ok hh hd hp (fun _ => rfl) (fun _ => rfl) (fun _ _ => rfl) (fun _ => rfl) (fun ah ta i k q j st t0 n tg d ex fs ty h1 h2 hg h3 h4 h5 h6 => by
    replace hg : tg = 3 := Nat.eq_of_beq_eq_true hg
    subst hg
    have e : ty = .long := (Option.some.inj h3).symm
    subst e
    have e2 : ra_rdL d ex i = ra_at d ex k := by
      obtain ⟨g, x, y⟩ := i
      unfold ra_cix at h6
      split at h6
      · next lo hi e9 =>
        cases e9
        split at h6
        · next z => cases h6; exact if_pos z
        · cases h6
      · cases h6
    rw [rq_lald, h1]
    try dsimp only
    exact (if_pos ⟨h2, h4, h5⟩).trans (by rw [e2]))
theorem rk_daload {pc' : Nat} (hh : ra_find (ra_Mh M) pc = none) (hd : decode (ra_Mc M) pc = .ok (.daload, 1)) (hp : pc + 1 = pc') : rb_Ok cd Ps M pc (rb_old 3 (fun g => Nat.beq g 4) pc') :=
  rb_old_ok hh hd hp (fun _ => rfl) (fun _ => rfl) (fun _ _ => rfl) (fun _ => rfl) (fun ah ta i k q j st t0 n tg d ex fs ty h1 h2 hg h3 h4 h5 h6 => by
    replace hg : tg = 4 := Nat.eq_of_beq_eq_true hg
    subst hg
    have e : ty = .double := (Option.some.inj h3).symm
    subst e
    rw [rq_dald, h1, h6]
    try dsimp only
    exact if_pos ⟨h2, h4, h5⟩)
theorem rk_aaload {pc' : Nat} (hh : ra_find (ra_Mh M) pc = none) (hd : decode (ra_Mc M) pc = .ok (.aaload, 1)) (hp : pc + 1 = pc') : rb_Ok cd Ps M pc (rb_old 2 (fun g => Nat.ble 5 g) pc') :=
  rb_old_ok hh hd hp (fun _ => rfl) (fun _ => rfl) (fun _ _ => rfl) (fun _ => rfl) (fun ah ta i k q j st t0 n tg d ex fs ty h1 h2 hg h3 h4 h5 h6 => by
    replace hg : 5 ≤ tg := Nat.le_of_ble_eq_true hg
    have key : (∃ C, ty = .object C) ∨ ∃ T, ty = .array T := by
      have all : ∀ g, 5 ≤ g → ∀ ty, rb_tys[g]? = some ty → (∃ C, ty = .object C) ∨ ∃ T, ty = .array T := by
        intro g hg ty h
        match g, hg with
        | 5, _ => cases h; exact Or.inr ⟨_, rfl⟩
        | 6, _ => cases h; exact Or.inr ⟨_, rfl⟩
        | 7, _ => cases h; exact Or.inl ⟨_, rfl⟩
        | 8, _ => cases h; exact Or.inl ⟨_, rfl⟩
        | 9, _ => cases h; exact Or.inl ⟨_, rfl⟩
        | 10, _ => cases h; exact Or.inl ⟨_, rfl⟩
        | 11, _ => cases h; exact Or.inl ⟨_, rfl⟩
        | 12, _ => cases h; exact Or.inl ⟨_, rfl⟩
        | 13, _ => cases h; exact Or.inl ⟨_, rfl⟩
        | g + 14, _ => cases h
      exact all tg hg ty h3
    rw [rq_aald, h1, h6]
    show (match ta[t0]? with
      | some (FieldType.object _) => if ra_inb i n = true ∧ ra_i1 i = true then some (ra_at d ex k :: st) else none
      | some (FieldType.array _) => if ra_inb i n = true ∧ ra_i1 i = true then some (ra_at d ex k :: st) else none
      | _ => none) = _
    rw [h2]
    rcases key with ⟨C, rfl⟩ | ⟨T, rfl⟩
    · exact if_pos ⟨h4, h5⟩
    · exact if_pos ⟨h4, h5⟩)
noncomputable def rb_aln (pc' : Nat) : rb_F := fun k1 _ _ _ al st t c a => rb_l st (fun x st => rb_w (Nat.beq x.1 3) (rb_o (rb_get 11 t (Int.toNat x.2.1)) (fun f => rb_w (rb_i (Nat.beq f.1 1) true (rb_i (Nat.beq f.1 2) true (Nat.beq f.1 3))) (rb_w (Nat.ble (Nat.succ f.2.2.1) 2147483648) (k1 pc' al ((0, Int.ofNat f.2.2.1, Int.ofNat f.2.2.1) :: st) t c a)))))
theorem rb_kn {n : Nat} (h : Nat.ble (Nat.succ n) 2147483648 = true) : ra_k (Int32.ofNat n) = (0, Int.ofNat n, Int.ofNat n) := by
  replace h : n + 1 ≤ 2147483648 := Nat.le_of_ble_eq_true h
  have e : (Int32.ofNat n).toInt = (n : Int) := nI_toInt (n := n) (by omega)
  unfold ra_k
  rw [e]
  rfl
theorem rk_arraylength {pc' : Nat} (hh : ra_find (ra_Mh M) pc = none) (hd : decode (ra_Mc M) pc = .ok (.arraylength, 1)) (hp : pc + 1 = pc') : rb_Ok cd Ps M pc (rb_aln pc') := by
  subst hp
  refine rb_ok1 hh hd (fun k1 k2 k3 k4 al st t c a C h => ?_)
  obtain ⟨x, s, eL, hL⟩ := rb_l_i (show rb_l st _ = some C from h); clear h; subst eL; have h := hL; clear hL
  obtain ⟨q1, h⟩ := rb_w_i h
  obtain ⟨f, q2, h⟩ := rb_o_i h
  obtain ⟨q3, h⟩ := rb_w_i h
  obtain ⟨q4, h⟩ := rb_w_i h
  refine ⟨_, _, _, _, _, _, h, fun ah ta hR => ⟨ah, ta, hR, rb_fr_r _, ?_⟩⟩
  obtain ⟨e, u1, u2⟩ := hR.2 _ _ q2
  obtain ⟨x1, x2, x3⟩ := x
  replace q1 : x1 = 3 := Nat.eq_of_beq_eq_true q1
  subst q1
  obtain ⟨f1, f2, f3, f4, f5, f6⟩ := f
  have key : f1 = 1 ∨ f1 = 2 ∨ f1 = 3 := by
    rcases rb_or_t q3 with z | z
    · exact Or.inl (Nat.eq_of_beq_eq_true z)
    · rcases rb_or_t z with z | z
      · exact Or.inr (Or.inl (Nat.eq_of_beq_eq_true z))
      · exact Or.inr (Or.inr (Nat.eq_of_beq_eq_true z))
  refine rb_ald_pre rfl rfl rfl rfl ?_
  rw [← rb_kn q4]
  dsimp only at u1
  rcases key with rfl | rfl | rfl <;>
  · obtain ⟨t0, ty, rfl, w1, w2⟩ := rb_re_a u2
    rw [rq_alen, u1]
    rfl
end RBH
