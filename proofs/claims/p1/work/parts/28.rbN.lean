/-! The fast walk's rows: what is written and made, constants, calls, ends. -/
section RBN
variable {cd : ra_Cd} {Ps : List ra_Mt} {M : ra_Mt} {pc len : Nat} {ig : Instr}
/-- numbers into rows, at a place that is known -/
noncomputable def rb_ast (g : Nat) (tg : Nat) (chk : ra_V → Bool) (cv : ra_V → ra_V) (pc' : Nat) : rb_F := fun k1 _ _ _ al st t c a => rb_l st (fun v st => rb_l st (fun i st => rb_l st (fun x st => rb_w (chk v) (rb_w (Nat.beq x.1 3) (rb_w (Nat.ble ra_S0 (Int.toNat x.2.1)) (rb_o (rb_get 11 t (Int.toNat x.2.1)) (fun f => rb_w (Nat.beq f.1 (Nat.succ g)) (rb_w (Nat.beq f.2.1 tg) (rb_w (rb_inb i f.2.2.1) (rb_o (rb_ix i) (fun j => rb_fv (cv v) (fun w => k1 pc' al st (rb_set 11 t (Int.toNat x.2.1) (Nat.succ g, tg, f.2.2.1, f.2.2.2.1, (j, w) :: f.2.2.2.2.1.filter (fun q => !(q.1 == j)), f.2.2.2.2.2)) c a))))))))))))
theorem rb_ast_ok {g tg : Nat} {chk : ra_V → Bool} {cv : ra_V → ra_V} {pc' : Nat} (hh : ra_find (ra_Mh M) pc = none) (hd : decode (ra_Mc M) pc = .ok (ig, 1)) (hp : pc + 1 = pc') (n1 : ∀ al, ra_push al ig 1 = none) (n2 : ∀ st, ra_st ig 1 st = none) (n3 : ∀ al st, ra_sto (ra_Mn M) al ig 1 st = none) (n4 : ∀ st, ra_br pc ig 1 st = none) (n5 : ∀ ah ta st, ra_ald ah ta ig 1 st = none)
    (hf : ∀ (ah : List ra_E) (ta : List FieldType) (v i : ra_V) (q z : Int) (j : Nat) (st : List ra_V) (t0 n : Nat) (d : ra_V) (ex : List (Nat × ra_V)) (fs : List ra_V) (ty : FieldType), chk v = true → ra_hw ah q.toNat = some (g + 1, t0, n, d, ex, fs) → ta[t0]? = some ty → rb_tys[tg]? = some ty → ra_inb i n = true → ra_i1 i = true → ra_cix i = some j → ra_ast ah ta ig 1 (v :: i :: (3, q, z) :: st) = some (ah.set q.toNat (g + 1, t0, n, d, (j, cv v) :: ex.filter (fun q => !(q.1 == j)), fs), st)) : rb_Ok cd Ps M pc (rb_ast g tg chk cv pc') := by
  subst hp
  refine rb_ok1 hh hd (fun k1 k2 k3 k4 al st t c a C h => ?_)
  obtain ⟨v, s, eL, hL⟩ := rb_l_i (show rb_l st _ = some C from h); clear h; subst eL; have h := hL; clear hL
  obtain ⟨i, s, eL, hL⟩ := rb_l_i h; clear h; subst eL; have h := hL; clear hL
  obtain ⟨x, s, eL, hL⟩ := rb_l_i h; clear h; subst eL; have h := hL; clear hL
  obtain ⟨q0, h⟩ := rb_w_i h
  obtain ⟨q1, h⟩ := rb_w_i h
  obtain ⟨q7, h⟩ := rb_w_i h
  obtain ⟨f, q2, h⟩ := rb_o_i h
  obtain ⟨q3, h⟩ := rb_w_i h
  obtain ⟨q4, h⟩ := rb_w_i h
  obtain ⟨q5, h⟩ := rb_w_i h
  obtain ⟨j, q6, h⟩ := rb_o_i h
  rw [rb_fv_e] at h
  refine ⟨_, _, _, _, _, _, h, fun ah ta hR => ?_⟩
  obtain ⟨e, u1, u2⟩ := hR.2 _ _ q2
  obtain ⟨x1, x2, x3⟩ := x
  replace q1 : x1 = 3 := Nat.eq_of_beq_eq_true q1
  subst q1
  obtain ⟨f1, f2, f3, f4, f5, f6⟩ := f
  replace q3 : f1 = g + 1 := Nat.eq_of_beq_eq_true q3
  replace q4 : f2 = tg := Nat.eq_of_beq_eq_true q4
  subst q3 q4
  obtain ⟨t0, ty, rfl, w1, w2⟩ := rb_re_a u2
  obtain ⟨v1, v2⟩ := rb_inb_t q5
  dsimp only at q2 q7 u1
  refine ⟨_, ta, rb_Rel_set hR q2 (f := (g + 1, f2, f3, f4, (j, cv v) :: f5.filter (fun q => !(q.1 == j)), f6)) (e := (g + 1, t0, f3, f4, (j, cv v) :: f5.filter (fun q => !(q.1 == j)), f6)) ⟨rfl, rfl, fun z => (by cases z), fun _ => ⟨ty, w1, w2⟩⟩, rb_fr_s q7, ?_⟩
  exact rb_ast_pre (n1 _) (n2 _) (n3 _ _) (n4 _) (n5 _ _ _) (hf ah ta v i x2 x3 j s t0 f3 f4 f5 f6 ty q0 ((rb_hw_e q7).trans u1) w1 w2 v1 v2 (rb_ix_t q6))
theorem rb_wr_k {d any w i : ra_V} {ex : List (Nat × ra_V)} {j : Nat} (h : ra_cix i = some j) : ra_wr d ex any w i = (d, (j, w) :: ex.filter (fun q => !(q.1 == j))) := by
  obtain ⟨g, x, y⟩ := i
  unfold ra_cix at h
  split at h
  · next lo hi e9 =>
    cases e9
    split at h
    · next z => cases h; exact if_pos z
    · cases h
  · cases h
theorem rk_iastore {pc' : Nat} (hh : ra_find (ra_Mh M) pc = none) (hd : decode (ra_Mc M) pc = .ok (.iastore, 1)) (hp : pc + 1 = pc') : rb_Ok cd Ps M pc (rb_ast 0 0 rb_si (fun v => v) pc') :=
  rb_ast_ok hh hd hp (fun _ => rfl) (fun _ => rfl) (fun _ _ => rfl) (fun _ => rfl) (fun _ _ _ => rfl) (fun ah ta v i q z j st t0 n d ex fs ty h0 h1 h2 h3 h4 h5 h6 => by
    have e : ty = .int := (Option.some.inj h3).symm
    subst e
    rw [rq_iast, h1]
    try dsimp only
    exact (if_pos ⟨h2, h4, h5, rb_ti_t h0⟩).trans (by rw [rb_wr_k h6]))
theorem rk_lastore {pc' : Nat} (hh : ra_find (ra_Mh M) pc = none) (hd : decode (ra_Mc M) pc = .ok (.lastore, 1)) (hp : pc + 1 = pc') : rb_Ok cd Ps M pc (rb_ast 1 3 rb_tl (fun v => v) pc') :=
  rb_ast_ok hh hd hp (fun _ => rfl) (fun _ => rfl) (fun _ _ => rfl) (fun _ => rfl) (fun _ _ _ => rfl) (fun ah ta v i q z j st t0 n d ex fs ty h0 h1 h2 h3 h4 h5 h6 => by
    have e : ty = .long := (Option.some.inj h3).symm
    subst e
    rw [rq_last, h1]
    try dsimp only
    exact (if_pos ⟨h2, h4, h5, rb_tl_t h0⟩).trans (by rw [rb_wr_k h6]))
theorem rk_dastore {pc' : Nat} (hh : ra_find (ra_Mh M) pc = none) (hd : decode (ra_Mc M) pc = .ok (.dastore, 1)) (hp : pc + 1 = pc') : rb_Ok cd Ps M pc (rb_ast 3 4 rb_sd (fun v => v) pc') :=
  rb_ast_ok hh hd hp (fun _ => rfl) (fun _ => rfl) (fun _ _ => rfl) (fun _ => rfl) (fun _ _ _ => rfl) (fun ah ta v i q z j st t0 n d ex fs ty h0 h1 h2 h3 h4 h5 h6 => by
    have e : ty = .double := (Option.some.inj h3).symm
    subst e
    obtain ⟨g, x, y⟩ := v
    replace h0 : g = 5 := Nat.eq_of_beq_eq_true h0
    subst h0
    rw [rq_dast, h1, h6]
    try dsimp only
    exact if_pos ⟨h2, h4, h5⟩)
theorem rk_bastore {pc' : Nat} (hh : ra_find (ra_Mh M) pc = none) (hd : decode (ra_Mc M) pc = .ok (.bastore, 1)) (hp : pc + 1 = pc') : rb_Ok cd Ps M pc (rb_ast 0 1 rb_si (ra_u (vp_nar .byte)) pc') :=
  rb_ast_ok hh hd hp (fun _ => rfl) (fun _ => rfl) (fun _ _ => rfl) (fun _ => rfl) (fun _ _ _ => rfl) (fun ah ta v i q z j st t0 n d ex fs ty h0 h1 h2 h3 h4 h5 h6 => by
    have e : ty = .byte := (Option.some.inj h3).symm
    subst e
    rw [rq_bast, h1]
    try dsimp only
    exact (if_pos ⟨h4, h5, rb_ti_t h0⟩).trans ((if_pos h2).trans (by rw [rb_wr_k h6])))
theorem rk_zastore {pc' : Nat} (hh : ra_find (ra_Mh M) pc = none) (hd : decode (ra_Mc M) pc = .ok (.bastore, 1)) (hp : pc + 1 = pc') : rb_Ok cd Ps M pc (rb_ast 0 2 rb_si (ra_u (vp_nar .boolean)) pc') :=
  rb_ast_ok hh hd hp (fun _ => rfl) (fun _ => rfl) (fun _ _ => rfl) (fun _ => rfl) (fun _ _ _ => rfl) (fun ah ta v i q z j st t0 n d ex fs ty h0 h1 h2 h3 h4 h5 h6 => by
    have e : ty = .boolean := (Option.some.inj h3).symm
    subst e
    have hn : ¬ ta[t0]? = some .byte := by rw [h2]; intro z; cases z
    rw [rq_bast, h1]
    try dsimp only
    exact (if_pos ⟨h4, h5, rb_ti_t h0⟩).trans ((if_neg hn).trans ((if_pos h2).trans (by rw [rb_wr_k h6]))))
/-- references into rows -/
noncomputable def rb_aas (tg ci : Nat) (pc' : Nat) : rb_F := fun k1 _ _ _ al st t c a => rb_l st (fun v st => rb_l st (fun i st => rb_l st (fun x st => rb_w (Nat.beq v.1 3) (rb_w (Nat.ble ra_S0 (Int.toNat v.2.1)) (rb_o (rb_get 11 t (Int.toNat v.2.1)) (fun fv => rb_w (Nat.beq fv.1 0) (rb_w (Nat.beq fv.2.1 ci) (rb_w (Nat.beq x.1 3) (rb_w (Nat.ble ra_S0 (Int.toNat x.2.1)) (rb_o (rb_get 11 t (Int.toNat x.2.1)) (fun f => rb_w (Nat.beq f.1 3) (rb_w (Nat.beq f.2.1 tg) (rb_w (rb_inb i f.2.2.1) (rb_o (rb_ix i) (fun j => k1 pc' al st (rb_set 11 t (Int.toNat x.2.1) (3, tg, f.2.2.1, f.2.2.2.1, (j, v) :: f.2.2.2.2.1.filter (fun q => !(q.1 == j)), f.2.2.2.2.2)) c a)))))))))))))))
theorem rk_aastore {tg ci pc' : Nat} {E C : String} (hh : ra_find (ra_Mh M) pc = none) (hd : decode (ra_Mc M) pc = .ok (.aastore, 1)) (hp : pc + 1 = pc') (hC : (vwCl[ci]?).map (fun r => r.1) = some C) (hE : rb_tys[tg]? = some (.object E)) (hy : E = C ∨ (C, E) ∈ ra_yes) : rb_Ok cd Ps M pc (rb_aas tg ci pc') := by
  subst hp
  refine rb_ok1 hh hd (fun k1 k2 k3 k4 al st t c a D h => ?_)
  obtain ⟨v, s, eL, hL⟩ := rb_l_i (show rb_l st _ = some D from h); clear h; subst eL; have h := hL; clear hL
  obtain ⟨i, s, eL, hL⟩ := rb_l_i h; clear h; subst eL; have h := hL; clear hL
  obtain ⟨x, s, eL, hL⟩ := rb_l_i h; clear h; subst eL; have h := hL; clear hL
  obtain ⟨p1, h⟩ := rb_w_i h
  obtain ⟨p2, h⟩ := rb_w_i h
  obtain ⟨fv, p3, h⟩ := rb_o_i h
  obtain ⟨p4, h⟩ := rb_w_i h
  obtain ⟨p5, h⟩ := rb_w_i h
  obtain ⟨q1, h⟩ := rb_w_i h
  obtain ⟨q7, h⟩ := rb_w_i h
  obtain ⟨f, q2, h⟩ := rb_o_i h
  obtain ⟨q3, h⟩ := rb_w_i h
  obtain ⟨q4, h⟩ := rb_w_i h
  obtain ⟨q5, h⟩ := rb_w_i h
  obtain ⟨j, q6, h⟩ := rb_o_i h
  refine ⟨_, _, _, _, _, _, h, fun ah ta hR => ?_⟩
  obtain ⟨e, u1, u2⟩ := hR.2 _ _ q2
  obtain ⟨ev, u3, u4⟩ := hR.2 _ _ p3
  have e1 := rb_re_o u4 (Nat.eq_of_beq_eq_true p4)
  subst e1
  obtain ⟨x1, x2, x3⟩ := x
  obtain ⟨y1, y2, y3⟩ := v
  replace q1 : x1 = 3 := Nat.eq_of_beq_eq_true q1
  replace p1 : y1 = 3 := Nat.eq_of_beq_eq_true p1
  subst q1 p1
  obtain ⟨f1, f2, f3, f4, f5, f6⟩ := f
  obtain ⟨g1, g2, g3⟩ := ev
  replace q3 : f1 = 3 := Nat.eq_of_beq_eq_true q3
  replace q4 : f2 = tg := Nat.eq_of_beq_eq_true q4
  replace p4 : g1 = 0 := Nat.eq_of_beq_eq_true p4
  replace p5 : g2 = ci := Nat.eq_of_beq_eq_true p5
  subst q3 q4 p4 p5
  obtain ⟨t0, ty, rfl, w1, w2⟩ := rb_re_a u2
  obtain ⟨v1, v2⟩ := rb_inb_t q5
  obtain ⟨r, hr, rfl⟩ := Option.map_eq_some_iff.mp hC
  have e9 : ty = .object E := Option.some.inj (w2.symm.trans hE)
  subst e9
  dsimp only at q2 q7 u1 u3 p2
  refine ⟨_, ta, rb_Rel_set hR q2 (f := (3, f2, f3, f4, (j, (3, y2, y3)) :: f5.filter (fun q => !(q.1 == j)), f6)) (e := (3, t0, f3, f4, (j, (3, y2, y3)) :: f5.filter (fun q => !(q.1 == j)), f6)) ⟨rfl, rfl, fun z => (by cases z), fun _ => ⟨_, w1, w2⟩⟩, rb_fr_s q7, ?_⟩
  refine rb_0s_pre rfl rfl rfl rfl rfl rfl ?_
  have e5 : ra_aas ah ta ((3, y2, y3) :: i :: (3, x2, x3) :: s) = some (ah.set x2.toNat (3, t0, f3, f4, (j, (3, y2, y3)) :: f5.filter (fun q => !(q.1 == j)), f6), s) := by
    rw [rq_aas, rb_hw_e q7, rb_hw_e p2, u1, u3]
    show (match vwCl[g2]? with
      | some r => (match ta[t0]? with
        | some (FieldType.object E) => if (E = r.1 ∨ (r.1, E) ∈ ra_yes) ∧ ra_inb i f3 = true ∧ ra_i1 i = true then (match ra_cix i with
          | some i0 => some (ah.set x2.toNat (3, t0, f3, f4, (i0, (3, y2, y3)) :: f5.filter (fun q => !(q.1 == i0)), f6), s)
          | none => none) else none
        | _ => none)
      | none => none) = _
    rw [hr]
    show (match ta[t0]? with
        | some (FieldType.object E) => if (E = r.1 ∨ (r.1, E) ∈ ra_yes) ∧ ra_inb i f3 = true ∧ ra_i1 i = true then (match ra_cix i with
          | some i0 => some (ah.set x2.toNat (3, t0, f3, f4, (i0, (3, y2, y3)) :: f5.filter (fun q => !(q.1 == i0)), f6), s)
          | none => none) else none
        | _ => none) = _
    rw [w1]
    exact (if_pos ⟨hy, v1, v2⟩).trans (by rw [rb_ix_t q6])
  show ra_xh (pc + 1) ta a (ra_aas ah ta ((3, y2, y3) :: i :: (3, x2, x3) :: s)) = _
  rw [e5]
  rfl
/-- what is made -/
noncomputable def rb_nw {R : Type} (c : Nat) (a : ra_A) (n : Nat) (k : Nat → ra_A → Option R) : Option R := rb_w (Nat.ble (Nat.succ c) 2048) (rb_fn (Nat.succ c) (fun c' => rb_fn (Nat.succ a.1) (fun x => rb_fn (Nat.add a.2.1 n) (fun y => k c' (x, y, a.2.2.1, a.2.2.2)))))
theorem rb_nw_i {R : Type} {c n : Nat} {a : ra_A} {k : Nat → ra_A → Option R} {r : R} (h : rb_nw c a n k = some r) : c < 2048 ∧ k (Nat.succ c) (a.1 + 1, a.2.1 + n, a.2.2.1, a.2.2.2) = some r := by
  obtain ⟨h1, h⟩ := rb_w_i (show rb_w _ _ = some r from h)
  rw [rb_fn_e, rb_fn_e, rb_fn_e] at h
  exact ⟨Nat.le_of_ble_eq_true h1, h⟩
noncomputable def rb_new (ci : Nat) (L : List ra_V) (n : Nat) (pc' : Nat) : rb_F := fun k1 _ _ _ al st t c a => rb_nw c a n (fun c' a' => k1 pc' al ((3, Int.ofNat c, 0) :: st) (rb_set 11 t c (0, ci, 0, (0, 0, 0), [], L)) c' a')
theorem rk_new {i ci n pc' : Nat} {L : List ra_V} {fs : List (FieldType × Bool)} (hh : ra_find (ra_Mh M) pc = none) (hd : decode (ra_Mc M) pc = .ok (.new i, 3)) (hp : pc + 3 = pc') (hf : ra_find (ra_Ml M) i = some (0, ci)) (hc : cd ci = some fs) (hL : fs.map (fun q => ra_df q.1) = L) (hn : fs.length = n) : rb_Ok cd Ps M pc (rb_new ci L n pc') := by
  subst hp hL hn
  refine rb_ok1 hh hd (fun k1 k2 k3 k4 al st t c a C h => ?_)
  obtain ⟨h1, h⟩ := rb_nw_i (show rb_nw c a _ _ = some C from h)
  refine ⟨_, _, _, _, _, _, h, fun ah ta hR => ⟨ah ++ [(0, ci, 0, (0, 0, 0), [], fs.map (fun q => ra_df q.1))], ta, ?_, rb_fr_0 _ _, ?_⟩⟩
  · have := rb_Rel_new hR h1 [] (f := (0, ci, 0, (0, 0, 0), [], fs.map (fun q => ra_df q.1))) (e := (0, ci, 0, (0, 0, 0), [], fs.map (fun q => ra_df q.1))) ⟨rfl, rfl, fun _ => rfl, fun z => absurd rfl z⟩
    rwa [List.append_nil] at this
  · refine rb_0s_pre rfl rfl rfl rfl rfl rfl ?_
    show ra_xn cd M pc st ah ta a i = _
    unfold ra_xn
    rw [hf]
    show (match cd ci with
      | some (fs : List (FieldType × Bool)) => some (pc + 3, (3, (ah.length : Int), 0) :: st, ah ++ ([(0, ci, 0, (0, 0, 0), [], fs.map (fun (q : FieldType × Bool) => ra_df q.1))] : List ra_E), ta, (a.1 + 1, a.2.1 + fs.length, a.2.2.1, a.2.2.2))
      | none => none) = _
    rw [hc, ← hR.1]
    rfl
noncomputable def rb_nel {R : Type} (x : ra_V) (k : Nat → Option R) : Option R := rb_w (Nat.beq x.1 0) (rb_w (rb_zeq x.2.1 x.2.2) (Int.rec (fun n => rb_w (Nat.ble n 1000000) (rb_fn n k)) (fun _ => none) x.2.1))
theorem rb_nel_i {R : Type} {x : ra_V} {k : Nat → Option R} {r : R} (h : rb_nel x k = some r) : ∃ N, ra_nel x = some N ∧ k N = some r := by
  obtain ⟨t, lo, hi⟩ := x
  obtain ⟨h1, h⟩ := rb_w_i (show rb_w _ _ = some r from h)
  obtain ⟨h2, h⟩ := rb_w_i h
  replace h1 : t = 0 := Nat.eq_of_beq_eq_true h1
  replace h2 : lo = hi := rb_zeq_t h2
  subst h1 h2
  cases lo with
  | negSucc m => cases h
  | ofNat m =>
    obtain ⟨h3, h⟩ := rb_w_i (show rb_w _ _ = some r from h)
    rw [rb_fn_e] at h
    replace h3 : m ≤ 1000000 := Nat.le_of_ble_eq_true h3
    refine ⟨m, ?_, h⟩
    show (if Int.ofNat m = Int.ofNat m ∧ 0 ≤ Int.ofNat m ∧ Int.ofNat m ≤ 1000000 then some (Int.ofNat m).toNat else none) = _
    rw [if_pos ⟨rfl, Int.natCast_nonneg m, by show (m : Int) ≤ 1000000; omega⟩]
    rfl
noncomputable def rb_nwa (g tg : Nat) (d : ra_V) (pc' : Nat) : rb_F := fun k1 _ _ _ al st t c a => rb_l st (fun x st => rb_nel x (fun N => rb_nw c a N (fun c' a' => k1 pc' al ((3, Int.ofNat c, 0) :: st) (rb_set 11 t c (g, tg, N, d, [], [])) c' a')))
theorem rb_new_re {ta : List FieldType} {g tg N : Nat} {d : ra_V} {ty : FieldType} (hg : ¬ g = 0) (ht : rb_tys[tg]? = some ty) : rb_re (ta ++ [ty]) (g, tg, N, d, [], []) (g, ta.length, N, d, [], []) := ⟨rfl, rfl, fun z => absurd z hg, fun _ => ⟨ty, by simp, ht⟩⟩
theorem rk_newarray {t : ArrayType} {ty : FieldType} {g tg pc' : Nat} {d : ra_V} (hh : ra_find (ra_Mh M) pc = none) (hd : decode (ra_Mc M) pc = .ok (.newarray t, 2)) (hp : pc + 2 = pc') (hn : ra_nar t = some (ty, g, d)) (hg : ¬ g = 0) (ht : rb_tys[tg]? = some ty) : rb_Ok cd Ps M pc (rb_nwa g tg d pc') := by
  subst hp
  refine rb_ok1 hh hd (fun k1 k2 k3 k4 al st t9 c a C h => ?_)
  obtain ⟨x, s, eL, hL⟩ := rb_l_i (show rb_l st _ = some C from h); clear h; subst eL; have h := hL; clear hL
  obtain ⟨N, hN, h⟩ := rb_nel_i h
  obtain ⟨h1, h⟩ := rb_nw_i h
  refine ⟨_, _, _, _, _, _, h, fun ah ta hR => ⟨_, _, rb_Rel_new hR h1 [ty] (rb_new_re hg ht), rb_fr_a _ _, ?_⟩⟩
  refine rb_0s_pre rfl rfl rfl rfl rfl rfl ?_
  show ra_xa pc (x :: s) ah ta a t = _
  unfold ra_xa
  try dsimp only
  rw [hn, hN, ← hR.1]
  rfl
theorem rk_anewarray {i ci tg pc' : Nat} {r : vw_C} (hh : ra_find (ra_Mh M) pc = none) (hd : decode (ra_Mc M) pc = .ok (.anewarray i, 3)) (hp : pc + 3 = pc') (hf : ra_find (ra_Ml M) (i + 65536) = some (5, ci)) (hr : vwCl[ci]? = some r) (ht : rb_tys[tg]? = some (.object r.1)) : rb_Ok cd Ps M pc (rb_nwa 3 tg (4, 0, 0) pc') := by
  subst hp
  refine rb_ok1 hh hd (fun k1 k2 k3 k4 al st t9 c a C h => ?_)
  obtain ⟨x, s, eL, hL⟩ := rb_l_i (show rb_l st _ = some C from h); clear h; subst eL; have h := hL; clear hL
  obtain ⟨N, hN, h⟩ := rb_nel_i h
  obtain ⟨h1, h⟩ := rb_nw_i h
  refine ⟨_, _, _, _, _, _, h, fun ah ta hR => ⟨_, _, rb_Rel_new hR h1 [.object r.1] (rb_new_re (by decide) ht), rb_fr_a _ _, ?_⟩⟩
  refine rb_0s_pre rfl rfl rfl rfl rfl rfl ?_
  show ra_xq M pc (x :: s) ah ta a i = _
  unfold ra_xq
  try dsimp only
  rw [hf, hN]
  show (match vwCl[ci]? with
      | some r => some (pc + 3, (3, (ah.length : Int), 0) :: s, ah ++ [(3, ta.length, N, (4, 0, 0), [], [])], ta ++ [FieldType.object r.1], (a.1 + 1, a.2.1 + N, a.2.2.1, a.2.2.2))
      | none => none) = _
  rw [hr, ← hR.1]
  rfl
theorem rk_anewB {i z pc' : Nat} (hh : ra_find (ra_Mh M) pc = none) (hd : decode (ra_Mc M) pc = .ok (.anewarray i, 3)) (hp : pc + 3 = pc') (hf : ra_find (ra_Ml M) (i + 65536) = some (15, z)) : rb_Ok cd Ps M pc (rb_nwa 3 6 (4, 0, 0) pc') := by
  subst hp
  refine rb_ok1 hh hd (fun k1 k2 k3 k4 al st t9 c a C h => ?_)
  obtain ⟨x, s, eL, hL⟩ := rb_l_i (show rb_l st _ = some C from h); clear h; subst eL; have h := hL; clear hL
  obtain ⟨N, hN, h⟩ := rb_nel_i h
  obtain ⟨h1, h⟩ := rb_nw_i h
  refine ⟨_, _, _, _, _, _, h, fun ah ta hR => ⟨_, _, rb_Rel_new hR h1 [.array .byte] (rb_new_re (by decide) rfl), rb_fr_a _ _, ?_⟩⟩
  refine rb_0s_pre rfl rfl rfl rfl rfl rfl ?_
  show ra_xq M pc (x :: s) ah ta a i = _
  unfold ra_xq
  try dsimp only
  rw [hf, hN, ← hR.1]
  rfl
theorem rk_anewO {i z pc' : Nat} (hh : ra_find (ra_Mh M) pc = none) (hd : decode (ra_Mc M) pc = .ok (.anewarray i, 3)) (hp : pc + 3 = pc') (hf : ra_find (ra_Ml M) (i + 65536) = some (21, z)) : rb_Ok cd Ps M pc (rb_nwa 3 7 (4, 0, 0) pc') := by
  subst hp
  refine rb_ok1 hh hd (fun k1 k2 k3 k4 al st t9 c a C h => ?_)
  obtain ⟨x, s, eL, hL⟩ := rb_l_i (show rb_l st _ = some C from h); clear h; subst eL; have h := hL; clear hL
  obtain ⟨N, hN, h⟩ := rb_nel_i h
  obtain ⟨h1, h⟩ := rb_nw_i h
  refine ⟨_, _, _, _, _, _, h, fun ah ta hR => ⟨_, _, rb_Rel_new hR h1 [.object "java/lang/Object"] (rb_new_re (by decide) rfl), rb_fr_a _ _, ?_⟩⟩
  refine rb_0s_pre rfl rfl rfl rfl rfl rfl ?_
  show ra_xq M pc (x :: s) ah ta a i = _
  unfold ra_xq
  try dsimp only
  rw [hf, hN, ← hR.1]
  rfl
/-- rows of rows -/
noncomputable def rb_fil (f : ra_E) (n : Nat) : rb_W → Nat → rb_W := Nat.rec (motive := fun _ => rb_W → Nat → rb_W) (fun t _ => t) (fun _ ih t c => ih (rb_set 11 t c f) (Nat.succ c)) n
theorem rb_fil_R {f e : ra_E} : ∀ (n : Nat) {t : rb_W} {c : Nat} {ah : List ra_E} {ta : List FieldType}, rb_Rel t c ah ta → c + n ≤ 2048 → rb_re ta f e → rb_Rel (rb_fil f n t c) (c + n) (ah ++ List.replicate n e) ta
  | 0, t, c, ah, ta, h, _, _ => by
    rw [List.replicate_zero, List.append_nil]
    exact h
  | n + 1, t, c, ah, ta, h, hc, he => by
    have h1 := rb_Rel_new h (by omega) [] (f := f) (e := e) (by rw [List.append_nil]; exact he)
    rw [List.append_nil] at h1
    have h2 := rb_fil_R n h1 (by omega) he
    rw [List.append_assoc] at h2
    have e1 : c.succ + n = c + (n + 1) := by omega
    rw [e1] at h2
    exact h2
noncomputable def rb_mna (q0 : Nat) (pc' : Nat) : rb_F := fun k1 _ _ _ al st t c a => rb_l st (fun y st => rb_l st (fun x st => rb_nel y (fun K => rb_nel x (fun N => rb_o (rb_get 11 t q0) (fun f0 => rb_w (Nat.beq f0.1 1) (rb_w (Nat.beq f0.2.1 0) (rb_w (Nat.ble (Nat.add (Nat.succ c) N) 2048) (rb_fn (Nat.add (Nat.succ c) N) (fun c' => rb_fn (Nat.add a.1 (Nat.add 1 N)) (fun x1 => rb_fn (Nat.add a.2.1 (Nat.add N (Nat.mul N K))) (fun y1 => k1 pc' al ((3, Int.ofNat c, 0) :: st) (rb_fil (1, 0, K, (0, 0, 0), [], []) N (rb_set 11 t c (3, 5, N, (4, 0, 0), ra_mex (Nat.succ c) 0 N, [])) (Nat.succ c)) c' (x1, y1, a.2.2.1, a.2.2.2))))))))))))
theorem rk_mna {i z q0 pc' : Nat} (hh : ra_find (ra_Mh M) pc = none) (hd : decode (ra_Mc M) pc = .ok (.multianewarray i 2, 4)) (hp : pc + 4 = pc') (hf : ra_find (ra_Ml M) (i + 262144) = some (14, z)) : rb_Ok cd Ps M pc (rb_mna q0 pc') := by
  subst hp
  refine rb_ok1 hh hd (fun k1 k2 k3 k4 al st t9 c a C h => ?_)
  obtain ⟨y, s, eL, hL⟩ := rb_l_i (show rb_l st _ = some C from h); clear h; subst eL; have h := hL; clear hL
  obtain ⟨x, s, eL, hL⟩ := rb_l_i h; clear h; subst eL; have h := hL; clear hL
  obtain ⟨K, hK, h⟩ := rb_nel_i h
  obtain ⟨N, hN, h⟩ := rb_nel_i h
  obtain ⟨f0, p1, h⟩ := rb_o_i h
  obtain ⟨p2, h⟩ := rb_w_i h
  obtain ⟨p3, h⟩ := rb_w_i h
  obtain ⟨p4, h⟩ := rb_w_i h
  rw [rb_fn_e, rb_fn_e, rb_fn_e] at h
  refine ⟨_, _, _, _, _, _, h, fun ah ta hR => ?_⟩
  replace p4 : c + 1 + N ≤ 2048 := Nat.le_of_ble_eq_true p4
  obtain ⟨f1, f2, f3⟩ := f0
  replace p2 : f1 = 1 := Nat.eq_of_beq_eq_true p2
  replace p3 : f2 = 0 := Nat.eq_of_beq_eq_true p3
  subst p2 p3
  obtain ⟨e, u1, u2⟩ := hR.2 _ _ p1
  obtain ⟨t0, ty, rfl, w1, w2⟩ := rb_re_a u2
  have e9 : ty = .int := (Option.some.inj w2).symm
  subst e9
  have hfi : ta[ta.findIdx (fun t => decide (t = .int))]? = some .int := by
    have hlt : ta.findIdx (fun t => decide (t = .int)) < ta.length := List.findIdx_lt_length_of_exists ⟨.int, List.mem_of_getElem? w1, by simp⟩
    rw [List.getElem?_eq_getElem hlt]
    have := List.findIdx_getElem (w := hlt)
    exact congrArg some (of_decide_eq_true this)
  have h1 := rb_Rel_new hR (by omega) [.array .int] (f := (3, 5, N, (4, 0, 0), ra_mex (Nat.succ c) 0 N, [])) (e := (3, ta.length, N, (4, 0, 0), ra_mex (Nat.succ c) 0 N, [])) ⟨rfl, rfl, fun z => (by cases z), fun _ => ⟨.array .int, by simp, rfl⟩⟩
  have h2 := rb_fil_R N h1 p4 (f := (1, 0, K, (0, 0, 0), [], [])) (e := (1, ta.findIdx (fun t => decide (t = .int)), K, (0, 0, 0), [], [])) ⟨rfl, rfl, fun z => (by cases z), fun _ => ⟨.int, ra_gl hfi, rfl⟩⟩
  rw [List.append_assoc] at h2
  refine ⟨_, _, h2, rb_fr_a _ _, ?_⟩
  refine rb_0s_pre rfl rfl rfl rfl rfl rfl ?_
  show ra_xm M pc (y :: x :: s) ah ta a i = _
  unfold ra_xm
  try dsimp only
  rw [hf, hK, hN]
  try dsimp only
  refine (if_pos hfi).trans ?_
  rw [hR.1]
  have e8 : (List.range N).map (fun _ => ((1, ta.findIdx (fun t => decide (t = .int)), K, ra_k 0, [], []) : ra_E)) = List.replicate N (1, ta.findIdx (fun t => decide (t = .int)), K, (0, 0, 0), [], []) := by
    apply List.ext_getElem?
    intro j
    rw [List.getElem?_map, List.getElem?_replicate]
    by_cases hj : j < N
    · rw [List.getElem?_range hj, if_pos hj]; rfl
    · rw [List.getElem?_eq_none (by simpa using hj), if_neg hj]; rfl
  rw [e8]
  rfl
/-- Object's constructor -/
noncomputable def rb_obj (pc' : Nat) : rb_F := fun k1 _ _ _ al st t c a => rb_l st (fun x st => rb_w (Nat.beq x.1 3) (rb_fn (rb_mx a.2.2.1 1) (fun p => rb_fn (rb_mx a.2.2.2 (Nat.add (rb_cs st) 12)) (fun q => k1 pc' al st t c (a.1, a.2.1, p, q)))))
theorem rk_objinit {i z pc' : Nat} (hh : ra_find (ra_Mh M) pc = none) (hd : decode (ra_Mc M) pc = .ok (.invokespecial i, 3)) (hp : pc + 3 = pc') (hf : ra_find (ra_Ml M) i = some (16, z)) : rb_Ok cd Ps M pc (rb_obj pc') := by
  subst hp
  refine rb_ok1 hh hd (fun k1 k2 k3 k4 al st t c a C h => ?_)
  obtain ⟨x, s, eL, hL⟩ := rb_l_i (show rb_l st _ = some C from h); clear h; subst eL; have h := hL; clear hL
  obtain ⟨q1, h⟩ := rb_w_i h
  rw [rb_fn_e, rb_fn_e, rb_mx_e, rb_mx_e, rb_cs_e] at h
  refine ⟨_, _, _, _, _, _, h, fun ah ta hR => ⟨ah, ta, hR, rb_fr_r _, ?_⟩⟩
  obtain ⟨x1, x2, x3⟩ := x
  replace q1 : x1 = 3 := Nat.eq_of_beq_eq_true q1
  subst q1
  refine rb_0s_pre rfl rfl rfl rfl rfl rfl ?_
  show ra_xi M pc ((3, x2, x3) :: s) ah ta a i = _
  rw [rq_xi, hf]
  rfl
/-- System.arraycopy -/
noncomputable def rb_cpy (pc' : Nat) : rb_F := fun k1 _ _ _ al st t c a => rb_l st (fun n st => rb_l st (fun dp st => rb_l st (fun x2 st => rb_l st (fun sp st => rb_l st (fun x1 st =>
  rb_w (Nat.beq x1.1 3) (rb_w (Nat.beq x2.1 3) (rb_w (Nat.ble ra_S0 (Int.toNat x1.2.1)) (rb_w (Nat.ble ra_S0 (Int.toNat x2.2.1)) (rb_o (rb_get 11 t (Int.toNat x1.2.1)) (fun f1 => rb_o (rb_get 11 t (Int.toNat x2.2.1)) (fun f2 =>
  rb_w (Nat.beq f1.1 1) (rb_w (Nat.beq f2.1 1) (rb_w (Nat.beq f1.2.1 f2.2.1) (rb_w (Nat.ble f1.2.1 1) (rb_o (rb_ix n) (fun n0 => rb_o (rb_ix dp) (fun dp0 => rb_o (rb_ix sp) (fun sp0 =>
  rb_w (rb_inb n (Nat.succ f1.2.2.1)) (rb_w (rb_inb dp (Nat.succ f2.2.2.1)) (rb_w (rb_inb sp (Nat.succ f1.2.2.1)) (rb_w (decide (f1.2.2.2.1 = f2.2.2.2.1)) (rb_w (Nat.ble (Nat.add sp0 n0) f1.2.2.1) (rb_w (Nat.ble (Nat.add dp0 n0) f2.2.2.1)
  (rb_fn (rb_mx a.2.2.1 1) (fun p => rb_fn (rb_mx a.2.2.2 (Nat.add (rb_cs st) (nativeFrameWords "java/lang/System" "arraycopy" 5 + 11))) (fun q => k1 pc' al st (rb_set 11 t (Int.toNat x2.2.1) (1, f2.2.1, f2.2.2.1, f2.2.2.2.1, ra_shift f1.2.2.2.2.1 sp0 dp0 n0 ++ ra_outs f2.2.2.2.2.1 dp0 n0, f2.2.2.2.2.2)) c (a.1, a.2.1, p, q)))))))))))))))))))))))))))
theorem rk_arraycopy {i z pc' : Nat} (hh : ra_find (ra_Mh M) pc = none) (hd : decode (ra_Mc M) pc = .ok (.invokestatic i, 3)) (hp : pc + 3 = pc') (hf : ra_find (ra_Ml M) i = some (6, z)) : rb_Ok cd Ps M pc (rb_cpy pc') := by
  subst hp
  refine rb_ok1 hh hd (fun k1 k2 k3 k4 al st t c a C h => ?_)
  obtain ⟨n, s, eL, hL⟩ := rb_l_i (show rb_l st _ = some C from h); clear h; subst eL; have h := hL; clear hL
  obtain ⟨dp, s, eL, hL⟩ := rb_l_i h; clear h; subst eL; have h := hL; clear hL
  obtain ⟨x2, s, eL, hL⟩ := rb_l_i h; clear h; subst eL; have h := hL; clear hL
  obtain ⟨sp, s, eL, hL⟩ := rb_l_i h; clear h; subst eL; have h := hL; clear hL
  obtain ⟨x1, s, eL, hL⟩ := rb_l_i h; clear h; subst eL; have h := hL; clear hL
  obtain ⟨p1, h⟩ := rb_w_i h
  obtain ⟨p2, h⟩ := rb_w_i h
  obtain ⟨p3, h⟩ := rb_w_i h
  obtain ⟨p4, h⟩ := rb_w_i h
  obtain ⟨f1, p5, h⟩ := rb_o_i h
  obtain ⟨f2, p6, h⟩ := rb_o_i h
  obtain ⟨p7, h⟩ := rb_w_i h
  obtain ⟨p8, h⟩ := rb_w_i h
  obtain ⟨p9, h⟩ := rb_w_i h
  obtain ⟨p10, h⟩ := rb_w_i h
  obtain ⟨n0, r1, h⟩ := rb_o_i h
  obtain ⟨dp0, r2, h⟩ := rb_o_i h
  obtain ⟨sp0, r3, h⟩ := rb_o_i h
  obtain ⟨r4, h⟩ := rb_w_i h
  obtain ⟨r5, h⟩ := rb_w_i h
  obtain ⟨r6, h⟩ := rb_w_i h
  obtain ⟨r7, h⟩ := rb_w_i h
  obtain ⟨r8, h⟩ := rb_w_i h
  obtain ⟨r9, h⟩ := rb_w_i h
  rw [rb_fn_e, rb_fn_e, rb_mx_e, rb_mx_e, rb_cs_e] at h
  refine ⟨_, _, _, _, _, _, h, fun ah ta hR => ?_⟩
  obtain ⟨a1, a2, a3⟩ := x1
  obtain ⟨b1, b2, b3⟩ := x2
  replace p1 : a1 = 3 := Nat.eq_of_beq_eq_true p1
  replace p2 : b1 = 3 := Nat.eq_of_beq_eq_true p2
  subst p1 p2
  obtain ⟨e1, u1, u2⟩ := hR.2 _ _ p5
  obtain ⟨e2, u3, u4⟩ := hR.2 _ _ p6
  obtain ⟨c1, c2, c3, c4, c5, c6⟩ := f1
  obtain ⟨d1, d2, d3, d4, d5, d6⟩ := f2
  replace p7 : c1 = 1 := Nat.eq_of_beq_eq_true p7
  replace p8 : d1 = 1 := Nat.eq_of_beq_eq_true p8
  replace p9 : c2 = d2 := Nat.eq_of_beq_eq_true p9
  subst p7 p8 p9
  replace p10 : c2 ≤ 1 := Nat.le_of_ble_eq_true p10
  replace r7 : c4 = d4 := of_decide_eq_true r7
  subst r7
  replace r8 : sp0 + n0 ≤ c3 := Nat.le_of_ble_eq_true r8
  replace r9 : dp0 + n0 ≤ d3 := Nat.le_of_ble_eq_true r9
  obtain ⟨t1, ty1, rfl, w1, w2⟩ := rb_re_a u2
  obtain ⟨t2, ty2, rfl, w3, w4⟩ := rb_re_a u4
  have ety : ty1 = ty2 := Option.some.inj (w2.symm.trans w4)
  subst ety
  have hty : ty1 = .byte ∨ ty1 = .int := by
    match c2, p10 with
    | 0, _ => exact Or.inr (Option.some.inj w2).symm
    | 1, _ => exact Or.inl (Option.some.inj w2).symm
  obtain ⟨v1, v2⟩ := rb_inb_t r4
  obtain ⟨v3, v4⟩ := rb_inb_t r5
  obtain ⟨v5, v6⟩ := rb_inb_t r6
  dsimp only at p3 p4 p6 u1 u3
  refine ⟨_, ta, rb_Rel_set hR p6 (f := (1, c2, d3, c4, ra_shift c5 sp0 dp0 n0 ++ ra_outs d5 dp0 n0, d6)) (e := (1, t2, d3, c4, ra_shift c5 sp0 dp0 n0 ++ ra_outs d5 dp0 n0, d6)) ⟨rfl, rfl, fun z => (by cases z), fun _ => ⟨_, w3, w4⟩⟩, rb_fr_s p4, ?_⟩
  refine rb_0s_pre rfl rfl rfl rfl rfl rfl ?_
  show ra_xc M pc (n :: dp :: (3, b2, b3) :: sp :: (3, a2, a3) :: s) ah ta a i = _
  unfold ra_xc
  rw [hf]
  try dsimp only
  have key : ra_copy ah ta (n :: dp :: (3, b2, b3) :: sp :: (3, a2, a3) :: s) = some (ah.set b2.toNat (1, t2, d3, c4, ra_shift c5 sp0 dp0 n0 ++ ra_outs d5 dp0 n0, d6), s) := by
    rw [rq_copy, rb_hw_e p3, rb_hw_e p4, u1, u3, rb_ix_t r1, rb_ix_t r2, rb_ix_t r3]
    try dsimp only
    refine if_pos ⟨v1, v3, v5, v2, v4, v6, rfl, r8, r9, w1.trans w3.symm, ?_⟩
    rcases hty with z | z
    · exact Or.inl (by rw [w1, z])
    · exact Or.inr (by rw [w1, z])
  have e18 : nativeFrameWords "java/lang/System" "arraycopy" 5 + 11 = 18 := by decide
  rw [key, e18]
  rfl
/-- constants, static fields, texts -/
theorem rb_con_ok {v : ra_V} {pc' : Nat} (hh : ra_find (ra_Mh M) pc = none) (hd : decode (ra_Mc M) pc = .ok (ig, len)) (h : ∀ al st ah ta a, ra_pre cd M pc al st ah ta a ig len = some (pc', al, v :: st, ah, ta, a)) : rb_Ok cd Ps M pc (rb_psh (rb_con v) pc') :=
  rb_ok1 hh hd (fun k1 k2 k3 k4 al st t c a C hF => ⟨_, _, _, _, _, _, hF, fun ah ta hR => ⟨ah, ta, hR, rb_fr_r _, h al st ah ta a⟩⟩)
theorem rk_ldc {i pc' : Nat} {v z : Int} (hh : ra_find (ra_Mh M) pc = none) (hd : decode (ra_Mc M) pc = .ok (.ldc i, 2)) (hp : pc + 2 = pc') (hi : Nat.ble (i + 1) 65536 = true) (hf : ra_find (ra_Mk M) i = some v) (hz : (Int32.ofInt v).toInt = z) : rb_Ok cd Ps M pc (rb_psh (rb_con (0, z, z)) pc') := by
  subst hp hz
  refine rb_con_ok hh hd (fun al st ah ta a => rb_0s_pre rfl rfl rfl rfl rfl rfl ?_)
  show ra_xL M pc st ah ta a i = _
  unfold ra_xL ra_xk
  rw [if_pos (show i < 65536 from Nat.le_of_ble_eq_true hi), hf]
  rfl
theorem rk_ldc2 {i pc' : Nat} {v z : Int} (hh : ra_find (ra_Mh M) pc = none) (hd : decode (ra_Mc M) pc = .ok (.ldc2_w i, 3)) (hp : pc + 3 = pc') (hf : ra_find (ra_Mk M) (i + 65536) = some v) (hz : (Int64.ofInt v).toInt = z) : rb_Ok cd Ps M pc (rb_psh (rb_con (1, z, 0)) pc') := by
  subst hp hz
  refine rb_con_ok hh hd (fun al st ah ta a => rb_0s_pre rfl rfl rfl rfl rfl rfl ?_)
  show ra_xK M pc st ah ta a i = _
  unfold ra_xK
  rw [hf]
  rfl
theorem rk_ldcS {i j pc' : Nat} {z : Int} {q : String × Nat × String × Nat} (hh : ra_find (ra_Mh M) pc = none) (hd : decode (ra_Mc M) pc = .ok (.ldc i, 2)) (hp : pc + 2 = pc') (hk : ra_find (ra_Mk M) i = none) (hf : ra_find (ra_Ml M) (i + 196608) = some (13, j)) (hq : ra_lit[j]? = some q) (hz : (q.2.2.2 : Int) = z) : rb_Ok cd Ps M pc (rb_psh (rb_con (3, z, 0)) pc') := by
  subst hp hz
  refine rb_con_ok hh hd (fun al st ah ta a => rb_0s_pre rfl rfl rfl rfl rfl rfl ?_)
  show ra_xL M pc st ah ta a i = _
  have e : ra_xk M pc st ah ta a i = none := by
    unfold ra_xk
    split
    · next v hv =>
      split at hv
      · rw [hk] at hv; cases hv
      · cases hv
    · rfl
  unfold ra_xL
  rw [e]
  try dsimp only
  unfold ra_xl
  rw [hf]
  show (match ra_lit[j]? with
      | some z => some (pc + 2, (3, (z.2.2.2 : Int), 0) :: st, ah, ta, a)
      | none => none) = _
  rw [hq]
theorem rk_gets {i k j pc' : Nat} {v : ra_V} {q : String × String × String × ra_V} (hh : ra_find (ra_Mh M) pc = none) (hd : decode (ra_Mc M) pc = .ok (.getstatic i, 3)) (hp : pc + 3 = pc') (hf : ra_find (ra_Ml M) (i + 131072) = some (k, j)) (hk : k = 7 ∨ k = 8) (hq : ra_stv[j]? = some q) (hv : q.2.2.2 = v) : rb_Ok cd Ps M pc (rb_psh (rb_con v) pc') := by
  subst hp hv
  refine rb_con_ok hh hd (fun al st ah ta a => rb_0s_pre rfl rfl rfl rfl rfl rfl ?_)
  show ra_xG M pc st ah ta a i = _
  unfold ra_xG
  rw [hf]
  try dsimp only
  rw [if_pos hk, hq]
/-- ends -/
theorem rb_F_0 {go : ra_Rc} {al : List (Nat × ra_V)} {st : List ra_V} {ah : List ra_E} {ta : List FieldType} {a : ra_A} {r : Nat × ra_V × String} (hh : ra_find (ra_Mh M) pc = none) (hd : decode (ra_Mc M) pc = .ok (ig, len)) (h1 : ra_pre cd M pc al st ah ta a ig len = none) (h2 : ra_ret M ig len st = some r) : ra_F cd Ps go M pc al st ah ta a = some (r, ah, ta, a) := by
  unfold ra_F
  rw [hh]
  try dsimp only
  rw [hd]
  try dsimp only
  rw [h1]
  try dsimp only
  rw [h2]
noncomputable def rb_ret (g : ra_V → Bool) : rb_F := fun _ _ k3 _ _ st _ _ _ => rb_l st (fun x s => rb_w (g x) (List.rec (k3 1 x) (fun _ _ _ => none) s))
theorem rb_ret_ok {g : ra_V → Bool} (hh : ra_find (ra_Mh M) pc = none) (hd : decode (ra_Mc M) pc = .ok (ig, len)) (h1 : ∀ al x ah ta a, ra_pre cd M pc al [x] ah ta a ig len = none) (h2 : ∀ x, g x = true → ra_ret M ig len [x] = some (1, x, "")) : rb_Ok cd Ps M pc (rb_ret g) := by
  intro k1 k2 k3 k4 al st t c a C h
  obtain ⟨x, s, eL, hL⟩ := rb_l_i (show rb_l st _ = some C from h); clear h; subst eL; have h := hL; clear hL
  obtain ⟨q1, h⟩ := rb_w_i h
  cases s with
  | cons y s => cases h
  | nil => exact Or.inr (Or.inr (Or.inl ⟨1, x, h, Or.inr rfl, fun ah ta go => rb_F_0 hh hd (h1 al x ah ta a) (h2 x q1)⟩))
theorem rk_iret (hh : ra_find (ra_Mh M) pc = none) (hd : decode (ra_Mc M) pc = .ok (.ireturn, 1)) (hr : ra_Mr M = some .int) : rb_Ok cd Ps M pc (rb_ret rb_si) :=
  rb_ret_ok hh hd (fun _ _ _ _ _ => rfl) (fun x h => by
    obtain ⟨g, x, y⟩ := x
    replace h : g = 0 := Nat.eq_of_beq_eq_true h
    subst h
    exact if_pos hr)
noncomputable def rb_bd (n m : Nat) (x : ra_V) : Bool := rb_i (Nat.beq x.1 0) (rb_i (Int.rec (fun _ => true) (fun k => Nat.ble (Nat.succ k) n) x.2.1) (rb_zl x.2.2 m) false) false
theorem rb_bd_t {n m : Nat} {x : ra_V} (h : rb_bd n m x = true) : ∃ lo hi, x = (0, lo, hi) ∧ -(n : Int) ≤ lo ∧ hi < (m : Int) := by
  obtain ⟨g, lo, hi⟩ := x
  obtain ⟨h1, h2⟩ := rb_an_t h
  obtain ⟨h2, h3⟩ := rb_an_t h2
  replace h1 : g = 0 := Nat.eq_of_beq_eq_true h1
  subst h1
  refine ⟨lo, hi, rfl, ?_, rb_zl_t h3⟩
  cases lo with
  | ofNat k => exact Int.le_trans (Int.neg_nonpos_of_nonneg (Int.natCast_nonneg n)) (Int.natCast_nonneg k)
  | negSucc k =>
    replace h2 : k + 1 ≤ n := Nat.le_of_ble_eq_true h2
    show -(n : Int) ≤ Int.negSucc k
    rw [Int.negSucc_eq]
    omega
theorem rk_zret (hh : ra_find (ra_Mh M) pc = none) (hd : decode (ra_Mc M) pc = .ok (.ireturn, 1)) (hr : ra_Mr M = some .boolean) : rb_Ok cd Ps M pc (rb_ret (rb_bd 0 2)) :=
  rb_ret_ok hh hd (fun _ _ _ _ _ => rfl) (fun x h => by
    obtain ⟨lo, hi, rfl, h1, h2⟩ := rb_bd_t h
    show (if ra_Mr M = some .int then _ else if ra_Mr M = some .boolean ∧ 0 ≤ lo ∧ hi ≤ 1 then _ else _) = _
    rw [if_neg (by rw [hr]; intro z; cases z), if_pos ⟨hr, by omega, by omega⟩])
theorem rk_bret (hh : ra_find (ra_Mh M) pc = none) (hd : decode (ra_Mc M) pc = .ok (.ireturn, 1)) (hr : ra_Mr M = some .byte) : rb_Ok cd Ps M pc (rb_ret (rb_bd 128 128)) :=
  rb_ret_ok hh hd (fun _ _ _ _ _ => rfl) (fun x h => by
    obtain ⟨lo, hi, rfl, h1, h2⟩ := rb_bd_t h
    show (if ra_Mr M = some .int then _ else if ra_Mr M = some .boolean ∧ 0 ≤ lo ∧ hi ≤ 1 then _ else if ra_Mr M = some .byte ∧ -128 ≤ lo ∧ hi ≤ 127 then _ else _) = _
    rw [if_neg (by rw [hr]; intro z; cases z), if_neg (by rw [hr]; intro z; cases z.1), if_pos ⟨hr, by omega, by omega⟩])
theorem rk_cret (hh : ra_find (ra_Mh M) pc = none) (hd : decode (ra_Mc M) pc = .ok (.ireturn, 1)) (hr : ra_Mr M = some .char) : rb_Ok cd Ps M pc (rb_ret (rb_bd 0 65536)) :=
  rb_ret_ok hh hd (fun _ _ _ _ _ => rfl) (fun x h => by
    obtain ⟨lo, hi, rfl, h1, h2⟩ := rb_bd_t h
    show (if ra_Mr M = some .int then _ else if ra_Mr M = some .boolean ∧ 0 ≤ lo ∧ hi ≤ 1 then _ else if ra_Mr M = some .byte ∧ -128 ≤ lo ∧ hi ≤ 127 then _ else if ra_Mr M = some .char ∧ 0 ≤ lo ∧ hi ≤ 65535 then _ else _) = _
    rw [if_neg (by rw [hr]; intro z; cases z), if_neg (by rw [hr]; intro z; cases z.1), if_neg (by rw [hr]; intro z; cases z.1), if_pos ⟨hr, by omega, by omega⟩])
theorem rk_lret (hh : ra_find (ra_Mh M) pc = none) (hd : decode (ra_Mc M) pc = .ok (.lreturn, 1)) (hr : ra_Mr M = some .long) : rb_Ok cd Ps M pc (rb_ret rb_tl) :=
  rb_ret_ok hh hd (fun _ _ _ _ _ => rfl) (fun x h => if_pos ⟨hr, rb_tl_t h⟩)
theorem rk_dret (hh : ra_find (ra_Mh M) pc = none) (hd : decode (ra_Mc M) pc = .ok (.dreturn, 1)) (hr : ra_Mr M = some .double) : rb_Ok cd Ps M pc (rb_ret rb_sd) :=
  rb_ret_ok hh hd (fun _ _ _ _ _ => rfl) (fun x h => by
    obtain ⟨g, x, y⟩ := x
    replace h : g = 5 := Nat.eq_of_beq_eq_true h
    subst h
    exact if_pos hr)
noncomputable def rb_rq (x : ra_V) : Bool := rb_i (Nat.beq x.1 3) true (Nat.beq x.1 4)
theorem rk_aret (hh : ra_find (ra_Mh M) pc = none) (hd : decode (ra_Mc M) pc = .ok (.areturn, 1)) (hr : (∃ C, ra_Mr M = some (.object C)) ∨ ∃ T, ra_Mr M = some (.array T)) : rb_Ok cd Ps M pc (rb_ret rb_rq) :=
  rb_ret_ok hh hd (fun _ _ _ _ _ => rfl) (fun x h => by
    obtain ⟨g, x, y⟩ := x
    rcases rb_or_t h with h | h
    · replace h : g = 3 := Nat.eq_of_beq_eq_true h
      subst h
      show (match ra_Mr M with
        | some (.object _) => some (1, (3, x, y), "")
        | some (.array _) => some (1, (3, x, y), "")
        | _ => none) = _
      rcases hr with ⟨C, hr⟩ | ⟨T, hr⟩ <;> rw [hr]
    · replace h : g = 4 := Nat.eq_of_beq_eq_true h
      subst h
      show (match ra_Mr M with
        | some (.object _) => some (1, (4, x, y), "")
        | some (.array _) => some (1, (4, x, y), "")
        | _ => none) = _
      rcases hr with ⟨C, hr⟩ | ⟨T, hr⟩ <;> rw [hr])
noncomputable def rb_vret : rb_F := fun _ _ k3 _ _ st _ _ _ => List.rec (k3 0 (0, 0, 0)) (fun _ _ _ => none) st
theorem rk_vret (hh : ra_find (ra_Mh M) pc = none) (hd : decode (ra_Mc M) pc = .ok (.return_, 1)) (hr : ra_Mr M = none) : rb_Ok cd Ps M pc rb_vret := by
  intro k1 k2 k3 k4 al st t c a C h
  cases st with
  | cons y s => cases h
  | nil => exact Or.inr (Or.inr (Or.inl ⟨0, (0, 0, 0), h, Or.inl rfl, fun ah ta go => rb_F_0 hh hd rfl (if_pos hr)⟩))
/-- what is thrown -/
noncomputable def rb_thr (e fr lo : Nat) : rb_F := fun _ _ _ k4 _ st _ _ a => rb_fn (Nat.succ a.1) (fun x => rb_fn (Nat.add a.2.1 6) (fun y => rb_fn (rb_mx a.2.2.1 fr) (fun z => rb_fn (rb_mx a.2.2.2 (Nat.add (rb_cs st) lo)) (fun w => k4 e (x, y, z, w)))))
theorem rk_throw {e fr lo : Nat} {E : String} (hh : ra_find (ra_Mh M) pc = some (0, E, fr, lo)) (hq : ra_Mq M = []) (he : rb_en[e]? = some E) : rb_Ok cd Ps M pc (rb_thr e fr lo) := by
  intro k1 k2 k3 k4 al st t c a C h
  have h : rb_fn (Nat.succ a.1) (fun x => rb_fn (Nat.add a.2.1 6) (fun y => rb_fn (rb_mx a.2.2.1 fr) (fun z => rb_fn (rb_mx a.2.2.2 (Nat.add (rb_cs st) lo)) (fun w => k4 e (x, y, z, w))))) = some C := h
  rw [rb_fn_e, rb_fn_e, rb_fn_e, rb_fn_e, rb_mx_e, rb_mx_e, rb_cs_e] at h
  refine Or.inr (Or.inr (Or.inr ⟨e, _, E, h, he, fun ah ta hR go r hr => ?_⟩))
  unfold ra_thx at hr
  rw [hq] at hr
  unfold ra_F
  rw [hh]
  exact (if_pos hq).trans hr
noncomputable def rb_ath (e ci : Nat) : rb_F := fun _ _ _ k4 _ st t _ a => rb_l st (fun x _ => rb_w (Nat.beq x.1 3) (rb_w (Nat.ble ra_S0 (Int.toNat x.2.1)) (rb_o (rb_get 11 t (Int.toNat x.2.1)) (fun f => rb_w (Nat.beq f.1 0) (rb_w (Nat.beq f.2.1 ci) (k4 e a))))))
theorem rk_athrow {e ci : Nat} {E : String} (hh : ra_find (ra_Mh M) pc = none) (hd : decode (ra_Mc M) pc = .ok (.athrow, 1)) (hC : (vwCl[ci]?).map (fun r => r.1) = some E) (he : rb_en[e]? = some E) : rb_Ok cd Ps M pc (rb_ath e ci) := by
  intro k1 k2 k3 k4 al st t c a C h
  obtain ⟨x, s, eL, hL⟩ := rb_l_i (show rb_l st _ = some C from h); clear h; subst eL; have h := hL; clear hL
  obtain ⟨q1, h⟩ := rb_w_i h
  obtain ⟨q7, h⟩ := rb_w_i h
  obtain ⟨f, q2, h⟩ := rb_o_i h
  obtain ⟨q3, h⟩ := rb_w_i h
  obtain ⟨q4, h⟩ := rb_w_i h
  refine Or.inr (Or.inr (Or.inr ⟨e, _, E, h, he, fun ah ta hR go r hr => ?_⟩))
  obtain ⟨ev, u3, u4⟩ := hR.2 _ _ q2
  have e1 := rb_re_o u4 (Nat.eq_of_beq_eq_true q3)
  subst e1
  obtain ⟨x1, x2, x3⟩ := x
  replace q1 : x1 = 3 := Nat.eq_of_beq_eq_true q1
  subst q1
  obtain ⟨g1, g2, g3, g4, g5, g6⟩ := ev
  replace q3 : g1 = 0 := Nat.eq_of_beq_eq_true q3
  replace q4 : g2 = ci := Nat.eq_of_beq_eq_true q4
  subst q3 q4
  dsimp only at q7 u3
  unfold ra_F
  rw [hh]
  try dsimp only
  rw [hd]
  try dsimp only
  have e2 : ra_pre cd M pc al ((3, x2, x3) :: s) ah ta a .athrow 1 = none := rfl
  have e3 : ra_ret M .athrow 1 ((3, x2, x3) :: s) = none := rfl
  have e4 : ra_thr ah .athrow 1 ((3, x2, x3) :: s) = some E := by
    rw [rq_thr, rb_hw_e q7, u3]
    try dsimp only
    exact hC
  rw [e2, e3, e4]
  exact hr
noncomputable def rb_mkx (ci fr lo : Nat) (pc' : Nat) : rb_F := fun k1 _ _ _ al st t c a => rb_nw c a 6 (fun c' a' => rb_fn (rb_mx a'.2.2.1 fr) (fun z => rb_fn (rb_mx a'.2.2.2 (Nat.add (rb_cs st) lo)) (fun w => k1 pc' al ((3, Int.ofNat c, 0) :: st) (rb_set 11 t c (0, ci, 0, (0, 0, 0), [], [])) c' (a'.1, a'.2.1, z, w))))
theorem rk_make {ci fr lo pc' : Nat} {E : String} (hh : ra_find (ra_Mh M) pc = some (ci + 1, E, fr, lo)) (hp : pc + 7 = pc') : rb_Ok cd Ps M pc (rb_mkx ci fr lo pc') := by
  subst hp
  intro k1 k2 k3 k4 al st t c a C h
  obtain ⟨h1, h⟩ := rb_nw_i (show rb_nw c a 6 _ = some C from h)
  dsimp only at h
  rw [rb_fn_e, rb_fn_e, rb_mx_e, rb_mx_e, rb_cs_e] at h
  refine Or.inl ⟨_, _, _, _, _, _, h, fun ah ta hR => ⟨ah ++ [(0, ci, 0, (0, 0, 0), [], [])], ta, ?_, rb_fr_0 _ _, fun go r hgo => ?_⟩⟩
  · have := rb_Rel_new hR h1 [] (f := (0, ci, 0, (0, 0, 0), [], [])) (e := (0, ci, 0, (0, 0, 0), [], [])) ⟨rfl, rfl, fun _ => rfl, fun z => absurd rfl z⟩
    rwa [List.append_nil] at this
  · unfold ra_F
    rw [hh]
    try dsimp only
    unfold ra_mk
    rw [hR.1]
    exact hgo
/-- calls -/
theorem rb_F_c {go : ra_Rc} {al : List (Nat × ra_V)} {st as st' : List ra_V} {ah : List ra_E} {ta : List FieldType} {a : ra_A} {kd : Nat} {M' : ra_Mt} {rs r : ra_Rs} (hh : ra_find (ra_Mh M) pc = none) (hd : decode (ra_Mc M) pc = .ok (ig, len)) (h1 : ra_pre cd M pc al st ah ta a ig len = none) (h2 : ra_ret M ig len st = none) (h3 : ra_thr ah ig len st = none) (h4 : ra_cal Ps M ah ig len st = some (kd, M', as, st')) (h5 : go M' 0 (ra_args 0 as) [] ah ta (0, 0, 0, 0) = some rs) (h6 : ra_back go M pc al st' a kd (ra_Mn M') rs = some r) : ra_F cd Ps go M pc al st ah ta a = some r := by
  unfold ra_F
  rw [hh]; dsimp only
  rw [hd]; dsimp only
  rw [h1]; dsimp only
  rw [h2]; dsimp only
  rw [h3]; dsimp only
  rw [h4]; dsimp only
  rw [h5]
  exact h6
noncomputable def rb_cav (n j ci nL : Nat) : rb_F := fun _ k2 _ _ _ st t _ _ => rb_tk (Nat.succ n) st [] (fun as rest => rb_l as (fun x _ => rb_w (Nat.beq x.1 3) (rb_o (rb_get 11 t (Int.toNat x.2.1)) (fun f => rb_w (Nat.beq f.1 0) (rb_w (Nat.beq f.2.1 ci) (rb_w (Nat.ble (rb_cs as) nL) (rb_w (Nat.ble (rb_cs rest) 8) (k2 1 j as rest))))))))
theorem rb_sum_r (st : List ra_V) : rb_cs st.reverse = (st.map ra_c).sum := by rw [rb_cs_e, ra_sum_rev]
theorem rk_invV {i k n j ci nL : Nat} {M' : ra_Mt} (hh : ra_find (ra_Mh M) pc = none) (hd : decode (ra_Mc M) pc = .ok (.invokevirtual i, 3)) (hf : ra_find (ra_Ml M) i = some (k, j)) (hk : k = 8 * n + 1) (hM : Ps[j]? = some M') (hC : (vwCl[ci]?).map (fun r => r.1) = some (ra_My M').cls) (hn : ra_Mn M' = nL) : rb_Ok cd Ps M pc (rb_cav n j ci nL) := by
  subst hn
  intro k1 k2 k3 k4 al st t c a C h
  obtain ⟨h0, h⟩ := rb_tk_i (show rb_tk (Nat.succ n) st [] _ = some C from h)
  rw [List.append_nil] at h
  obtain ⟨x, s, hx, h⟩ := rb_l_i h
  obtain ⟨q1, h⟩ := rb_w_i h
  obtain ⟨f, q2, h⟩ := rb_o_i h
  obtain ⟨q3, h⟩ := rb_w_i h
  obtain ⟨q4, h⟩ := rb_w_i h
  obtain ⟨q5, h⟩ := rb_w_i h
  obtain ⟨q6, h⟩ := rb_w_i h
  refine Or.inr (Or.inl ⟨_, _, _, _, h, fun ah ta hR M2 hM2 go rs r h5 h6 => ?_⟩)
  have e0 : M2 = M' := Option.some.inj (hM2.symm.trans hM)
  subst e0
  obtain ⟨ev, u3, u4⟩ := hR.2 _ _ q2
  have e1 := rb_re_o u4 (Nat.eq_of_beq_eq_true q3)
  subst e1
  obtain ⟨x1, x2, x3⟩ := x
  replace q1 : x1 = 3 := Nat.eq_of_beq_eq_true q1
  subst q1
  obtain ⟨g1, g2, g3, g4, g5, g6⟩ := ev
  replace q3 : g1 = 0 := Nat.eq_of_beq_eq_true q3
  replace q4 : g2 = ci := Nat.eq_of_beq_eq_true q4
  subst q3 q4
  replace q5 := Nat.le_of_ble_eq_true q5
  replace q6 := Nat.le_of_ble_eq_true q6
  rw [rb_sum_r] at q5
  rw [rb_cs_e] at q6
  refine rb_F_c hh hd rfl rfl rfl ?_ h5 h6
  have e8 : k / 8 = n := by omega
  show (match ra_find (ra_Ml M) i with
    | some (k, t) => match Ps[t]? with
      | some M' => if k % 8 = 1 ∧ (st.take (k / 8 + 1)).length = k / 8 + 1 ∧ ra_rec M' ah (st.take (k / 8 + 1)).reverse = true ∧ ((st.take (k / 8 + 1)).map ra_c).sum ≤ ra_Mn M' ∧ ((st.drop (k / 8 + 1)).map ra_c).sum ≤ 8 then some (1, M', (st.take (k / 8 + 1)).reverse, st.drop (k / 8 + 1)) else none
      | none => none
    | none => none) = _
  rw [hf]
  try dsimp only
  rw [hM]
  try dsimp only
  rw [e8]
  refine if_pos ⟨by omega, h0, ?_, q5, q6⟩
  dsimp only at u3
  show ra_rec M2 ah (st.take (n + 1)).reverse = true
  have hx' : (st.take (n + 1)).reverse = (3, x2, x3) :: s := hx
  rw [hx']
  rw [rq_rec, u3]
  try dsimp only
  exact decide_eq_true hC
noncomputable def rb_cas (n j nL : Nat) : rb_F := fun _ k2 _ _ _ st _ _ _ => rb_tk n st [] (fun as rest => rb_w (Nat.ble (rb_cs as) nL) (rb_w (Nat.ble (rb_cs rest) 8) (k2 2 j as rest)))
theorem rk_invS {i k n j nL : Nat} {M' : ra_Mt} (hh : ra_find (ra_Mh M) pc = none) (hd : decode (ra_Mc M) pc = .ok (.invokestatic i, 3)) (hf : ra_find (ra_Ml M) i = some (k, j)) (hk : k = 8 * n + 2) (hM : Ps[j]? = some M') (hn : ra_Mn M' = nL) : rb_Ok cd Ps M pc (rb_cas n j nL) := by
  subst hn
  intro k1 k2 k3 k4 al st t c a C h
  obtain ⟨h0, h⟩ := rb_tk_i (show rb_tk n st [] _ = some C from h)
  rw [List.append_nil] at h
  obtain ⟨q5, h⟩ := rb_w_i h
  obtain ⟨q6, h⟩ := rb_w_i h
  refine Or.inr (Or.inl ⟨_, _, _, _, h, fun ah ta hR M2 hM2 go rs r h5 h6 => ?_⟩)
  have e0 : M2 = M' := Option.some.inj (hM2.symm.trans hM)
  subst e0
  replace q5 := Nat.le_of_ble_eq_true q5
  replace q6 := Nat.le_of_ble_eq_true q6
  rw [rb_sum_r] at q5
  rw [rb_cs_e] at q6
  have e8 : k / 8 = n := by omega
  have hpre : ra_pre cd M pc al st ah ta a (.invokestatic i) 3 = none := by
    have e : ra_xc M pc st ah ta a i = none := by
      unfold ra_xc
      rw [hf]
      split
      · next z => exact absurd (congrArg Prod.fst (Option.some.inj z)) (by dsimp only; omega)
      · rfl
    show (match ra_xc M pc st ah ta a i with
      | some (pc', st', ah', ta', a') => some (pc', al, st', ah', ta', a')
      | none => none) = none
    rw [e]
  refine rb_F_c hh hd hpre rfl rfl ?_ h5 h6
  show (match ra_find (ra_Ml M) i with
    | some (k, t) => match Ps[t]? with
      | some M' => if k % 8 = 2 ∧ (st.take (k / 8)).length = k / 8 ∧ ((st.take (k / 8)).map ra_c).sum ≤ ra_Mn M' ∧ ((st.drop (k / 8)).map ra_c).sum ≤ 8 then some (2, M', (st.take (k / 8)).reverse, st.drop (k / 8)) else none
      | none => none
    | none => none) = _
  rw [hf]
  try dsimp only
  rw [hM]
  try dsimp only
  rw [e8]
  exact if_pos ⟨by omega, h0, q5, q6⟩
noncomputable def rb_cac (n j nL : Nat) : rb_F := fun _ k2 _ _ _ st _ _ _ => rb_tk (Nat.succ n) st [] (fun as rest => rb_l as (fun x _ => rb_w (Nat.beq x.1 3) (rb_w (Nat.ble (rb_cs as) nL) (rb_w (Nat.ble (rb_cs rest) 8) (k2 3 j as rest)))))
theorem rk_invC {i k n j nL : Nat} {M' : ra_Mt} (hh : ra_find (ra_Mh M) pc = none) (hd : decode (ra_Mc M) pc = .ok (.invokespecial i, 3)) (hf : ra_find (ra_Ml M) i = some (k, j)) (hk : k = 8 * n + 3 ∨ k = 8 * n + 4) (hM : Ps[j]? = some M') (hn : ra_Mn M' = nL) : rb_Ok cd Ps M pc (rb_cac n j nL) := by
  subst hn
  intro k1 k2 k3 k4 al st t c a C h
  obtain ⟨h0, h⟩ := rb_tk_i (show rb_tk (Nat.succ n) st [] _ = some C from h)
  rw [List.append_nil] at h
  obtain ⟨x, s, hx, h⟩ := rb_l_i h
  obtain ⟨q1, h⟩ := rb_w_i h
  obtain ⟨q5, h⟩ := rb_w_i h
  obtain ⟨q6, h⟩ := rb_w_i h
  refine Or.inr (Or.inl ⟨_, _, _, _, h, fun ah ta hR M2 hM2 go rs r h5 h6 => ?_⟩)
  have e0 : M2 = M' := Option.some.inj (hM2.symm.trans hM)
  subst e0
  obtain ⟨x1, x2, x3⟩ := x
  replace q1 : x1 = 3 := Nat.eq_of_beq_eq_true q1
  subst q1
  replace q5 := Nat.le_of_ble_eq_true q5
  replace q6 := Nat.le_of_ble_eq_true q6
  rw [rb_sum_r] at q5
  rw [rb_cs_e] at q6
  have e8 : k / 8 = n := by omega
  have hpre : ra_pre cd M pc al st ah ta a (.invokespecial i) 3 = none := by
    have e : ra_xi M pc st ah ta a i = none := by
      unfold ra_xi
      split
      · rw [hf]
        split
        · next z => exact absurd (congrArg Prod.fst (Option.some.inj z)) (by dsimp only; omega)
        · rfl
      · rfl
    show (match ra_xi M pc st ah ta a i with
      | some (pc', st', ah', ta', a') => some (pc', al, st', ah', ta', a')
      | none => none) = none
    rw [e]
  refine rb_F_c hh hd hpre rfl rfl ?_ h5 h6
  show (match ra_find (ra_Ml M) i with
    | some (k, t) => match Ps[t]? with
      | some M' => if (k % 8 = 3 ∨ k % 8 = 4) ∧ (st.take (k / 8 + 1)).length = k / 8 + 1 ∧ ra_ref (st.take (k / 8 + 1)).reverse = true ∧ ((st.take (k / 8 + 1)).map ra_c).sum ≤ ra_Mn M' ∧ ((st.drop (k / 8 + 1)).map ra_c).sum ≤ 8 then some (3, M', (st.take (k / 8 + 1)).reverse, st.drop (k / 8 + 1)) else none
      | none => none
    | none => none) = _
  rw [hf]
  try dsimp only
  rw [hM]
  try dsimp only
  rw [e8]
  refine if_pos ⟨by omega, h0, ?_, q5, q6⟩
  have hx' : (st.take (n + 1)).reverse = (3, x2, x3) :: s := hx
  rw [hx']
  rfl
end RBN
