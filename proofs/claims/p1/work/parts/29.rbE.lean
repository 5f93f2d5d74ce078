/-! The fast walk piece by piece: from one written state to the next. -/
section RBE
/-- equal, by the kernel's quick words -/
noncomputable def rb_eqv (x y : ra_V) : Bool := rb_i (Nat.beq x.1 y.1) (rb_i (rb_zeq x.2.1 y.2.1) (rb_zeq x.2.2 y.2.2) false) false
theorem rb_eqv_t {x y : ra_V} (h : rb_eqv x y = true) : x = y := by
  obtain ⟨h1, h⟩ := rb_an_t h
  obtain ⟨h2, h3⟩ := rb_an_t h
  obtain ⟨x1, x2, x3⟩ := x
  obtain ⟨y1, y2, y3⟩ := y
  have h1 : x1 = y1 := Nat.eq_of_beq_eq_true h1
  have h2 : x2 = y2 := rb_zeq_t h2
  have h3 : x3 = y3 := rb_zeq_t h3
  rw [h1, h2, h3]
noncomputable def rb_eql {α : Type} (f : α → α → Bool) (l : List α) : List α → Bool := List.rec (motive := fun _ => List α → Bool) (fun m => List.rec (motive := fun _ => Bool) true (fun _ _ _ => false) m) (fun x _ ih m => List.rec (motive := fun _ => Bool) false (fun y ys _ => rb_i (f x y) (ih ys) false) m) l
theorem rb_eql_t {α : Type} {f : α → α → Bool} (hf : ∀ x y, f x y = true → x = y) : ∀ {l m : List α}, rb_eql f l m = true → l = m
  | [], [], _ => rfl
  | [], _ :: _, h => by cases h
  | _ :: _, [], h => by cases h
  | x :: l, y :: m, h => by
    obtain ⟨h1, h2⟩ := rb_an_t (show rb_i (f x y) (rb_eql f l m) false = true from h)
    rw [hf x y h1, rb_eql_t hf h2]
noncomputable def rb_eqp (x y : Nat × ra_V) : Bool := rb_i (Nat.beq x.1 y.1) (rb_eqv x.2 y.2) false
theorem rb_eqp_t (x y : Nat × ra_V) (h : rb_eqp x y = true) : x = y := by
  obtain ⟨h1, h2⟩ := rb_an_t h
  exact Prod.ext (Nat.eq_of_beq_eq_true h1) (rb_eqv_t h2)
noncomputable def rb_eqe (x y : ra_E) : Bool := rb_i (Nat.beq x.1 y.1) (rb_i (Nat.beq x.2.1 y.2.1) (rb_i (Nat.beq x.2.2.1 y.2.2.1) (rb_i (rb_eqv x.2.2.2.1 y.2.2.2.1) (rb_i (rb_eql rb_eqp x.2.2.2.2.1 y.2.2.2.2.1) (rb_eql rb_eqv x.2.2.2.2.2 y.2.2.2.2.2) false) false) false) false) false
theorem rb_eqe_t {x y : ra_E} (h : rb_eqe x y = true) : x = y := by
  obtain ⟨h1, h⟩ := rb_an_t h
  obtain ⟨h2, h⟩ := rb_an_t h
  obtain ⟨h3, h⟩ := rb_an_t h
  obtain ⟨h4, h⟩ := rb_an_t h
  obtain ⟨h5, h6⟩ := rb_an_t h
  exact Prod.ext (Nat.eq_of_beq_eq_true h1) (Prod.ext (Nat.eq_of_beq_eq_true h2) (Prod.ext (Nat.eq_of_beq_eq_true h3) (Prod.ext (rb_eqv_t h4) (Prod.ext (rb_eql_t rb_eqp_t h5) (rb_eql_t (fun _ _ => rb_eqv_t) h6)))))
noncomputable def rb_eqa (x y : ra_A) : Bool := rb_i (Nat.beq x.1 y.1) (rb_i (Nat.beq x.2.1 y.2.1) (rb_i (Nat.beq x.2.2.1 y.2.2.1) (Nat.beq x.2.2.2 y.2.2.2) false) false) false
theorem rb_eqa_t {x y : ra_A} (h : rb_eqa x y = true) : x = y := by
  obtain ⟨h1, h⟩ := rb_an_t h
  obtain ⟨h2, h⟩ := rb_an_t h
  obtain ⟨h3, h4⟩ := rb_an_t h
  exact Prod.ext (Nat.eq_of_beq_eq_true h1) (Prod.ext (Nat.eq_of_beq_eq_true h2) (Prod.ext (Nat.eq_of_beq_eq_true h3) (Nat.eq_of_beq_eq_true h4)))
noncomputable def rb_eqf (x y : rb_Fr) : Bool := rb_i (Nat.beq x.1 y.1) (rb_i (Nat.beq x.2.1 y.2.1) (rb_i (rb_eql rb_eqp x.2.2.1 y.2.2.1) (rb_i (rb_eql rb_eqv x.2.2.2.1 y.2.2.2.1) (rb_i (rb_eqa x.2.2.2.2.1 y.2.2.2.2.1) (rb_i (Nat.beq x.2.2.2.2.2.1 y.2.2.2.2.2.1) (Nat.beq x.2.2.2.2.2.2 y.2.2.2.2.2.2) false) false) false) false) false) false
theorem rb_eqf_t (x y : rb_Fr) (h : rb_eqf x y = true) : x = y := by
  obtain ⟨h1, h⟩ := rb_an_t h
  obtain ⟨h2, h⟩ := rb_an_t h
  obtain ⟨h3, h⟩ := rb_an_t h
  obtain ⟨h4, h⟩ := rb_an_t h
  obtain ⟨h5, h⟩ := rb_an_t h
  obtain ⟨h6, h7⟩ := rb_an_t h
  exact Prod.ext (Nat.eq_of_beq_eq_true h1) (Prod.ext (Nat.eq_of_beq_eq_true h2) (Prod.ext (rb_eql_t rb_eqp_t h3) (Prod.ext (rb_eql_t (fun _ _ => rb_eqv_t) h4) (Prod.ext (rb_eqa_t h5) (Prod.ext (Nat.eq_of_beq_eq_true h6) (Nat.eq_of_beq_eq_true h7))))))
noncomputable def rb_cmp (n : Nat) : rb_T ra_E n → rb_T ra_E n → Bool :=
  Nat.rec (motive := fun n => rb_T ra_E n → rb_T ra_E n → Bool) (fun l t => Option.rec (motive := fun _ => Bool) true (fun e => Option.rec (motive := fun _ => Bool) false (fun f => rb_eqe e f) t) l) (fun _ ih l t => rb_i (ih l.1 t.1) (ih l.2 t.2) false) n
theorem rb_cmp_get : ∀ (n : Nat) (l t : rb_T ra_E n) (k : Nat) (e : ra_E), rb_cmp n l t = true → rb_get n l k = some e → rb_get n t k = some e
  | 0, l, t, 0, e, h, hg => by
    have hg : (l : Option ra_E) = some e := hg
    subst hg
    have h : Option.rec (motive := fun _ => Bool) false (fun f => rb_eqe e f) (t : Option ra_E) = true := h
    show (t : Option ra_E) = some e
    cases t with
    | none => cases h
    | some f => rw [rb_eqe_t h]
  | 0, l, t, k + 1, e, h, hg => by cases hg
  | n + 1, l, t, k, e, h, hg => by
    have h : rb_i (rb_cmp n l.1 t.1) (rb_cmp n l.2 t.2) false = true := h
    obtain ⟨h1, h2⟩ := rb_an_t h
    rw [rb_get_s] at hg ⊢
    split at hg
    · next z => rw [if_pos z]; exact rb_cmp_get n _ _ _ _ h1 hg
    · next z => rw [if_neg z]; exact rb_cmp_get n _ _ _ _ h2 hg
/-- a state is a written one, which may know less of the cells -/
noncomputable def rb_end (r : rb_R) (D : rb_C) : Bool := Option.rec (motive := fun _ => Bool) false (fun C => rb_i (Nat.beq C.1 D.1) (rb_i (Nat.beq C.2.1 D.2.1) (rb_i (Nat.beq C.2.2.1 D.2.2.1) (rb_i (rb_eql rb_eqp C.2.2.2.1 D.2.2.2.1) (rb_i (rb_eql rb_eqv C.2.2.2.2.1 D.2.2.2.2.1) (rb_i (Nat.beq C.2.2.2.2.2.2.1 D.2.2.2.2.2.2.1) (rb_i (rb_eqa C.2.2.2.2.2.2.2.1 D.2.2.2.2.2.2.2.1) (rb_i (rb_eql rb_eqf C.2.2.2.2.2.2.2.2 D.2.2.2.2.2.2.2.2) (rb_cmp 11 (rb_Ct D) (rb_Ct C)) false) false) false) false) false) false) false) false) r
theorem rb_end_t {r : rb_R} {D : rb_C} (h : rb_end r D = true) : ∃ C, r = some C ∧ (C.1 = D.1 ∧ C.2.1 = D.2.1 ∧ C.2.2.1 = D.2.2.1 ∧ C.2.2.2.1 = D.2.2.2.1 ∧ C.2.2.2.2.1 = D.2.2.2.2.1 ∧ C.2.2.2.2.2.2 = D.2.2.2.2.2.2) ∧ ∀ k e, rb_get 11 (rb_Ct D) k = some e → rb_get 11 (rb_Ct C) k = some e := by
  cases r with
  | none => cases h
  | some C =>
    obtain ⟨h1, h⟩ := rb_an_t h
    obtain ⟨h2, h⟩ := rb_an_t h
    obtain ⟨h3, h⟩ := rb_an_t h
    obtain ⟨h4, h⟩ := rb_an_t h
    obtain ⟨h5, h⟩ := rb_an_t h
    obtain ⟨h6, h⟩ := rb_an_t h
    obtain ⟨h7, h⟩ := rb_an_t h
    obtain ⟨h8, h9⟩ := rb_an_t h
    exact ⟨C, rfl, ⟨Nat.eq_of_beq_eq_true h1, Nat.eq_of_beq_eq_true h2, Nat.eq_of_beq_eq_true h3, rb_eql_t rb_eqp_t h4, rb_eql_t (fun _ _ => rb_eqv_t) h5, Prod.ext (Nat.eq_of_beq_eq_true h6) (Prod.ext (rb_eqa_t h7) (rb_eql_t rb_eqf_t h8))⟩, fun k e hk => rb_cmp_get 11 _ _ k e h9 hk⟩
/-- what is known of the cells may be forgotten -/
theorem rb_less {cd : ra_Cd} {Ps : List ra_Mt} {C D : rb_C} (h : C.1 = D.1 ∧ C.2.1 = D.2.1 ∧ C.2.2.1 = D.2.2.1 ∧ C.2.2.2.1 = D.2.2.2.1 ∧ C.2.2.2.2.1 = D.2.2.2.2.1 ∧ C.2.2.2.2.2.2 = D.2.2.2.2.2.2) (hg : ∀ k e, rb_get 11 (rb_Ct D) k = some e → rb_get 11 (rb_Ct C) k = some e) : rb_Lk cd Ps C D := by
  obtain ⟨x1, x2, x3, x4, x5, x6, x7⟩ := C
  obtain ⟨y1, y2, y3, y4, y5, y6, y7⟩ := D
  dsimp only at h
  obtain ⟨rfl, rfl, rfl, rfl, rfl, rfl⟩ := h
  intro ah ta hR
  refine ⟨ah, ta, ⟨hR.1, fun k f hk => hR.2 k f (hg k f hk)⟩, rb_fr_r _, fun r hr => ?_⟩
  obtain ⟨c, a, fs⟩ := x7
  match x1, hr with
  | 0, hr => exact hr
  | 1, hr => exact hr
  | n + 2, hr => exact hr
noncomputable def rb_adv (P : Nat → Option rb_M) (n : Nat) (C : rb_C) : rb_R := rb_o (P C.2.1) (fun m => rb_go P n C.2.1 m C.2.2.1 C.2.2.2.1 C.2.2.2.2.1 C.2.2.2.2.2.1 C.2.2.2.2.2.2.1 C.2.2.2.2.2.2.2.1 C.2.2.2.2.2.2.2.2)
theorem rb_adv_Lk {cd : ra_Cd} {Ps : List ra_Mt} {P : Nat → Option rb_M} (hP : rb_Pok cd Ps P) {n : Nat} {C D : rb_C} (h0 : C.1 = 0) (h : rb_end (rb_adv P n C) D = true) : rb_Lk cd Ps C D := by
  obtain ⟨E, h1, h2, h3⟩ := rb_end_t h
  obtain ⟨m, hm, h1⟩ := rb_o_i (show rb_o (P C.2.1) _ = some E from h1)
  have h4 := rb_go_Lk hP n C.2.1 m C.2.2.1 C.2.2.2.1 C.2.2.2.2.1 C.2.2.2.2.2.1 C.2.2.2.2.2.2.1 C.2.2.2.2.2.2.2.1 C.2.2.2.2.2.2.2.2 E hm h1
  have e : C = (0, C.2.1, C.2.2.1, C.2.2.2.1, C.2.2.2.2.1, C.2.2.2.2.2.1, C.2.2.2.2.2.2.1, C.2.2.2.2.2.2.2.1, C.2.2.2.2.2.2.2.2) := by
    obtain ⟨x1, x2, x3, x4, x5, x6, x7, x8, x9⟩ := C
    dsimp only at h0
    subst h0
    rfl
  rw [e]
  exact rb_Lk_t h4 (rb_less h2 h3)
/-- the last six bits of a number -/
noncomputable def rb_iam : List ra_V → Option (List ra_V) := fun st => rb_l st (fun y st => rb_l st (fun x st => rb_w (Nat.beq x.1 10) (rb_w (rb_eqv y (0, 63, 63)) (some ((0, x.2.1, x.2.1) :: st)))))
theorem rk_iam {cd : ra_Cd} {Ps : List ra_Mt} {M : ra_Mt} {pc pc' : Nat} (hh : ra_find (ra_Mh M) pc = none) (hd : decode (ra_Mc M) pc = .ok (.iand, 1)) (hp : pc + 1 = pc') : rb_Ok cd Ps M pc (rb_stk rb_iam pc') :=
  rb_stk_ok hh hd hp (fun _ => rfl) (fun st st' h => by
    obtain ⟨y, s1, eL, hL⟩ := rb_l_i (show rb_l st _ = some st' from h); clear h; subst eL; have h := hL; clear hL
    obtain ⟨x, s, eL, hL⟩ := rb_l_i h; clear h; subst eL; have h := hL; clear hL
    obtain ⟨h1, h⟩ := rb_w_i h
    obtain ⟨h2, h⟩ := rb_w_i h
    have h3 := rb_eqv_t h2
    subst h3
    exact (if_pos (Nat.eq_of_beq_eq_true h1)).trans ((if_pos rfl).trans h))
end RBE
