/-! The fast walk: trees, and words that the kernel evaluates quickly. -/
section RBT
def rb_T (α : Type) : Nat → Type
  | 0 => Option α
  | n + 1 => rb_T α n × rb_T α n
def rb_nil (α : Type) : (n : Nat) → rb_T α n
  | 0 => (none : Option α)
  | n + 1 => (rb_nil α n, rb_nil α n)
noncomputable def rb_get {α : Type} (n : Nat) : rb_T α n → Nat → Option α :=
  Nat.rec (motive := fun n => rb_T α n → Nat → Option α) (fun t k => Nat.rec (motive := fun _ => Option α) t (fun _ _ => none) k) (fun _ ih t k => Bool.rec (ih t.2 (Nat.div k 2)) (ih t.1 (Nat.div k 2)) (Nat.beq (Nat.mod k 2) 0)) n
noncomputable def rb_set {α : Type} (n : Nat) : rb_T α n → Nat → α → rb_T α n :=
  Nat.rec (motive := fun n => rb_T α n → Nat → α → rb_T α n) (fun _ _ e => some e) (fun _ ih t k e => Bool.rec (t.1, ih t.2 (Nat.div k 2) e) (ih t.1 (Nat.div k 2) e, t.2) (Nat.beq (Nat.mod k 2) 0)) n
theorem rb_get_0 {α : Type} (t : rb_T α 0) : rb_get 0 t 0 = t := rfl
theorem rb_get_0s {α : Type} (t : rb_T α 0) (k : Nat) : rb_get 0 t (k + 1) = none := rfl
theorem rb_get_s {α : Type} (n : Nat) (t : rb_T α (n + 1)) (k : Nat) : rb_get (n + 1) t k = if k % 2 = 0 then rb_get n t.1 (k / 2) else rb_get n t.2 (k / 2) := by
  show (Bool.rec (motive := fun _ => Option α) (rb_get n t.2 (k / 2)) (rb_get n t.1 (k / 2)) (Nat.beq (k % 2) 0)) = _
  rcases Nat.mod_two_eq_zero_or_one k with e | e <;> rw [e] <;> rfl
theorem rb_set_s {α : Type} (n : Nat) (t : rb_T α (n + 1)) (k : Nat) (e : α) : rb_set (n + 1) t k e = if k % 2 = 0 then (rb_set n t.1 (k / 2) e, t.2) else (t.1, rb_set n t.2 (k / 2) e) := by
  show (Bool.rec (motive := fun _ => rb_T α n × rb_T α n) (t.1, rb_set n t.2 (k / 2) e) (rb_set n t.1 (k / 2) e, t.2) (Nat.beq (k % 2) 0)) = _
  rcases Nat.mod_two_eq_zero_or_one k with e | e <;> rw [e] <;> rfl
theorem rb_get_set {α : Type} : ∀ (n : Nat) (t : rb_T α n) (k : Nat) (e : α) (j : Nat), k < 2 ^ n → rb_get n (rb_set n t k e) j = if j = k then some e else rb_get n t j
  | 0, t, k, e, j, hk => by
    have h1 : k = 0 := by simpa using hk
    subst h1
    cases j with
    | zero => rfl
    | succ j => rfl
  | n + 1, t, k, e, j, hk => by
    have hp : 2 ^ (n + 1) = 2 * 2 ^ n := by rw [Nat.pow_succ, Nat.mul_comm]
    have hk2 : k / 2 < 2 ^ n := by omega
    rw [rb_get_s, rb_get_s, rb_set_s]
    rcases Nat.mod_two_eq_zero_or_one k with ek | ek <;> rcases Nat.mod_two_eq_zero_or_one j with ej | ej
    · rw [if_pos ek, if_pos ej, if_pos ej]
      show rb_get n (rb_set n t.1 (k / 2) e) (j / 2) = _
      rw [rb_get_set n t.1 (k / 2) e (j / 2) hk2]
      by_cases h : j = k
      · subst h; rw [if_pos rfl, if_pos rfl]
      · rw [if_neg h, if_neg (by omega)]
    · have nj : ¬ j % 2 = 0 := by omega
      have nk : ¬ j = k := by omega
      rw [if_pos ek, if_neg nj, if_neg nj, if_neg nk]
    · have nj : ¬ k % 2 = 0 := by omega
      have nk : ¬ j = k := by omega
      rw [if_neg nj, if_pos ej, if_pos ej, if_neg nk]
    · have nj : ¬ k % 2 = 0 := by omega
      have nk : ¬ j % 2 = 0 := by omega
      rw [if_neg nj, if_neg nk, if_neg nk]
      show rb_get n (rb_set n t.2 (k / 2) e) (j / 2) = _
      rw [rb_get_set n t.2 (k / 2) e (j / 2) hk2]
      by_cases h : j = k
      · subst h; rw [if_pos rfl, if_pos rfl]
      · rw [if_neg h, if_neg (by omega)]
theorem rb_get_lt {α : Type} : ∀ (n : Nat) (t : rb_T α n) (k : Nat) (e : α), rb_get n t k = some e → k < 2 ^ n
  | 0, t, 0, e, _ => Nat.one_pos
  | 0, t, k + 1, e, h => by cases h
  | n + 1, t, k, e, h => by
    have hp : 2 ^ (n + 1) = 2 * 2 ^ n := by rw [Nat.pow_succ, Nat.mul_comm]
    rw [rb_get_s] at h
    split at h
    · have := rb_get_lt n t.1 (k / 2) e h; omega
    · have := rb_get_lt n t.2 (k / 2) e h; omega
/-- all that stands in a tree -/
def rb_all {α : Type} (Q : Nat → α → Prop) : (n : Nat) → rb_T α n → Nat → Nat → Prop
  | 0, t, k0, _ => ∀ x, (t : Option α) = some x → Q k0 x
  | n + 1, t, k0, s => rb_all Q n t.1 k0 (2 * s) ∧ rb_all Q n t.2 (k0 + s) (2 * s)
theorem rb_all_get {α : Type} {Q : Nat → α → Prop} : ∀ {n : Nat} {t : rb_T α n} {k0 s : Nat}, rb_all Q n t k0 s → ∀ {k : Nat} {x : α}, rb_get n t k = some x → Q (k0 + s * k) x
  | 0, t, k0, s, h, k, x, hg => by
    cases k with
    | zero => exact h x hg
    | succ k => cases hg
  | n + 1, t, k0, s, h, k, x, hg => by
    rw [rb_get_s] at hg
    split at hg
    · next e =>
      have h1 := rb_all_get h.1 hg
      have e2 : k0 + 2 * s * (k / 2) = k0 + s * k := by
        have : k = 2 * (k / 2) := by omega
        conv => rhs; rw [this]
        rw [Nat.mul_comm 2 s, Nat.mul_assoc]
      rwa [e2] at h1
    · next e =>
      have h1 := rb_all_get h.2 hg
      have e2 : k0 + s + 2 * s * (k / 2) = k0 + s * k := by
        have : k = 2 * (k / 2) + 1 := by omega
        conv => rhs; rw [this]
        rw [Nat.mul_add, Nat.mul_one, Nat.mul_comm 2 s, Nat.mul_assoc, Nat.add_assoc, Nat.add_comm s]
      rwa [e2] at h1
theorem rb_all0 {α : Type} {Q : Nat → α → Prop} {n : Nat} {t : rb_T α n} (h : rb_all Q n t 0 1) {k : Nat} {x : α} (hg : rb_get n t k = some x) : Q k x := by
  have := rb_all_get h hg
  rwa [Nat.zero_add, Nat.one_mul] at this
theorem rb_leaf {α : Type} {Q : Nat → α → Prop} {k s : Nat} {x : α} (h : Q k x) : rb_all Q 0 (some x : Option α) k s := fun y hy => by cases hy; exact h
theorem rb_none {α : Type} {Q : Nat → α → Prop} {k s : Nat} : rb_all Q 0 (none : Option α) k s := fun y hy => by cases hy
/-- words for the kernel -/
noncomputable def rb_o {α R : Type} (o : Option α) (f : α → Option R) : Option R := Option.rec none f o
theorem rb_o_i {α R : Type} {o : Option α} {f : α → Option R} {r : R} (h : rb_o o f = some r) : ∃ x, o = some x ∧ f x = some r := by
  cases o with
  | none => cases h
  | some x => exact ⟨x, rfl, h⟩
noncomputable def rb_l {α R : Type} (l : List α) (f : α → List α → Option R) : Option R := List.rec none (fun x xs _ => f x xs) l
theorem rb_l_i {α R : Type} {l : List α} {f : α → List α → Option R} {r : R} (h : rb_l l f = some r) : ∃ x xs, l = x :: xs ∧ f x xs = some r := by
  cases l with
  | nil => cases h
  | cons x xs => exact ⟨x, xs, rfl, h⟩
noncomputable def rb_i {R : Type} (b : Bool) (x y : R) : R := Bool.rec y x b
theorem rb_i_e {R : Type} (b : Bool) (x y : R) : rb_i b x y = if b = true then x else y := by cases b <;> rfl
noncomputable def rb_w {R : Type} (b : Bool) (x : Option R) : Option R := Bool.rec none x b
theorem rb_w_i {R : Type} {b : Bool} {x : Option R} {r : R} (h : rb_w b x = some r) : b = true ∧ x = some r := by
  cases b with
  | false => cases h
  | true => exact ⟨rfl, h⟩
/-- a number is evaluated before one goes on -/
noncomputable def rb_fn {R : Type} (n : Nat) (k : Nat → R) : R := Nat.rec (k 0) (fun m _ => k (Nat.succ m)) n
theorem rb_fn_e {R : Type} (n : Nat) (k : Nat → R) : rb_fn n k = k n := by cases n <;> rfl
noncomputable def rb_fz {R : Type} (z : Int) (k : Int → R) : R := Int.rec (fun n => rb_fn n (fun m => k (Int.ofNat m))) (fun n => rb_fn n (fun m => k (Int.negSucc m))) z
theorem rb_fz_e {R : Type} (z : Int) (k : Int → R) : rb_fz z k = k z := by
  cases z with
  | ofNat n => show rb_fn n (fun m => k (Int.ofNat m)) = _; rw [rb_fn_e]
  | negSucc n => show rb_fn n (fun m => k (Int.negSucc m)) = _; rw [rb_fn_e]
noncomputable def rb_fv {R : Type} (v : ra_V) (k : ra_V → R) : R := rb_fn v.1 (fun t => rb_fz v.2.1 (fun a => rb_fz v.2.2 (fun b => k (t, a, b))))
theorem rb_fv_e {R : Type} (v : ra_V) (k : ra_V → R) : rb_fv v k = k v := by
  unfold rb_fv
  rw [rb_fn_e, rb_fz_e, rb_fz_e]
theorem rb_beq_t {a b : Nat} (h : a = b) : Nat.beq a b = true := by subst h; exact Nat.beq_refl a
theorem rb_beq_f {a b : Nat} (h : ¬ a = b) : Nat.beq a b = false := by
  cases e : Nat.beq a b with
  | false => rfl
  | true => exact absurd (Nat.eq_of_beq_eq_true e) h
theorem rb_beq_e (a b : Nat) : Nat.beq a b = (a == b) := by
  by_cases h : a = b
  · subst h; rw [Nat.beq_refl]; simp
  · rw [rb_beq_f h]; simp [h]
/-- locals -/
noncomputable def rb_lg (al : List (Nat × ra_V)) (k : Nat) : Option ra_V := List.rec none (fun p _ ih => rb_i (Nat.beq p.1 k) (some p.2) ih) al
theorem rb_lg_e (k : Nat) : ∀ (al : List (Nat × ra_V)), rb_lg al k = ra_get al k
  | [] => rfl
  | (i, a) :: al => by
    show rb_i (Nat.beq i k) (some a) (rb_lg al k) = if i = k then some a else ra_get al k
    rw [rb_i_e, rb_lg_e k al]
    by_cases h : i = k
    · subst h; rw [if_pos rfl, if_pos (Nat.beq_refl i)]
    · rw [if_neg h, if_neg (fun z => h (Nat.eq_of_beq_eq_true z))]
noncomputable def rb_c (a : ra_V) : Nat := rb_i (Nat.beq a.1 1) 2 (rb_i (Nat.beq a.1 2) 2 (rb_i (Nat.beq a.1 5) 2 1))
theorem rb_c_e (a : ra_V) : rb_c a = ra_c a := by
  obtain ⟨t, x, y⟩ := a
  match t with
  | 0 => rfl
  | 1 => rfl
  | 2 => rfl
  | 3 => rfl
  | 4 => rfl
  | 5 => rfl
  | n + 6 => rfl
noncomputable def rb_cs (st : List ra_V) : Nat := List.rec 0 (fun x _ ih => Nat.add (rb_c x) ih) st
theorem rb_cs_e : ∀ (st : List ra_V), rb_cs st = (st.map ra_c).sum
  | [] => rfl
  | x :: st => by
    show Nat.add (rb_c x) (rb_cs st) = _
    rw [rb_c_e, rb_cs_e st]
    rfl
/-- what stays of the locals when i is stored (w: two places) -/
noncomputable def rb_lf (w : Bool) (i : Nat) (al : List (Nat × ra_V)) : List (Nat × ra_V) :=
  List.rec [] (fun p _ ih => rb_i (Nat.beq p.1 i) ih (rb_i (Nat.beq (Nat.succ p.1) i) (rb_i (Nat.beq (rb_c p.2) 2) ih (p :: ih)) (rb_i w (rb_i (Nat.beq p.1 (Nat.succ i)) ih (p :: ih)) (p :: ih)))) al
theorem rb_lf_1 (i : Nat) : ∀ (al : List (Nat × ra_V)), rb_lf false i al = al.filter (fun q => !(q.1 == i) && !(q.1 + 1 == i && ra_c q.2 == 2))
  | [] => rfl
  | (j, a) :: al => by
    show rb_i (Nat.beq j i) (rb_lf false i al) (rb_i (Nat.beq (Nat.succ j) i) (rb_i (Nat.beq (rb_c a) 2) (rb_lf false i al) ((j, a) :: rb_lf false i al)) ((j, a) :: rb_lf false i al)) = _
    rw [rb_lf_1 i al, List.filter_cons, rb_i_e, rb_i_e, rb_i_e, rb_c_e]
    have e1 : Nat.beq j i = (j == i) := rb_beq_e _ _
    have e2 : Nat.beq (Nat.succ j) i = (j + 1 == i) := rb_beq_e _ _
    have e3 : Nat.beq (ra_c a) 2 = (ra_c a == 2) := rb_beq_e _ _
    rw [e1, e2, e3]
    cases (j == i) <;> cases (j + 1 == i) <;> cases (ra_c a == 2) <;> rfl
theorem rb_lf_2 (i : Nat) : ∀ (al : List (Nat × ra_V)), rb_lf true i al = al.filter (fun q => !(q.1 == i) && (!(q.1 == i + 1) && !(q.1 + 1 == i && ra_c q.2 == 2)))
  | [] => rfl
  | (j, a) :: al => by
    show rb_i (Nat.beq j i) (rb_lf true i al) (rb_i (Nat.beq (Nat.succ j) i) (rb_i (Nat.beq (rb_c a) 2) (rb_lf true i al) ((j, a) :: rb_lf true i al)) (rb_i (Nat.beq j (Nat.succ i)) (rb_lf true i al) ((j, a) :: rb_lf true i al))) = _
    rw [rb_lf_2 i al, List.filter_cons, rb_i_e, rb_i_e, rb_i_e, rb_i_e, rb_c_e]
    have e1 : Nat.beq j i = (j == i) := rb_beq_e _ _
    have e2 : Nat.beq (Nat.succ j) i = (j + 1 == i) := rb_beq_e _ _
    have e3 : Nat.beq (ra_c a) 2 = (ra_c a == 2) := rb_beq_e _ _
    have e4 : Nat.beq j (Nat.succ i) = (j == i + 1) := rb_beq_e _ _
    rw [e1, e2, e3, e4]
    have key : (j + 1 == i) = true → (j == i + 1) = false := by
      intro h
      have h : j + 1 = i := by simpa using h
      have : ¬ j = i + 1 := by omega
      simpa using this
    cases h1 : (j == i) <;> cases h2 : (j + 1 == i) <;> cases (ra_c a == 2) <;> cases h4 : (j == i + 1) <;> first | rfl | (rw [key h2] at h4; cases h4)
/-- a row's places -/
noncomputable def rb_at (d : ra_V) (ex : List (Nat × ra_V)) (j : Nat) : ra_V := List.rec d (fun p _ ih => rb_i (Nat.beq p.1 j) p.2 ih) ex
theorem rb_at_e (d : ra_V) (j : Nat) : ∀ (ex : List (Nat × ra_V)), rb_at d ex j = ra_at d ex j
  | [] => rfl
  | (i, a) :: ex => by
    show rb_i (Nat.beq i j) a (rb_at d ex j) = if i = j then a else ra_at d ex j
    rw [rb_i_e, rb_at_e d j ex]
    by_cases h : i = j
    · subst h; rw [if_pos rfl, if_pos (Nat.beq_refl i)]
    · rw [if_neg h, if_neg (fun z => h (Nat.eq_of_beq_eq_true z))]
/-- fields -/
noncomputable def rb_nth {α : Type} (l : List α) : Nat → Option α := List.rec (motive := fun _ => Nat → Option α) (fun _ => none) (fun x _ ih k => Nat.rec (some x) (fun m _ => ih m) k) l
theorem rb_nth_e {α : Type} : ∀ (l : List α) (k : Nat), rb_nth l k = l[k]?
  | [], _ => rfl
  | x :: l, 0 => rfl
  | x :: l, k + 1 => by
    show rb_nth l k = _
    rw [rb_nth_e l k]
    rfl
noncomputable def rb_upd {α : Type} (l : List α) : Nat → α → List α := List.rec (motive := fun _ => Nat → α → List α) (fun _ _ => []) (fun x xs ih k e => Nat.rec (e :: xs) (fun m _ => x :: ih m e) k) l
theorem rb_upd_e {α : Type} : ∀ (l : List α) (k : Nat) (e : α), rb_upd l k e = l.set k e
  | [], _, _ => rfl
  | x :: l, 0, _ => rfl
  | x :: l, k + 1, e => by
    show x :: rb_upd l k e = _
    rw [rb_upd_e l k e]
    rfl
/-- the first k of a stack, turned round, and the rest -/
noncomputable def rb_tk {R : Type} (k : Nat) : List ra_V → List ra_V → (List ra_V → List ra_V → Option R) → Option R :=
  Nat.rec (motive := fun _ => List ra_V → List ra_V → (List ra_V → List ra_V → Option R) → Option R) (fun st acc f => f acc st) (fun _ ih st acc f => rb_l st (fun x xs => ih xs (x :: acc) f)) k
theorem rb_tk_i {R : Type} : ∀ {k : Nat} {st acc : List ra_V} {f : List ra_V → List ra_V → Option R} {r : R}, rb_tk k st acc f = some r → (st.take k).length = k ∧ f ((st.take k).reverse ++ acc) (st.drop k) = some r
  | 0, st, acc, f, r, h => ⟨rfl, h⟩
  | k + 1, st, acc, f, r, h => by
    obtain ⟨x, xs, rfl, h⟩ := rb_l_i (show rb_l st (fun x xs => rb_tk k xs (x :: acc) f) = some r from h)
    obtain ⟨h1, h2⟩ := rb_tk_i (k := k) h
    refine ⟨congrArg Nat.succ h1, ?_⟩
    rw [List.take_succ_cons, List.reverse_cons, List.drop_succ_cons, List.append_assoc]
    exact h2
noncomputable def rb_mx (a b : Nat) : Nat := rb_i (Nat.ble a b) b a
theorem rb_mx_e (a b : Nat) : rb_mx a b = max a b := by
  unfold rb_mx
  rw [rb_i_e]
  by_cases h : a ≤ b
  · rw [if_pos (Nat.ble_eq_true_of_le h), Nat.max_eq_right h]
  · rw [if_neg (fun z => h (Nat.le_of_ble_eq_true z)), Nat.max_eq_left (by omega)]
end RBT
