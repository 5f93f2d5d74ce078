/-! The fast walk: its states, what they stand for, one step of it. -/
section RBR
abbrev rb_W : Type := rb_T ra_E 11
/-- exceptions and types by small numbers -/
def rb_en : List String := ["java/lang/IllegalStateException", "java/lang/IndexOutOfBoundsException", "java/lang/IllegalArgumentException", "SqlStoreModel$Stop"]
def rb_tys : List FieldType := [.int, .byte, .boolean, .long, .double, .array .int, .array .byte, .object "java/lang/Object", .object "java/lang/String", .object "SqlStore$Value", .object "SqlStore$Node", .object "SqlStore$Select", .object "SqlStore$Source", .object "SqlStore$Definition"]
/-- a cell of the tree and one of the list: rows have their type's number in place of its place -/
def rb_re (ta : List FieldType) (f e : ra_E) : Prop := f.1 = e.1 ∧ f.2.2 = e.2.2 ∧ (f.1 = 0 → f.2.1 = e.2.1) ∧ (¬ f.1 = 0 → ∃ ty, ta[e.2.1]? = some ty ∧ rb_tys[f.2.1]? = some ty)
def rb_Rel (t : rb_W) (c : Nat) (ah : List ra_E) (ta : List FieldType) : Prop := ah.length = c ∧ ∀ k f, rb_get 11 t k = some f → ∃ e, ah[k]? = some e ∧ rb_re ta f e
/-- the cells that are only read stand as they stood -/
def rb_fr (ah : List ra_E) (ta : List FieldType) (ah' : List ra_E) (ta' : List FieldType) : Prop := (∀ (k : Nat) (e : ra_E), k < ra_S0 → ah[k]? = some e → ah'[k]? = some e) ∧ ∀ (k : Nat) (x : FieldType), ta[k]? = some x → ta'[k]? = some x
theorem rb_fr_r {ta : List FieldType} (ah : List ra_E) : rb_fr ah ta ah ta := ⟨fun _ _ _ h => h, fun _ _ h => h⟩
theorem rb_fr_t {a b c : List ra_E} {x y z : List FieldType} (h1 : rb_fr a x b y) (h2 : rb_fr b y c z) : rb_fr a x c z := ⟨fun k e hk h => h2.1 k e hk (h1.1 k e hk h), fun k e h => h2.2 k e (h1.2 k e h)⟩
theorem rb_fr_s {a : List ra_E} {ta : List FieldType} {k : Nat} {e : ra_E} (h : Nat.ble ra_S0 k = true) : rb_fr a ta (a.set k e) ta := ⟨fun j x hj hx => by
  have := Nat.le_of_ble_eq_true h
  rw [List.getElem?_set_ne (by omega)]
  exact hx, fun _ _ h => h⟩
theorem rb_fr_0 {ta : List FieldType} (a b : List ra_E) : rb_fr a ta (a ++ b) ta := ⟨fun j x _ hx => by
  rw [List.getElem?_append_left (List.getElem?_eq_some_iff.mp hx).1]
  exact hx, fun _ _ h => h⟩
theorem rb_fr_a {ta tb : List FieldType} (a b : List ra_E) : rb_fr a ta (a ++ b) (ta ++ tb) := ⟨(rb_fr_0 (ta := ta) a b).1, fun j x hx => by
  rw [List.getElem?_append_left (List.getElem?_eq_some_iff.mp hx).1]
  exact hx⟩
/-- a suspended frame: method, place of its call, locals, stack, room, kind of the call, the callee's locals -/
abbrev rb_Fr : Type := Nat × Nat × List (Nat × ra_V) × List ra_V × ra_A × Nat × Nat
/-- 0 runs, 1 has returned, 2 has thrown; method (or what is returned or thrown), pc, locals, stack, cells, how many, room, frames -/
abbrev rb_C : Type := Nat × Nat × Nat × List (Nat × ra_V) × List ra_V × rb_W × Nat × ra_A × List rb_Fr
abbrev rb_R : Type := Option rb_C
abbrev rb_K1 : Type := Nat → List (Nat × ra_V) → List ra_V → rb_W → Nat → ra_A → rb_R
abbrev rb_K2 : Type := Nat → Nat → List ra_V → List ra_V → rb_R
abbrev rb_K3 : Type := Nat → ra_V → rb_R
abbrev rb_K4 : Type := Nat → ra_A → rb_R
abbrev rb_F : Type := rb_K1 → rb_K2 → rb_K3 → rb_K4 → List (Nat × ra_V) → List ra_V → rb_W → Nat → ra_A → rb_R
abbrev rb_Hd : Type := Nat × Nat × Nat × List Nat × List Nat
abbrev rb_M : Type := (Nat → Option rb_F) × Nat × List rb_Hd
abbrev rb_Go : Type := Nat → rb_M → Nat → List (Nat × ra_V) → List ra_V → rb_W → Nat → ra_A → List rb_Fr → rb_R
noncomputable def rb_mem (e : Nat) (l : List Nat) : Bool := List.rec false (fun x _ ih => rb_i (Nat.beq x e) true ih) l
theorem rb_mem_t {e : Nat} : ∀ {l : List Nat}, rb_mem e l = true → e ∈ l
  | [], h => by cases h
  | x :: l, h => by
    have h : rb_i (Nat.beq x e) true (rb_mem e l) = true := h
    rw [rb_i_e] at h
    split at h
    · next q => rw [Nat.eq_of_beq_eq_true q]; exact List.mem_cons_self
    · exact List.mem_cons_of_mem _ (rb_mem_t h)
noncomputable def rb_ct (pc e : Nat) (hs : List rb_Hd) : Option (Option Nat) :=
  List.rec (some none) (fun q _ ih => rb_i (Nat.ble q.1 pc) (rb_i (Nat.ble (Nat.succ pc) q.2.1) (rb_i (rb_mem e q.2.2.2.1) (some (some q.2.2.1)) (rb_i (rb_mem e q.2.2.2.2) ih none)) ih) ih) hs
/-- the tables of handlers say the same -/
def rb_hs (hs : List rb_Hd) (L : List (Nat × Nat × Nat × Nat × String)) : Prop := ∀ (pc e : Nat) (E : String) (o : Option Nat), rb_en[e]? = some E → rb_ct pc e hs = some o → ra_ct pc E L = some o
theorem rb_hs_nil : rb_hs [] [] := fun _ _ _ _ _ h => h
theorem rb_hs_cons {f t h c : Nat} {ys ns : List Nat} {nm : String} {hs : List rb_Hd} {L : List (Nat × Nat × Nat × Nat × String)} (h1 : ∀ e ∈ ys, ∀ E, rb_en[e]? = some E → (E, nm) ∈ ra_yes) (h2 : ∀ e ∈ ns, ∀ E, rb_en[e]? = some E → (E, nm) ∉ ra_yes ∧ (E, nm) ∈ ra_no) (h3 : rb_hs hs L) : rb_hs ((f, t, h, ys, ns) :: hs) ((f, t, h, c, nm) :: L) := by
  intro pc e E o he hc
  have hc : rb_i (Nat.ble f pc) (rb_i (Nat.ble (Nat.succ pc) t) (rb_i (rb_mem e ys) (some (some h)) (rb_i (rb_mem e ns) (rb_ct pc e hs) none)) (rb_ct pc e hs)) (rb_ct pc e hs) = some o := hc
  rw [rb_i_e, rb_i_e, rb_i_e, rb_i_e] at hc
  unfold ra_ct
  by_cases g1 : f ≤ pc
  · rw [if_pos (Nat.ble_eq_true_of_le g1)] at hc
    by_cases g2 : pc < t
    · rw [if_pos (Nat.ble_eq_true_of_le g2)] at hc
      rw [if_pos ⟨g1, g2⟩]
      split at hc
      · next q => rw [if_pos (h1 e (rb_mem_t q) E he)]; exact hc
      · split at hc
        · next q =>
          obtain ⟨q1, q2⟩ := h2 e (rb_mem_t q) E he
          rw [if_neg q1, if_pos q2]
          exact h3 pc e E o he hc
        · cases hc
    · rw [if_neg (fun z => g2 (Nat.le_of_ble_eq_true z))] at hc
      rw [if_neg (fun z => g2 z.2)]
      exact h3 pc e E o he hc
  · rw [if_neg (fun z => g1 (Nat.le_of_ble_eq_true z))] at hc
    rw [if_neg (fun z => g1 z.1)]
    exact h3 pc e E o he hc
noncomputable def rb_acc {R : Type} (a b : ra_A) (nL : Nat) (k : ra_A → R) : R := rb_fn (Nat.add a.1 b.1) (fun x => rb_fn (Nat.add a.2.1 b.2.1) (fun y => rb_fn (rb_mx a.2.2.1 (Nat.succ b.2.2.1)) (fun z => rb_fn (rb_mx a.2.2.2 (Nat.add (Nat.add 8 (Nat.add nL 11)) b.2.2.2)) (fun w => k (x, y, z, w)))))
theorem rb_acc_e {R : Type} (a b : ra_A) (nL : Nat) (k : ra_A → R) : rb_acc a b nL k = k (ra_acc a b nL) := by
  unfold rb_acc
  rw [rb_fn_e, rb_fn_e, rb_fn_e, rb_fn_e, rb_mx_e, rb_mx_e]
  rfl
noncomputable def rb_args (as : List ra_V) : Nat → List (Nat × ra_V) := List.rec (motive := fun _ => Nat → List (Nat × ra_V)) (fun _ => []) (fun a _ ih i => (i, a) :: ih (rb_i (Nat.beq (rb_c a) 2) (Nat.succ (Nat.succ i)) (Nat.succ i))) as
theorem rb_args_e : ∀ (as : List ra_V) (i : Nat), rb_args as i = ra_args i as
  | [], _ => rfl
  | a :: as, i => by
    show (i, a) :: rb_args as (rb_i (Nat.beq (rb_c a) 2) (i + 2) (i + 1)) = _
    rw [rb_args_e as, rb_i_e, rb_c_e]
    show (i, a) :: ra_args (if Nat.beq (ra_c a) 2 = true then i + 2 else i + 1) as = (i, a) :: ra_args (if ra_c a = 2 then i + 2 else i + 1) as
    by_cases h : ra_c a = 2
    · rw [if_pos h, if_pos (rb_beq_t h)]
    · rw [if_neg h, if_neg (fun z => h (Nat.eq_of_beq_eq_true z))]
noncomputable def rb_unw (P : Nat → Option rb_M) (go : rb_Go) (e : Nat) (t : rb_W) (c : Nat) (fs : List rb_Fr) : Nat → rb_M → Nat → List (Nat × ra_V) → ra_A → rb_R :=
  List.rec (motive := fun _ => Nat → rb_M → Nat → List (Nat × ra_V) → ra_A → rb_R)
    (fun j m pc al a => rb_o (rb_ct pc e m.2.2) (fun o => Option.rec (some (2, e, 0, [], [], t, c, a, [])) (fun h => go j m h al [(8, 0, 0)] t c a []) o))
    (fun fr fs' ih j m pc al a => rb_o (rb_ct pc e m.2.2) (fun o => Option.rec (rb_w (rb_i (Nat.beq fr.2.2.2.2.2.1 3) false true) (rb_o (P fr.1) (fun m' => rb_acc fr.2.2.2.2.1 a fr.2.2.2.2.2.2 (fun a' => ih fr.1 m' fr.2.1 fr.2.2.1 a')))) (fun h => go j m h al [(8, 0, 0)] t c a (fr :: fs')) o)) fs
noncomputable def rb_go (P : Nat → Option rb_M) (n : Nat) : rb_Go :=
  Nat.rec (motive := fun _ => rb_Go) (fun j _ pc al st t c a fs => some (0, j, pc, al, st, t, c, a, fs))
    (fun _ ih j m pc al st t c a fs => rb_o (m.1 pc) (fun F => F (fun pc al st t c a => ih j m pc al st t c a fs)
      (fun kd j' as st' => rb_o (P j') (fun m' => ih j' m' 0 (rb_args as 0) [] t c (0, 0, 0, 0) ((j, pc, al, st', a, kd, m'.2.1) :: fs)))
      (fun q v => List.rec (some (1, q, 0, [], [v], t, c, a, [])) (fun fr fs' _ => rb_o (P fr.1) (fun m' => rb_acc fr.2.2.2.2.1 a fr.2.2.2.2.2.2 (fun a' => ih fr.1 m' (Nat.add fr.2.1 3) fr.2.2.1 (rb_i (Nat.beq q 0) fr.2.2.2.1 (v :: fr.2.2.2.1)) t c a' fs'))) fs)
      (fun e a' => rb_unw P ih e t c fs j m pc al a') al st t c a)) n
theorem rb_go_s (P : Nat → Option rb_M) (n j : Nat) (m : rb_M) (pc : Nat) (al : List (Nat × ra_V)) (st : List ra_V) (t : rb_W) (c : Nat) (a : ra_A) (fs : List rb_Fr) : rb_go P (n + 1) j m pc al st t c a fs = rb_o (m.1 pc) (fun F => F (fun pc al st t c a => rb_go P n j m pc al st t c a fs)
      (fun kd j' as st' => rb_o (P j') (fun m' => rb_go P n j' m' 0 (rb_args as 0) [] t c (0, 0, 0, 0) ((j, pc, al, st', a, kd, m'.2.1) :: fs)))
      (fun q v => List.rec (some (1, q, 0, [], [v], t, c, a, [])) (fun fr fs' _ => rb_o (P fr.1) (fun m' => rb_acc fr.2.2.2.2.1 a fr.2.2.2.2.2.2 (fun a' => rb_go P n fr.1 m' (Nat.add fr.2.1 3) fr.2.2.1 (rb_i (Nat.beq q 0) fr.2.2.2.1 (v :: fr.2.2.2.1)) t c a' fs'))) fs)
      (fun e a' => rb_unw P (rb_go P n) e t c fs j m pc al a') al st t c a) := rfl
section Den
variable (cd : ra_Cd) (Ps : List ra_Mt)
def rb_Fin : List rb_Fr → ra_Rs → ra_Rs → Prop
  | [], rs, r => rs = r
  | fr :: fs, rs, r => ∃ (n : Nat) (M : ra_Mt) (r1 : ra_Rs), Ps[fr.1]? = some M ∧ ra_back (ra_run cd Ps n) M fr.2.1 fr.2.2.1 fr.2.2.2.1 fr.2.2.2.2.1 fr.2.2.2.2.2.1 fr.2.2.2.2.2.2 rs = some r1 ∧ rb_Fin fs r1 r
/-- what a state stands for: the walk from it on has the result r -/
def rb_Den (C : rb_C) (ah : List ra_E) (ta : List FieldType) (r : ra_Rs) : Prop := match C with
  | (0, j, pc, al, st, _, _, a, fs) => ∃ (n : Nat) (M : ra_Mt) (r0 : ra_Rs), Ps[j]? = some M ∧ ra_run cd Ps n M pc al st ah ta a = some r0 ∧ rb_Fin cd Ps fs r0 r
  | (1, q, _, _, st, _, _, a, _) => ∃ v, st = [v] ∧ r = ((q, v, ""), ah, ta, a)
  | (_, e, _, _, _, _, _, a, _) => ∃ E, rb_en[e]? = some E ∧ r = ((2, (0, 0, 0), E), ah, ta, a)
def rb_Ct (C : rb_C) : rb_W := C.2.2.2.2.2.1
def rb_Cc (C : rb_C) : Nat := C.2.2.2.2.2.2.1
def rb_Lk (C C' : rb_C) : Prop := ∀ ah ta, rb_Rel (rb_Ct C) (rb_Cc C) ah ta → ∃ ah' ta', rb_Rel (rb_Ct C') (rb_Cc C') ah' ta' ∧ rb_fr ah ta ah' ta' ∧ ∀ r, rb_Den cd Ps C' ah' ta' r → rb_Den cd Ps C ah ta r
/-- what a row of the fast code owes -/
def rb_Ok (M : ra_Mt) (pc : Nat) (F : rb_F) : Prop := ∀ (k1 : rb_K1) (k2 : rb_K2) (k3 : rb_K3) (k4 : rb_K4) (al : List (Nat × ra_V)) (st : List ra_V) (t : rb_W) (c : Nat) (a : ra_A) (C : rb_C), F k1 k2 k3 k4 al st t c a = some C →
  (∃ pc' al' st' t' c' a', k1 pc' al' st' t' c' a' = some C ∧ ∀ ah ta, rb_Rel t c ah ta → ∃ ah' ta', rb_Rel t' c' ah' ta' ∧ rb_fr ah ta ah' ta' ∧ ∀ go r, go M pc' al' st' ah' ta' a' = some r → ra_F cd Ps go M pc al st ah ta a = some r) ∨
  (∃ kd j as st', k2 kd j as st' = some C ∧ ∀ ah ta, rb_Rel t c ah ta → ∀ M', Ps[j]? = some M' → ∀ go rs r, go M' 0 (ra_args 0 as) [] ah ta (0, 0, 0, 0) = some rs → ra_back go M pc al st' a kd (ra_Mn M') rs = some r → ra_F cd Ps go M pc al st ah ta a = some r) ∨
  (∃ q v, k3 q v = some C ∧ (q = 0 ∨ q = 1) ∧ ∀ ah ta go, ra_F cd Ps go M pc al st ah ta a = some ((q, v, ""), ah, ta, a)) ∨
  (∃ e a' E, k4 e a' = some C ∧ rb_en[e]? = some E ∧ ∀ ah ta, rb_Rel t c ah ta → ∀ go r, ra_thx go M pc al E ah ta a' = some r → ra_F cd Ps go M pc al st ah ta a = some r)
def rb_Mok (M : ra_Mt) (m : rb_M) : Prop := m.2.1 = ra_Mn M ∧ rb_hs m.2.2 (ra_Mq M) ∧ ∀ pc F, m.1 pc = some F → rb_Ok cd Ps M pc F
def rb_Pok (P : Nat → Option rb_M) : Prop := ∀ j m, P j = some m → ∃ M, Ps[j]? = some M ∧ rb_Mok cd Ps M m
end Den
section Mono
variable {cd : ra_Cd} {Ps : List ra_Mt}
def rb_sub (go go' : ra_Rc) : Prop := ∀ M pc al st ah ta a r, go M pc al st ah ta a = some r → go' M pc al st ah ta a = some r
theorem rb_sub_thx {go go' : ra_Rc} (hg : rb_sub go go') {M : ra_Mt} {pc : Nat} {al : List (Nat × ra_V)} {E : String} {ah : List ra_E} {ta : List FieldType} {a : ra_A} {r : ra_Rs} (h : ra_thx go M pc al E ah ta a = some r) : ra_thx go' M pc al E ah ta a = some r := by
  unfold ra_thx at h ⊢
  split at h
  · exact h
  · exact hg _ _ _ _ _ _ _ _ h
  · cases h
theorem rb_sub_back {go go' : ra_Rc} (hg : rb_sub go go') {M : ra_Mt} {pc : Nat} {al : List (Nat × ra_V)} {st : List ra_V} {a : ra_A} {kd nL : Nat} {rs r : ra_Rs} (h : ra_back go M pc al st a kd nL rs = some r) : ra_back go' M pc al st a kd nL rs = some r := by
  unfold ra_back at h ⊢
  split at h
  · exact hg _ _ _ _ _ _ _ _ h
  · exact hg _ _ _ _ _ _ _ _ h
  · split at h
    · next q => exact (if_pos q).trans (rb_sub_thx hg h)
    · cases h
theorem rb_sub_F {go go' : ra_Rc} (hg : rb_sub go go') {M : ra_Mt} {pc : Nat} {al : List (Nat × ra_V)} {st : List ra_V} {ah : List ra_E} {ta : List FieldType} {a : ra_A} {r : ra_Rs} (h : ra_F cd Ps go M pc al st ah ta a = some r) : ra_F cd Ps go' M pc al st ah ta a = some r := by
  unfold ra_F at h ⊢
  split at h
  · exact h
  · exact hg _ _ _ _ _ _ _ _ h
  · split at h
    · split at h
      · exact hg _ _ _ _ _ _ _ _ h
      · split at h
        · exact h
        · split at h
          · exact rb_sub_thx hg h
          · split at h
            · cases h
            · split at h
              · cases h
              · next rs hrs =>
                rw [hg _ _ _ _ _ _ _ _ hrs]
                exact rb_sub_back hg h
    · cases h
theorem rb_mono1 : ∀ (n : Nat), rb_sub (ra_run cd Ps n) (ra_run cd Ps (n + 1))
  | 0 => fun _ _ _ _ _ _ _ _ h => by cases h
  | n + 1 => fun _ _ _ _ _ _ _ _ h => rb_sub_F (rb_mono1 n) h
theorem rb_mono {n m : Nat} (h : n ≤ m) : rb_sub (ra_run cd Ps n) (ra_run cd Ps m) := by
  induction h with
  | refl => exact fun _ _ _ _ _ _ _ _ h => h
  | step _ ih => exact fun _ _ _ _ _ _ _ _ h => rb_mono1 _ _ _ _ _ _ _ _ _ (ih _ _ _ _ _ _ _ _ h)
theorem rb_Lk_r (C : rb_C) : rb_Lk cd Ps C C := fun ah ta h => ⟨ah, ta, h, rb_fr_r _, fun _ h => h⟩
theorem rb_Lk_t {A B C : rb_C} (h : rb_Lk cd Ps A B) (h2 : rb_Lk cd Ps B C) : rb_Lk cd Ps A C := fun ah ta hr => by
  obtain ⟨ah1, ta1, g1, f1, g2⟩ := h ah ta hr
  obtain ⟨ah2, ta2, g3, f2, g4⟩ := h2 ah1 ta1 g1
  exact ⟨ah2, ta2, g3, rb_fr_t f1 f2, fun r hr => g2 r (g4 r hr)⟩
/-- what is thrown, through the frames -/
theorem rb_unw_Lk {P : Nat → Option rb_M} (hP : rb_Pok cd Ps P) {go : rb_Go} (hgo : ∀ j m pc al st t c a fs C', P j = some m → go j m pc al st t c a fs = some C' → rb_Lk cd Ps (0, j, pc, al, st, t, c, a, fs) C') {e : Nat} {E : String} (he : rb_en[e]? = some E) {t : rb_W} {c : Nat} :
    ∀ (fs : List rb_Fr) (j : Nat) (m : rb_M) (pc : Nat) (al : List (Nat × ra_V)) (a : ra_A) (C' : rb_C), P j = some m → rb_unw P go e t c fs j m pc al a = some C' → ∀ ah ta, rb_Rel t c ah ta → ∃ ah' ta', rb_Rel (rb_Ct C') (rb_Cc C') ah' ta' ∧ rb_fr ah ta ah' ta' ∧ ∀ r, rb_Den cd Ps C' ah' ta' r → ∃ (n : Nat) (M : ra_Mt) (r1 : ra_Rs), Ps[j]? = some M ∧ ra_thx (ra_run cd Ps n) M pc al E ah ta a = some r1 ∧ rb_Fin cd Ps fs r1 r
  | [], j, m, pc, al, a, C', hj, h, ah, ta, hR => by
    obtain ⟨M, hM, h1, h2, h3⟩ := hP j m hj
    obtain ⟨o, ho, h⟩ := rb_o_i (show rb_o (rb_ct pc e m.2.2) (fun o => Option.rec (some (2, e, 0, [], [], t, c, a, [])) (fun h => go j m h al [(8, 0, 0)] t c a []) o) = some C' from h)
    have ho := h2 pc e E o he ho
    cases o with
    | none =>
      cases h
      refine ⟨ah, ta, hR, rb_fr_r _, fun r hr => ?_⟩
      obtain ⟨E2, hE, rfl⟩ := hr
      rw [he] at hE
      cases hE
      exact ⟨0, M, _, hM, by unfold ra_thx; rw [ho], rfl⟩
    | some hp =>
      obtain ⟨ah', ta', g1, f1, g2⟩ := hgo _ _ _ _ _ _ _ _ _ _ hj h ah ta hR
      refine ⟨ah', ta', g1, f1, fun r hr => ?_⟩
      obtain ⟨n, M2, r0, k1, k2, k3⟩ := g2 r hr
      exact ⟨n, M2, r0, k1, by rw [hM] at k1; cases k1; unfold ra_thx; rw [ho]; exact k2, k3⟩
  | fr :: fs, j, m, pc, al, a, C', hj, h, ah, ta, hR => by
    obtain ⟨M, hM, h1, h2, h3⟩ := hP j m hj
    obtain ⟨o, ho, h⟩ := rb_o_i (show rb_o (rb_ct pc e m.2.2) (fun o => Option.rec (rb_w (rb_i (Nat.beq fr.2.2.2.2.2.1 3) false true) (rb_o (P fr.1) (fun m' => rb_acc fr.2.2.2.2.1 a fr.2.2.2.2.2.2 (fun a' => rb_unw P go e t c fs fr.1 m' fr.2.1 fr.2.2.1 a')))) (fun h => go j m h al [(8, 0, 0)] t c a (fr :: fs)) o) = some C' from h)
    have ho := h2 pc e E o he ho
    cases o with
    | none =>
      obtain ⟨hk, h⟩ := rb_w_i h
      obtain ⟨m', hm', h⟩ := rb_o_i h
      rw [rb_acc_e] at h
      obtain ⟨ah', ta', g1, f1, g2⟩ := rb_unw_Lk hP hgo he fs _ _ _ _ _ _ hm' h ah ta hR
      refine ⟨ah', ta', g1, f1, fun r hr => ?_⟩
      obtain ⟨n, M2, r1, k1, k2, k3⟩ := g2 r hr
      refine ⟨0, M, _, hM, by unfold ra_thx; rw [ho], n, M2, r1, k1, ?_, k3⟩
      have hk3 : ¬ fr.2.2.2.2.2.1 = 3 := by
        intro z
        rw [rb_i_e, z] at hk
        cases hk
      exact (if_pos ⟨rfl, hk3⟩).trans k2
    | some hp =>
      obtain ⟨ah', ta', g1, f1, g2⟩ := hgo _ _ _ _ _ _ _ _ _ _ hj h ah ta hR
      refine ⟨ah', ta', g1, f1, fun r hr => ?_⟩
      obtain ⟨n, M2, r0, k1, k2, k3⟩ := g2 r hr
      exact ⟨n, M2, r0, k1, by rw [hM] at k1; cases k1; unfold ra_thx; rw [ho]; exact k2, k3⟩
/-- the fast walk is right -/
theorem rb_go_Lk {P : Nat → Option rb_M} (hP : rb_Pok cd Ps P) : ∀ (n j : Nat) (m : rb_M) (pc : Nat) (al : List (Nat × ra_V)) (st : List ra_V) (t : rb_W) (c : Nat) (a : ra_A) (fs : List rb_Fr) (C' : rb_C), P j = some m → rb_go P n j m pc al st t c a fs = some C' → rb_Lk cd Ps (0, j, pc, al, st, t, c, a, fs) C'
  | 0, j, m, pc, al, st, t, c, a, fs, C', hj, h => by
    have h : some (0, j, pc, al, st, t, c, a, fs) = some C' := h
    cases h
    exact rb_Lk_r _
  | n + 1, j, m, pc, al, st, t, c, a, fs, C', hj, h => by
    have ih := rb_go_Lk hP n
    rw [rb_go_s] at h
    obtain ⟨F, hF, h⟩ := rb_o_i h
    obtain ⟨M, hM, h1, h2, h3⟩ := hP j m hj
    rcases h3 pc F hF _ _ _ _ _ _ _ _ _ _ h with ⟨pc', al', st', t', c', a', e1, e2⟩ | ⟨kd, j', as, st', e1, e2⟩ | ⟨q, v, e1, e3, e2⟩ | ⟨e, a', E, e1, e3, e2⟩
    · intro ah ta hR
      obtain ⟨ah1, ta1, g1, f1, g2⟩ := e2 ah ta hR
      obtain ⟨ah', ta', g3, f3, g4⟩ := ih _ _ _ _ _ _ _ _ _ _ hj e1 ah1 ta1 g1
      refine ⟨ah', ta', g3, rb_fr_t f1 f3, fun r hr => ?_⟩
      obtain ⟨n2, M2, r0, k1, k2, k3⟩ := g4 r hr
      rw [hM] at k1
      cases k1
      exact ⟨n2 + 1, M, r0, hM, g2 _ _ k2, k3⟩
    · obtain ⟨m', hm', e1⟩ := rb_o_i e1
      obtain ⟨M', hM', q1, q2, q3⟩ := hP j' m' hm'
      intro ah ta hR
      obtain ⟨ah', ta', g3, f3, g4⟩ := ih _ _ _ _ _ _ _ _ _ _ hm' e1 ah ta hR
      refine ⟨ah', ta', g3, f3, fun r hr => ?_⟩
      obtain ⟨n2, M2, r0, k1, k2, k3⟩ := g4 r hr
      rw [hM'] at k1
      cases k1
      obtain ⟨n3, M3, r1, k4, k5, k6⟩ := k3
      dsimp only at k4 k5
      rw [hM] at k4
      cases k4
      rw [rb_args_e] at k2
      rw [q1] at k5
      refine ⟨max n2 n3 + 1, M, r1, hM, ?_, k6⟩
      exact e2 ah ta hR M' hM' _ _ _ (rb_mono (Nat.le_max_left n2 n3) _ _ _ _ _ _ _ _ k2) (rb_sub_back (rb_mono (Nat.le_max_right n2 n3)) k5)
    · cases fs with
      | nil =>
        cases e1
        intro ah ta hR
        refine ⟨ah, ta, hR, rb_fr_r _, fun r hr => ?_⟩
        obtain ⟨v2, hv, rfl⟩ := hr
        cases hv
        exact ⟨1, M, _, hM, e2 ah ta _, rfl⟩
      | cons fr fs =>
        obtain ⟨m', hm', e1⟩ := rb_o_i (show rb_o (P fr.1) (fun m' => rb_acc fr.2.2.2.2.1 a fr.2.2.2.2.2.2 (fun a' => rb_go P n fr.1 m' (Nat.add fr.2.1 3) fr.2.2.1 (rb_i (Nat.beq q 0) fr.2.2.2.1 (v :: fr.2.2.2.1)) t c a' fs)) = some C' from e1)
        rw [rb_acc_e] at e1
        intro ah ta hR
        obtain ⟨ah', ta', g3, f3, g4⟩ := ih _ _ _ _ _ _ _ _ _ _ hm' e1 ah ta hR
        refine ⟨ah', ta', g3, f3, fun r hr => ?_⟩
        obtain ⟨n2, M2, r0, k1, k2, k3⟩ := g4 r hr
        refine ⟨1, M, _, hM, e2 ah ta _, n2, M2, r0, k1, ?_, k3⟩
        rcases e3 with rfl | rfl <;> exact k2
    · intro ah ta hR
      obtain ⟨ah', ta', g3, f3, g4⟩ := rb_unw_Lk hP ih e3 fs j m pc al a' C' hj e1 ah ta hR
      refine ⟨ah', ta', g3, f3, fun r hr => ?_⟩
      obtain ⟨n2, M2, r1, k1, k2, k3⟩ := g4 r hr
      rw [hM] at k1
      cases k1
      exact ⟨n2 + 1, M, r1, hM, e2 ah ta hR _ _ k2, k3⟩
end Mono
end RBR
