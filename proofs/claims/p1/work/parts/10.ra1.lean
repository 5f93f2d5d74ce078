/-! An interpreter of bytecode over numbers between bounds, and that what it answers is so on the machine. -/
section RA1
abbrev ra_V : Type := Nat × Int × Int
/-- 0: an int between two bounds; 1: a long; 2: any long; 3: a cell of the world, by its place; 4: null; 5: a double, by its bits; 8: a reference or null; 10: an int by its last six bits -/
def ra_R (ad : List Nat) : ra_V → Value → Prop
  | (0, lo, hi), v => ∃ x : Int32, v = .int x ∧ lo ≤ x.toInt ∧ x.toInt ≤ hi
  | (1, n, _), v => v = .long (Int64.ofInt n)
  | (2, _, _), v => ∃ x : Int64, v = .long x
  | (3, k, _), v => ∃ q, ad[k.toNat]? = some q ∧ v = .ref q
  | (4, _, _), v => v = .null
  | (5, n, _), v => v = .double (UInt64.ofNat n.toNat)
  | (8, _, _), v => v = .null ∨ ∃ q, v = .ref q
  | (10, n, _), v => ∃ x : Int32, v = .int x ∧ (x &&& 63).toInt = n
  | _, _ => False
def ra_c : ra_V → Nat
  | (1, _, _) => 2
  | (2, _, _) => 2
  | (5, _, _) => 2
  | _ => 1
theorem ra_cat {ad : List Nat} {a : ra_V} {v : Value} (h : ra_R ad a v) : v.category = ra_c a := by
  unfold ra_R at h
  split at h
  · obtain ⟨x, rfl, -⟩ := h; rfl
  · subst h; rfl
  · obtain ⟨x, rfl⟩ := h; rfl
  · obtain ⟨q, -, rfl⟩ := h; rfl
  · subst h; rfl
  · subst h; rfl
  · rcases h with rfl | ⟨q, rfl⟩ <;> rfl
  · obtain ⟨x, rfl, -⟩ := h; rfl
  · exact h.elim
theorem ra_R_int {ad : List Nat} {lo hi : Int} {v : Value} (h : ra_R ad (0, lo, hi) v) : ∃ x : Int32, v = .int x ∧ lo ≤ x.toInt ∧ x.toInt ≤ hi := h
theorem ra_R_ref {ad : List Nat} {k j : Int} {v : Value} (h : ra_R ad (3, k, j) v) : ∃ q, ad[k.toNat]? = some q ∧ v = .ref q := h
/-- locals -/
def ra_L (ad : List Nat) : List (Nat × ra_V) → List (Nat × Value) → Prop
  | [], [] => True
  | (i, a) :: al, (j, v) :: lv => i = j ∧ ra_R ad a v ∧ ra_L ad al lv
  | _, _ => False
def ra_get : List (Nat × ra_V) → Nat → Option ra_V
  | [], _ => none
  | (i, a) :: al, k => if i = k then some a else ra_get al k
theorem ra_L_mem {ad : List Nat} : ∀ {al : List (Nat × ra_V)} {lv : List (Nat × Value)} {k : Nat} {a : ra_V}, ra_L ad al lv → ra_get al k = some a → ∃ v, (k, v) ∈ lv ∧ ra_R ad a v
  | [], [], _, _, _, h => by simp [ra_get] at h
  | [], _ :: _, _, _, hL, _ => hL.elim
  | _ :: _, [], _, _, hL, _ => by simp [ra_L] at hL
  | (i, b) :: al, (j, v) :: lv, k, a, hL, h => by
    obtain ⟨rfl, hR, hL⟩ := hL
    unfold ra_get at h
    split at h
    · next e => subst e; cases h; exact ⟨v, List.mem_cons_self, hR⟩
    · obtain ⟨w, h1, h2⟩ := ra_L_mem hL h; exact ⟨w, List.mem_cons_of_mem _ h1, h2⟩
theorem ra_L_get {ad : List Nat} {al : List (Nat × ra_V)} {lv : List (Nat × Value)} {k nL : Nat} {a : ra_V} {ls : Array Slot} (hL : ra_L ad al lv) (hl : lv_has ls nL lv) (h : ra_get al k = some a) : ∃ v, ls[k]? = some (.val v) ∧ ra_R ad a v := by
  obtain ⟨v, h1, h2⟩ := ra_L_mem hL h
  exact ⟨v, hl.2.2 (k, v) h1, h2⟩
def ra_put (al : List (Nat × ra_V)) (i : Nat) (a : ra_V) : List (Nat × ra_V) := (i, a) :: al.filter (fun q => !(q.1 == i) && !(q.1 + 1 == i && ra_c q.2 == 2))
def ra_put2 (al : List (Nat × ra_V)) (i : Nat) (a : ra_V) : List (Nat × ra_V) := (i, a) :: al.filter (fun q => !(q.1 == i) && (!(q.1 == i + 1) && !(q.1 + 1 == i && ra_c q.2 == 2)))
theorem ra_L_filter {ad : List Nat} (f : Nat × ra_V → Bool) (g : Nat × Value → Bool) (hfg : ∀ i a v, ra_R ad a v → f (i, a) = g (i, v)) : ∀ {al : List (Nat × ra_V)} {lv : List (Nat × Value)}, ra_L ad al lv → ra_L ad (al.filter f) (lv.filter g)
  | [], [], _ => trivial
  | [], _ :: _, hL => hL.elim
  | _ :: _, [], hL => by simp [ra_L] at hL
  | (i, b) :: al, (j, v) :: lv, hL => by
    obtain ⟨rfl, hR, hL⟩ := hL
    have e := hfg i b v hR
    rw [List.filter_cons, List.filter_cons, e]
    split
    · exact ⟨rfl, hR, ra_L_filter f g hfg hL⟩
    · exact ra_L_filter f g hfg hL
theorem ra_L_put {ad : List Nat} {al : List (Nat × ra_V)} {lv : List (Nat × Value)} {i : Nat} {a : ra_V} {v : Value} (hL : ra_L ad al lv) (hR : ra_R ad a v) : ra_L ad (ra_put al i a) ((i, v) :: lv.filter (fun q => !(q.1 == i) && !(q.1 + 1 == i && q.2.category == 2))) :=
  ⟨rfl, hR, ra_L_filter _ _ (fun j b w h => by simp only [ra_cat h]) hL⟩
theorem ra_L_put2 {ad : List Nat} {al : List (Nat × ra_V)} {lv : List (Nat × Value)} {i : Nat} {a : ra_V} {v : Value} (hL : ra_L ad al lv) (hR : ra_R ad a v) : ra_L ad (ra_put2 al i a) ((i, v) :: lv.filter (fun q => !(q.1 == i) && (!(q.1 == i + 1) && !(q.1 + 1 == i && q.2.category == 2)))) :=
  ⟨rfl, hR, ra_L_filter _ _ (fun j b w h => by simp only [ra_cat h]) hL⟩
/-- the stack -/
def ra_S (ad : List Nat) : List ra_V → List Value → Prop
  | [], [] => True
  | a :: al, v :: lv => ra_R ad a v ∧ ra_S ad al lv
  | _, _ => False
theorem ra_S_nil {ad : List Nat} {vs : List Value} (h : ra_S ad [] vs) : vs = [] := by
  cases vs with
  | nil => rfl
  | cons a b => exact h.elim
theorem ra_S_cons {ad : List Nat} {a : ra_V} {st : List ra_V} {vs : List Value} (h : ra_S ad (a :: st) vs) : ∃ v vs', vs = v :: vs' ∧ ra_R ad a v ∧ ra_S ad st vs' := by
  cases vs with
  | nil => exact h.elim
  | cons v vs' => exact ⟨v, vs', rfl, h.1, h.2⟩
theorem ra_S_sum {ad : List Nat} : ∀ {st : List ra_V} {vs : List Value}, ra_S ad st vs → (vs.map fun v => v.category).sum = (st.map ra_c).sum
  | [], [], _ => rfl
  | [], _ :: _, h => h.elim
  | _ :: _, [], h => h.elim
  | a :: st, v :: vs, h => by simp only [List.map_cons, List.sum_cons, ra_cat h.1, ra_S_sum h.2]
/-- numbers -/
theorem ra_eqI {x : Int32} {n : Int} (h1 : n ≤ x.toInt) (h2 : x.toInt ≤ n) : x = Int32.ofInt n := by
  have : x.toInt = n := by omega
  rw [← this, Int32.ofInt_toInt]
theorem ra_toI (x : Int32) : Int32.ofInt x.toInt = x := Int32.ofInt_toInt x
def ra_k (x : Int32) : ra_V := (0, x.toInt, x.toInt)
theorem ra_R_k {ad : List Nat} (x : Int32) : ra_R ad (ra_k x) (.int x) := ⟨x, rfl, Int.le_refl _, Int.le_refl _⟩
def ra_any : ra_V := (0, -2147483648, 2147483647)
theorem ra_R_any {ad : List Nat} (x : Int32) : ra_R ad ra_any (.int x) := ⟨x, rfl, Int32.le_toInt x, Int32.toInt_le x⟩
end RA1
