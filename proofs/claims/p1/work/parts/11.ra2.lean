section RA2
theorem ra_bmod {z : Int} (h1 : -2147483648 ≤ z) (h2 : z < 2147483648) : z.bmod (2 ^ 32) = z := by
  rw [Int.bmod_eq_of_le] <;> omega
theorem ra_addI {x y : Int32} (h1 : -2147483648 ≤ x.toInt + y.toInt) (h2 : x.toInt + y.toInt < 2147483648) : (x + y).toInt = x.toInt + y.toInt := by
  rw [Int32.toInt_add, ra_bmod h1 h2]
theorem ra_subI {x y : Int32} (h1 : -2147483648 ≤ x.toInt - y.toInt) (h2 : x.toInt - y.toInt < 2147483648) : (x - y).toInt = x.toInt - y.toInt := by
  rw [Int32.toInt_sub, ra_bmod h1 h2]
theorem ra_mulI {x y : Int32} (h1 : -2147483648 ≤ x.toInt * y.toInt) (h2 : x.toInt * y.toInt < 2147483648) : (x * y).toInt = x.toInt * y.toInt := by
  rw [Int32.toInt_mul, ra_bmod h1 h2]
def ra_ci : ra_V → Option Int32
  | (0, l, h) => if l = h then some (Int32.ofInt l) else none
  | _ => none
theorem ra_ci_R {ad : List Nat} {a : ra_V} {x y : Int32} (h : ra_ci a = some x) (hR : ra_R ad a (.int y)) : y = x := by
  unfold ra_ci at h
  split at h
  · split at h
    · next e => obtain ⟨z, hz, h1, h2⟩ := hR; cases hz; cases h; subst e; exact ra_eqI h1 h2
    · cases h
  · cases h
def ra_i1 : ra_V → Bool
  | (0, _, _) => true
  | _ => false
theorem ra_i1_R {ad : List Nat} {a : ra_V} {v : Value} (h : ra_i1 a = true) (hR : ra_R ad a v) : ∃ x : Int32, v = .int x := by
  unfold ra_i1 at h
  split at h
  · obtain ⟨x, e, -⟩ := hR; exact ⟨x, e⟩
  · cases h
def ra_cl : ra_V → Option Int64
  | (1, n, _) => some (Int64.ofInt n)
  | _ => none
theorem ra_cl_R {ad : List Nat} {a : ra_V} {x y : Int64} (h : ra_cl a = some x) (hR : ra_R ad a (.long y)) : y = x := by
  unfold ra_cl at h
  split at h
  · cases h; have : Value.long y = .long (Int64.ofInt _) := hR; cases this; rfl
  · cases h
def ra_l1 : ra_V → Bool
  | (1, _, _) => true
  | (2, _, _) => true
  | _ => false
theorem ra_l1_R {ad : List Nat} {a : ra_V} {v : Value} (h : ra_l1 a = true) (hR : ra_R ad a v) : ∃ x : Int64, v = .long x := by
  unfold ra_l1 at h
  split at h
  · exact ⟨_, hR⟩
  · exact hR
  · cases h
def ra_kl (x : Int64) : ra_V := (1, x.toInt, 0)
theorem ra_R_kl {ad : List Nat} (x : Int64) : ra_R ad (ra_kl x) (.long x) := by
  show Value.long x = .long (Int64.ofInt x.toInt)
  rw [Int64.ofInt_toInt]
/-- what is done with two ints, with two longs, with one of a kind -/
def ra_b (op : Int32 → Int32 → Int32) (y x : ra_V) : ra_V := match ra_ci x, ra_ci y with
  | some a, some b => ra_k (op a b)
  | _, _ => ra_any
theorem ra_R_b {ad : List Nat} {op : Int32 → Int32 → Int32} {b a : ra_V} {x y : Int32} (ha : ra_R ad a (.int x)) (hb : ra_R ad b (.int y)) : ra_R ad (ra_b op b a) (.int (op x y)) := by
  unfold ra_b
  split
  · next p q => rw [ra_ci_R p ha, ra_ci_R q hb]; exact ra_R_k _
  · exact ra_R_any _
def ra_u (op : Int32 → Int32) (x : ra_V) : ra_V := match ra_ci x with
  | some a => ra_k (op a)
  | _ => ra_any
theorem ra_R_u {ad : List Nat} {op : Int32 → Int32} {a : ra_V} {x : Int32} (ha : ra_R ad a (.int x)) : ra_R ad (ra_u op a) (.int (op x)) := by
  unfold ra_u
  split
  · next p => rw [ra_ci_R p ha]; exact ra_R_k _
  · exact ra_R_any _
def ra_lb (op : Int64 → Int64 → Int64) (y x : ra_V) : ra_V := match ra_cl x, ra_cl y with
  | some a, some b => ra_kl (op a b)
  | _, _ => (2, 0, 0)
theorem ra_R_lb {ad : List Nat} {op : Int64 → Int64 → Int64} {b a : ra_V} {x y : Int64} (ha : ra_R ad a (.long x)) (hb : ra_R ad b (.long y)) : ra_R ad (ra_lb op b a) (.long (op x y)) := by
  unfold ra_lb
  split
  · next p q => rw [ra_cl_R p ha, ra_cl_R q hb]; exact ra_R_kl _
  · exact ⟨_, rfl⟩
def ra_lu (op : Int64 → Int64) (x : ra_V) : ra_V := match ra_cl x with
  | some a => ra_kl (op a)
  | _ => (2, 0, 0)
theorem ra_R_lu {ad : List Nat} {op : Int64 → Int64} {a : ra_V} {x : Int64} (ha : ra_R ad a (.long x)) : ra_R ad (ra_lu op a) (.long (op x)) := by
  unfold ra_lu
  split
  · next p => rw [ra_cl_R p ha]; exact ra_R_kl _
  · exact ⟨_, rfl⟩
def ra_ls (op : Int64 → Int32 → Int64) (y x : ra_V) : ra_V := match ra_cl x, ra_ci y with
  | some a, some b => ra_kl (op a b)
  | _, _ => (2, 0, 0)
theorem ra_R_ls {ad : List Nat} {op : Int64 → Int32 → Int64} {b a : ra_V} {x : Int64} {y : Int32} (ha : ra_R ad a (.long x)) (hb : ra_R ad b (.int y)) : ra_R ad (ra_ls op b a) (.long (op x y)) := by
  unfold ra_ls
  split
  · next p q => rw [ra_cl_R p ha, ra_ci_R q hb]; exact ra_R_kl _
  · exact ⟨_, rfl⟩
def ra_i2l (x : ra_V) : ra_V := match ra_ci x with
  | some a => ra_kl a.toInt64
  | _ => (2, 0, 0)
theorem ra_R_i2l {ad : List Nat} {a : ra_V} {x : Int32} (ha : ra_R ad a (.int x)) : ra_R ad (ra_i2l a) (.long x.toInt64) := by
  unfold ra_i2l
  split
  · next p => rw [ra_ci_R p ha]; exact ra_R_kl _
  · exact ⟨_, rfl⟩
def ra_l2i (x : ra_V) : ra_V := match ra_cl x with
  | some a => ra_k a.toInt32
  | _ => ra_any
theorem ra_R_l2i {ad : List Nat} {a : ra_V} {x : Int64} (ha : ra_R ad a (.long x)) : ra_R ad (ra_l2i a) (.int x.toInt32) := by
  unfold ra_l2i
  split
  · next p => rw [ra_cl_R p ha]; exact ra_R_k _
  · exact ra_R_any _
def ra_lcmp (y x : ra_V) : ra_V := match ra_cl x, ra_cl y with
  | some a, some b => ra_k (lg_cmp a b)
  | _, _ => ra_any
theorem ra_R_lcmp {ad : List Nat} {b a : ra_V} {x y : Int64} (ha : ra_R ad a (.long x)) (hb : ra_R ad b (.long y)) : ra_R ad (ra_lcmp b a) (.int (lg_cmp x y)) := by
  unfold ra_lcmp
  split
  · next p q => rw [ra_cl_R p ha, ra_cl_R q hb]; exact ra_R_k _
  · exact ra_R_any _
def ra_add : ra_V → ra_V → ra_V
  | (0, l1, h1), (0, l2, h2) => if -2147483648 ≤ l1 + l2 ∧ h1 + h2 < 2147483648 then (0, l1 + l2, h1 + h2) else ra_b (· + ·) (0, l1, h1) (0, l2, h2)
  | _, _ => ra_any
theorem ra_R_add {ad : List Nat} {b a : ra_V} {x y : Int32} (ha : ra_R ad a (.int x)) (hb : ra_R ad b (.int y)) : ra_R ad (ra_add b a) (.int (x + y)) := by
  unfold ra_add
  split
  · split
    · next h =>
      obtain ⟨u, e1, p1, p2⟩ := ha; obtain ⟨w, e2, p3, p4⟩ := hb; cases e1; cases e2
      have e := ra_addI (x := x) (y := y) (by omega) (by omega)
      exact ⟨_, rfl, by omega, by omega⟩
    · exact ra_R_b ha hb
  · exact ra_R_any _
def ra_sub : ra_V → ra_V → ra_V
  | (0, l1, h1), (0, l2, h2) => if -2147483648 ≤ l2 - h1 ∧ h2 - l1 < 2147483648 then (0, l2 - h1, h2 - l1) else ra_b (· - ·) (0, l1, h1) (0, l2, h2)
  | _, _ => ra_any
theorem ra_R_sub {ad : List Nat} {b a : ra_V} {x y : Int32} (ha : ra_R ad a (.int x)) (hb : ra_R ad b (.int y)) : ra_R ad (ra_sub b a) (.int (x - y)) := by
  unfold ra_sub
  split
  · split
    · next h =>
      obtain ⟨u, e1, p1, p2⟩ := ha; obtain ⟨w, e2, p3, p4⟩ := hb; cases e1; cases e2
      have e := ra_subI (x := x) (y := y) (by omega) (by omega)
      exact ⟨_, rfl, by omega, by omega⟩
    · exact ra_R_b ha hb
  · exact ra_R_any _
def ra_mul : ra_V → ra_V → ra_V
  | (0, l1, h1), (0, l2, h2) => if 0 ≤ l1 ∧ 0 ≤ l2 ∧ h1 * h2 < 2147483648 then (0, l1 * l2, h1 * h2) else ra_b (· * ·) (0, l1, h1) (0, l2, h2)
  | _, _ => ra_any
theorem ra_R_mul {ad : List Nat} {b a : ra_V} {x y : Int32} (ha : ra_R ad a (.int x)) (hb : ra_R ad b (.int y)) : ra_R ad (ra_mul b a) (.int (x * y)) := by
  unfold ra_mul
  split
  · split
    · next l1 h1 l2 h2 h =>
      obtain ⟨u, e1, p1, p2⟩ := ha; obtain ⟨w, e2, p3, p4⟩ := hb; cases e1; cases e2
      have q1 : l1 * l2 ≤ y.toInt * x.toInt := Int.mul_le_mul p3 p1 h.2.1 (by omega)
      have q2 : y.toInt * x.toInt ≤ h1 * h2 := Int.mul_le_mul p4 p2 (by omega) (by omega)
      have q0 : 0 ≤ l1 * l2 := Int.mul_nonneg h.1 h.2.1
      rw [Int.mul_comm y.toInt x.toInt] at q1 q2
      have e := ra_mulI (x := x) (y := y) (by omega) (by omega)
      exact ⟨_, rfl, by omega, by omega⟩
    · exact ra_R_b ha hb
  · exact ra_R_any _
def ra_msk (lo hi m : Int) : Bool := decide (0 ≤ lo ∧ hi ≤ m) && Nat.beq (m.toNat + 1) (2 ^ (m.toNat + 1).log2)
theorem ra_nn {x : Int32} (h : 0 ≤ x.toInt) : x.toInt = (x.toBitVec.toNat : Int) := by
  have e1 : x.toInt = x.toBitVec.toInt := rfl
  have := x.toBitVec.isLt
  rw [e1, BitVec.toInt_eq_toNat_cond] at h
  rw [e1, BitVec.toInt_eq_toNat_cond]
  split at h
  · next q => rw [if_pos q]
  · exact absurd h (by omega)
theorem ra_msk_R {x y : Int32} {lo hi m : Int} (h : ra_msk lo hi m = true) (h1 : lo ≤ x.toInt) (h2 : x.toInt ≤ hi) (h3 : y.toInt = m) : x &&& y = x := by
  unfold ra_msk at h
  rw [Bool.and_eq_true, decide_eq_true_eq] at h
  obtain ⟨⟨q1, q2⟩, q3⟩ := h
  have q3 := Nat.eq_of_beq_eq_true q3
  generalize (m.toNat + 1).log2 = k at q3
  have hx := ra_nn (x := x) (by omega)
  have hy := ra_nn (x := y) (by omega)
  apply Int32.toBitVec_inj.mp
  apply BitVec.eq_of_toNat_eq
  rw [Int32.toBitVec_and, BitVec.toNat_and]
  have hm : y.toBitVec.toNat = 2 ^ k - 1 := by omega
  rw [hm, Nat.and_two_pow_sub_one_eq_mod]
  exact Nat.mod_eq_of_lt (by omega)
def ra_and : ra_V → ra_V → ra_V
  | (0, l1, h1), (0, l2, h2) => if l1 = h1 ∧ l2 = h2 then ra_b (· &&& ·) (0, l1, h1) (0, l2, h2) else if l1 = h1 ∧ ra_msk l2 h2 l1 = true then (0, l2, h2) else ra_any
  | _, _ => ra_any
theorem ra_R_and {ad : List Nat} {b a : ra_V} {x y : Int32} (ha : ra_R ad a (.int x)) (hb : ra_R ad b (.int y)) : ra_R ad (ra_and b a) (.int (x &&& y)) := by
  unfold ra_and
  split
  · split
    · exact ra_R_b ha hb
    · split
      · next q =>
        obtain ⟨u, e1, p1, p2⟩ := ha; obtain ⟨w, e2, p3, p4⟩ := hb; cases e1; cases e2
        rw [ra_msk_R q.2 p1 p2 (by omega)]
        exact ⟨_, rfl, p1, p2⟩
      · exact ra_R_any _
  · exact ra_R_any _
/-- comparisons -/
def ra_eq : ra_V → ra_V → Option Bool
  | (0, l1, h1), (0, l2, h2) => if l1 = h1 ∧ l2 = h2 ∧ l1 = l2 then some true else if h1 < l2 ∨ h2 < l1 then some false else none
  | _, _ => none
def ra_lt : ra_V → ra_V → Option Bool
  | (0, l1, h1), (0, l2, h2) => if h1 < l2 then some true else if h2 ≤ l1 then some false else none
  | _, _ => none
theorem ra_eq_t {ad : List Nat} {a b : ra_V} {x y : Int32} (h : ra_eq a b = some true) (ha : ra_R ad a (.int x)) (hb : ra_R ad b (.int y)) : x = y := by
  unfold ra_eq at h
  split at h
  · obtain ⟨u, e1, p1, p2⟩ := ha; obtain ⟨w, e2, p3, p4⟩ := hb; cases e1; cases e2
    split at h
    · exact Int32.toInt_inj.mp (by omega)
    · split at h <;> cases h
  · cases h
theorem ra_eq_f {ad : List Nat} {a b : ra_V} {x y : Int32} (h : ra_eq a b = some false) (ha : ra_R ad a (.int x)) (hb : ra_R ad b (.int y)) : ¬ x = y := by
  unfold ra_eq at h
  split at h
  · obtain ⟨u, e1, p1, p2⟩ := ha; obtain ⟨w, e2, p3, p4⟩ := hb; cases e1; cases e2
    split at h
    · cases h
    · split at h
      · intro e; subst e; omega
      · cases h
  · cases h
theorem ra_lt_t {ad : List Nat} {a b : ra_V} {x y : Int32} (h : ra_lt a b = some true) (ha : ra_R ad a (.int x)) (hb : ra_R ad b (.int y)) : x < y := by
  unfold ra_lt at h
  split at h
  · obtain ⟨u, e1, p1, p2⟩ := ha; obtain ⟨w, e2, p3, p4⟩ := hb; cases e1; cases e2
    split at h
    · exact Int32.lt_iff_toInt_lt.mpr (by omega)
    · split at h <;> cases h
  · cases h
theorem ra_lt_f {ad : List Nat} {a b : ra_V} {x y : Int32} (h : ra_lt a b = some false) (ha : ra_R ad a (.int x)) (hb : ra_R ad b (.int y)) : y ≤ x := by
  unfold ra_lt at h
  split at h
  · obtain ⟨u, e1, p1, p2⟩ := ha; obtain ⟨w, e2, p3, p4⟩ := hb; cases e1; cases e2
    split at h
    · cases h
    · split at h
      · exact Int32.le_iff_toInt_le.mpr (by omega)
      · cases h
  · cases h
theorem ra_R_0 {ad : List Nat} : ra_R ad (0, 0, 0) (.int 0) := ⟨0, rfl, Int.le_refl _, Int.le_refl _⟩
theorem ra_nle {x y : Int32} (h : x < y) : ¬ y ≤ x := Int32.not_le.mpr h
theorem ra_nlt {x y : Int32} (h : x ≤ y) : ¬ y < x := Int32.not_lt.mpr h
end RA2
