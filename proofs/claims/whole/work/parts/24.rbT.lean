/-! A world as a tree: what the fast interpreter reads and writes. -/
section RBT
def rb_T : Nat → Type
  | 0 => Option ra_E
  | n + 1 => rb_T n × rb_T n
def rb_nil : (n : Nat) → rb_T n
  | 0 => (none : Option ra_E)
  | n + 1 => (rb_nil n, rb_nil n)
def rb_get : (n : Nat) → rb_T n → Nat → Option ra_E
  | 0, t, _ => t
  | n + 1, t, k => match Nat.beq (k % 2) 0 with
    | true => rb_get n t.1 (k / 2)
    | false => rb_get n t.2 (k / 2)
def rb_set : (n : Nat) → rb_T n → Nat → ra_E → rb_T n
  | 0, _, _, e => some e
  | n + 1, t, k, e => match Nat.beq (k % 2) 0 with
    | true => (rb_set n t.1 (k / 2) e, t.2)
    | false => (t.1, rb_set n t.2 (k / 2) e)
theorem rb_get_nil : ∀ (n k : Nat), rb_get n (rb_nil n) k = none
  | 0, _ => rfl
  | n + 1, k => by
    unfold rb_get rb_nil
    split
    · exact rb_get_nil n _
    · exact rb_get_nil n _
theorem rb_get_set : ∀ (n : Nat) (t : rb_T n) (k : Nat) (e : ra_E) (j : Nat), k < 2 ^ n → j < 2 ^ n → rb_get n (rb_set n t k e) j = if j = k then some e else rb_get n t j
  | 0, t, k, e, j, hk, hj => by
    have h1 : k = 0 := by simpa using hk
    have h2 : j = 0 := by simpa using hj
    subst h1 h2
    rfl
  | n + 1, t, k, e, j, hk, hj => by
    have hp : 2 ^ (n + 1) = 2 * 2 ^ n := by rw [Nat.pow_succ, Nat.mul_comm]
    have hk2 : k / 2 < 2 ^ n := by omega
    have hj2 : j / 2 < 2 ^ n := by omega
    unfold rb_get rb_set
    rcases Nat.mod_two_eq_zero_or_one k with ek | ek <;> rcases Nat.mod_two_eq_zero_or_one j with ej | ej
    · rw [ek, ej]
      show rb_get n (rb_set n t.1 (k / 2) e) (j / 2) = if j = k then some e else rb_get n t.1 (j / 2)
      rw [rb_get_set n t.1 (k / 2) e (j / 2) hk2 hj2]
      by_cases h : j = k
      · subst h; rw [if_pos rfl, if_pos rfl]
      · rw [if_neg h, if_neg (by omega)]
    · rw [ek, ej]
      show rb_get n t.2 (j / 2) = if j = k then some e else rb_get n t.2 (j / 2)
      rw [if_neg (by omega)]
    · rw [ek, ej]
      show rb_get n t.1 (j / 2) = if j = k then some e else rb_get n t.1 (j / 2)
      rw [if_neg (by omega)]
    · rw [ek, ej]
      show rb_get n (rb_set n t.2 (k / 2) e) (j / 2) = if j = k then some e else rb_get n t.2 (j / 2)
      rw [rb_get_set n t.2 (k / 2) e (j / 2) hk2 hj2]
      by_cases h : j = k
      · subst h; rw [if_pos rfl, if_pos rfl]
      · rw [if_neg h, if_neg (by omega)]
/-- the tree stands for the list -/
def rb_Is (n : Nat) (t : rb_T n) (ah : List ra_E) : Prop := ah.length ≤ 2 ^ n ∧ ∀ k, k < 2 ^ n → rb_get n t k = ah[k]?
theorem rb_Is_nil (n : Nat) : rb_Is n (rb_nil n) [] := ⟨Nat.zero_le _, fun k _ => by rw [rb_get_nil]; rfl⟩
theorem rb_Is_get {n : Nat} {t : rb_T n} {ah : List ra_E} (h : rb_Is n t ah) {k : Nat} {e : ra_E} (hk : k < 2 ^ n) (hg : rb_get n t k = some e) : ah[k]? = some e := (h.2 k hk).symm.trans hg
theorem rb_Is_set {n : Nat} {t : rb_T n} {ah : List ra_E} (h : rb_Is n t ah) {k : Nat} (e : ra_E) (hk : k < ah.length) : rb_Is n (rb_set n t k e) (ah.set k e) := by
  refine ⟨by rw [List.length_set]; exact h.1, fun j hj => ?_⟩
  rw [rb_get_set n t k e j (Nat.lt_of_lt_of_le hk h.1) hj, h.2 j hj, List.getElem?_set]
  by_cases e9 : j = k
  · subst e9; rw [if_pos rfl, if_pos rfl, if_pos hk]
  · rw [if_neg e9, if_neg (fun z => e9 z.symm)]
theorem rb_Is_app {n : Nat} {t : rb_T n} {ah : List ra_E} (h : rb_Is n t ah) (e : ra_E) (hl : ah.length < 2 ^ n) : rb_Is n (rb_set n t ah.length e) (ah ++ [e]) := by
  refine ⟨by rw [List.length_append]; exact hl, fun j hj => ?_⟩
  rw [rb_get_set n t ah.length e j hl hj, h.2 j hj]
  by_cases e9 : j = ah.length
  · subst e9; rw [if_pos rfl]; simp
  · rw [if_neg e9]
    rcases Nat.lt_or_ge j ah.length with g | g
    · rw [List.getElem?_append_left g]
    · rw [List.getElem?_append_right g, List.getElem?_eq_none g]
      obtain ⟨d, hd⟩ : ∃ d, j - ah.length = d + 1 := ⟨j - ah.length - 1, by omega⟩
      rw [hd]
      rfl
end RBT
