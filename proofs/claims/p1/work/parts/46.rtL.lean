section RTL9
set_option maxRecDepth 100000
theorem rt_bits6 (x : Int32) : ∃ op : Nat, op < 64 ∧ (x &&& 63).toInt = Int.ofNat op := by
  have h : (x &&& 63).toBitVec.toNat = x.toBitVec.toNat &&& 63 := by
    rw [Int32.toBitVec_and, BitVec.toNat_and]
    all_goals rfl
  have h2 : (x &&& 63).toBitVec.toNat < 64 := by
    rw [h]
    exact Nat.lt_of_le_of_lt Nat.and_le_right (by decide)
  refine ⟨(x &&& 63).toBitVec.toNat, h2, ?_⟩
  show (x &&& 63).toBitVec.toInt = _
  rw [BitVec.toInt_eq_toNat_cond, if_pos (by omega)]
  rfl
/-- what is known of any script of at most six ints -/
theorem rt_exs {L : Nat} (hL : L ≤ 6) (xs : Nat → Int32) : ∃ ex, rt_ok L ex ∧ ∀ j, j < L → ∀ ad, ra_R ad (ra_at (0, Int.negSucc 2147483647, Int.ofNat 2147483647) ex j) (.int (xs j)) := by
  have hb : ∀ j : Nat, -2147483648 ≤ (xs j).toInt ∧ (xs j).toInt ≤ 2147483647 := fun j => ⟨Int32.le_toInt _, Int32.toInt_le _⟩
  rcases Nat.lt_or_ge L 6 with h | h
  · refine ⟨[], rt_len L h, fun j hj ad => ⟨xs j, rfl, ?_, ?_⟩⟩
    · show Int.negSucc 2147483647 ≤ (xs j).toInt
      rw [rt_nn]
      have := (hb j).1
      omega
    · show (xs j).toInt ≤ Int.ofNat 2147483647
      rw [rt_on]
      have := (hb j).2
      omega
  · obtain rfl : L = 6 := by omega
    obtain ⟨op, hop, h0⟩ := rt_bits6 (xs 0)
    obtain ⟨l1, h1, l2, h2, l3, h3, l4, h4, l5, h5, hok, b1, b2, b3, b4, b5⟩ := rt_ops (hb 1) (hb 2) (hb 3) (hb 4) (hb 5) op hop
    refine ⟨_, hok, fun j hj ad => ?_⟩
    match j, hj with
    | 0, _ => exact ⟨xs 0, rfl, h0⟩
    | 1, _ => exact ⟨xs 1, rfl, b1⟩
    | 2, _ => exact ⟨xs 2, rfl, b2⟩
    | 3, _ => exact ⟨xs 3, rfl, b3⟩
    | 4, _ => exact ⟨xs 4, rfl, b4⟩
    | 5, _ => exact ⟨xs 5, rfl, b5⟩
    | n + 6, hn => exact absurd hn (by omega)
theorem rt_mono {p : Program} {l : Launch} {e : Env} {R : Room} {s : State} {m : MethodId} {args : Array Value} {below : List Frame} {meth : Method} {c : Code} {H : Heap} {locs : List Loc} {cells slots : Nat} {Q Q' : State → Prop} {g : JFrame} (h : ∀ t, Q t → Q' t) (k : W p l e R s m args below meth c H locs cells slots Q g) : W p l e R s m args below meth c H locs cells slots Q' g := fun T hT X => by
  obtain ⟨t, a1, b1⟩ := k T hT X
  exact ⟨t, a1, h t b1⟩
end RTL9
