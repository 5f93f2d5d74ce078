section RTR
/-- the law's run over any script: the cells that are only read, and the script's behind them -/
theorem rt_go {n : Nat} {ex : List (Nat × ra_V)} (h : rt_ok n ex) {ahS : List ra_E} {ta : List FieldType} {t0 : Nat} (hl : ahS.length = 139) (hR : rb_Rel rt_T0 140 (ahS ++ [(1, t0, n, (0, Int.negSucc 2147483647, Int.ofNat 2147483647), ex, [])]) ta) (ht : ta[t0]? = some .int) :
    ∃ (k : Nat) (ah' : List ra_E) (ta' : List FieldType) (a2 : ra_A), ra_run rt_cd rt_Ps k rt_0 0 [(0, (3, (Int.ofNat 139), (Int.ofNat 0)))] [] (ahS ++ [(1, t0, n, (0, Int.negSucc 2147483647, Int.ofNat 2147483647), ex, [])]) ta (0, 0, 0, 0) = some ((1, (0, 1, 1), ""), ah', ta', a2) ∧ a2.1 ≤ 1116 ∧ a2.2.1 ≤ 421660 ∧ a2.2.2.1 ≤ 12 ∧ a2.2.2.2 ≤ 202 := by
  obtain ⟨m, c2, a2, T2, he, b⟩ := h
  obtain ⟨k, M, ah', ta', q1, q2⟩ := rb_two rt_Pok rt_w he hR (by rw [List.getElem?_append_right (by omega), hl]; rfl) ht
  cases (show rt_Ps[0]? = some rt_0 from rfl).symm.trans q1
  exact ⟨k, ah', ta', a2, q2, b⟩
end RTR
