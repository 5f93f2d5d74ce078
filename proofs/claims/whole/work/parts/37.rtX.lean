section RTX
set_option maxRecDepth 100000
/-- from the loop's head with this cell as script the law answers true, within the room -/
def rt_ok (n : Nat) (ex : List (Nat × ra_V)) : Prop := ∃ (m c2 : Nat) (a2 : ra_A) (T2 : rb_W), rb_end (rb_adv (rb_get 9 rt_P) m (0, 0, 28, [(5, (0, (Int.ofNat 0), (Int.ofNat 0))), (4, (3, (Int.ofNat 1248), (Int.ofNat 0))), (3, (3, (Int.ofNat 1247), (Int.ofNat 0))), (2, (3, (Int.ofNat 1079), (Int.ofNat 0))), (1, (3, (Int.ofNat 140), (Int.ofNat 0))), (0, (3, (Int.ofNat 139), (Int.ofNat 0)))], [], rb_set 11 rt_T4 139 (1, 0, n, (0, Int.negSucc 2147483647, Int.ofNat 2147483647), ex, []), 1249, (1109, 421594, 6, 130), [])) (1, 1, 0, [], [(0, 1, 1)], T2, c2, a2, []) = true ∧ a2.1 ≤ 1116 ∧ a2.2.1 ≤ 421660 ∧ a2.2.2.1 ≤ 12 ∧ a2.2.2.2 ≤ 202
def rt_in (op : Nat) (x1 x2 x3 x4 x5 : Int) : Prop := ∃ (l1 h1 l2 h2 l3 h3 l4 h4 l5 h5 : Int), rt_ok 6 [(0, (10, Int.ofNat op, Int.ofNat 0)), (1, (0, l1, h1)), (2, (0, l2, h2)), (3, (0, l3, h3)), (4, (0, l4, h4)), (5, (0, l5, h5))] ∧ (l1 ≤ x1 ∧ x1 ≤ h1) ∧ (l2 ≤ x2 ∧ x2 ≤ h2) ∧ (l3 ≤ x3 ∧ x3 ≤ h3) ∧ (l4 ≤ x4 ∧ x4 ≤ h4) ∧ (l5 ≤ x5 ∧ x5 ≤ h5)
theorem rt_f0 : rt_ok 0 [] := ⟨_, _, _, _, rt_e0, by decide, by decide, by decide, by decide⟩
theorem rt_f1 : rt_ok 1 [] := ⟨_, _, _, _, rt_e1, by decide, by decide, by decide, by decide⟩
theorem rt_f2 : rt_ok 2 [] := ⟨_, _, _, _, rt_e2, by decide, by decide, by decide, by decide⟩
theorem rt_f3 : rt_ok 3 [] := ⟨_, _, _, _, rt_e3, by decide, by decide, by decide, by decide⟩
theorem rt_f4 : rt_ok 4 [] := ⟨_, _, _, _, rt_e4, by decide, by decide, by decide, by decide⟩
theorem rt_f5 : rt_ok 5 [] := ⟨_, _, _, _, rt_e5, by decide, by decide, by decide, by decide⟩
theorem rt_f6 : rt_ok 6 [(0, (10, (Int.ofNat 0), (Int.ofNat 0))), (1, (0, (Int.negSucc 2147483647), (Int.ofNat 2147483647))), (2, (0, (Int.negSucc 2147483647), (Int.ofNat 2147483647))), (3, (0, (Int.negSucc 2147483647), (Int.ofNat 2147483647))), (4, (0, (Int.negSucc 2147483647), (Int.ofNat 2147483647))), (5, (0, (Int.negSucc 2147483647), (Int.ofNat 2147483647)))] := ⟨_, _, _, _, rt_e6, by decide, by decide, by decide, by decide⟩
theorem rt_f7 : rt_ok 6 [(0, (10, (Int.ofNat 1), (Int.ofNat 0))), (1, (0, (Int.ofNat 1), (Int.ofNat 2147483647))), (2, (0, (Int.negSucc 2147483647), (Int.ofNat 2147483647))), (3, (0, (Int.negSucc 2147483647), (Int.ofNat 2147483647))), (4, (0, (Int.negSucc 2147483647), (Int.ofNat 2147483647))), (5, (0, (Int.negSucc 2147483647), (Int.ofNat 2147483647)))] := ⟨_, _, _, _, rt_e7, by decide, by decide, by decide, by decide⟩
theorem rt_f8 : rt_ok 6 [(0, (10, (Int.ofNat 1), (Int.ofNat 0))), (1, (0, (Int.ofNat 0), (Int.ofNat 0))), (2, (0, (Int.negSucc 2147483647), (Int.ofNat 2147483647))), (3, (0, (Int.negSucc 2147483647), (Int.ofNat 2147483647))), (4, (0, (Int.negSucc 2147483647), (Int.ofNat 2147483647))), (5, (0, (Int.negSucc 2147483647), (Int.ofNat 2147483647)))] := ⟨_, _, _, _, rt_e8, by decide, by decide, by decide, by decide⟩
theorem rt_f9 : rt_ok 6 [(0, (10, (Int.ofNat 1), (Int.ofNat 0))), (1, (0, (Int.negSucc 2147483647), (Int.negSucc 0))), (2, (0, (Int.negSucc 2147483647), (Int.ofNat 2147483647))), (3, (0, (Int.negSucc 2147483647), (Int.ofNat 2147483647))), (4, (0, (Int.negSucc 2147483647), (Int.ofNat 2147483647))), (5, (0, (Int.negSucc 2147483647), (Int.ofNat 2147483647)))] := ⟨_, _, _, _, rt_e9, by decide, by decide, by decide, by decide⟩
theorem rt_f10 : rt_ok 6 [(0, (10, (Int.ofNat 2), (Int.ofNat 0))), (1, (0, (Int.ofNat 8), (Int.ofNat 2147483647))), (2, (0, (Int.negSucc 2147483647), (Int.ofNat 2147483647))), (3, (0, (Int.negSucc 2147483647), (Int.ofNat 2147483647))), (4, (0, (Int.negSucc 2147483647), (Int.ofNat 2147483647))), (5, (0, (Int.negSucc 2147483647), (Int.ofNat 2147483647)))] := ⟨_, _, _, _, rt_e10, by decide, by decide, by decide, by decide⟩
theorem rt_f11 : rt_ok 6 [(0, (10, (Int.ofNat 2), (Int.ofNat 0))), (1, (0, (Int.ofNat 0), (Int.ofNat 7))), (2, (0, (Int.negSucc 2147483647), (Int.ofNat 2147483647))), (3, (0, (Int.negSucc 2147483647), (Int.ofNat 2147483647))), (4, (0, (Int.negSucc 2147483647), (Int.ofNat 2147483647))), (5, (0, (Int.negSucc 2147483647), (Int.ofNat 2147483647)))] := ⟨_, _, _, _, rt_e11, by decide, by decide, by decide, by decide⟩
theorem rt_f12 : rt_ok 6 [(0, (10, (Int.ofNat 2), (Int.ofNat 0))), (1, (0, (Int.negSucc 2147483647), (Int.negSucc 0))), (2, (0, (Int.negSucc 2147483647), (Int.ofNat 2147483647))), (3, (0, (Int.negSucc 2147483647), (Int.ofNat 2147483647))), (4, (0, (Int.negSucc 2147483647), (Int.ofNat 2147483647))), (5, (0, (Int.negSucc 2147483647), (Int.ofNat 2147483647)))] := ⟨_, _, _, _, rt_e12, by decide, by decide, by decide, by decide⟩
theorem rt_f13 : rt_ok 6 [(0, (10, (Int.ofNat 3), (Int.ofNat 0))), (1, (0, (Int.negSucc 2147483647), (Int.ofNat 2147483647))), (2, (0, (Int.negSucc 2147483647), (Int.ofNat 2147483647))), (3, (0, (Int.negSucc 2147483647), (Int.ofNat 2147483647))), (4, (0, (Int.negSucc 2147483647), (Int.ofNat 2147483647))), (5, (0, (Int.negSucc 2147483647), (Int.ofNat 2147483647)))] := ⟨_, _, _, _, rt_e13, by decide, by decide, by decide, by decide⟩
theorem rt_f14 : rt_ok 6 [(0, (10, (Int.ofNat 4), (Int.ofNat 0))), (1, (0, (Int.ofNat 8), (Int.ofNat 2147483647))), (2, (0, (Int.negSucc 2147483647), (Int.ofNat 2147483647))), (3, (0, (Int.negSucc 2147483647), (Int.ofNat 2147483647))), (4, (0, (Int.negSucc 2147483647), (Int.ofNat 2147483647))), (5, (0, (Int.negSucc 2147483647), (Int.ofNat 2147483647)))] := ⟨_, _, _, _, rt_e14, by decide, by decide, by decide, by decide⟩
theorem rt_f15 : rt_ok 6 [(0, (10, (Int.ofNat 4), (Int.ofNat 0))), (1, (0, (Int.ofNat 7), (Int.ofNat 7))), (2, (0, (Int.negSucc 2147483647), (Int.ofNat 2147483647))), (3, (0, (Int.negSucc 2147483647), (Int.ofNat 2147483647))), (4, (0, (Int.negSucc 2147483647), (Int.ofNat 2147483647))), (5, (0, (Int.negSucc 2147483647), (Int.ofNat 2147483647)))] := ⟨_, _, _, _, rt_e15, by decide, by decide, by decide, by decide⟩
theorem rt_f16 : rt_ok 6 [(0, (10, (Int.ofNat 4), (Int.ofNat 0))), (1, (0, (Int.ofNat 6), (Int.ofNat 6))), (2, (0, (Int.negSucc 2147483647), (Int.ofNat 2147483647))), (3, (0, (Int.negSucc 2147483647), (Int.ofNat 2147483647))), (4, (0, (Int.negSucc 2147483647), (Int.ofNat 2147483647))), (5, (0, (Int.negSucc 2147483647), (Int.ofNat 2147483647)))] := ⟨_, _, _, _, rt_e16, by decide, by decide, by decide, by decide⟩
theorem rt_f17 : rt_ok 6 [(0, (10, (Int.ofNat 4), (Int.ofNat 0))), (1, (0, (Int.ofNat 5), (Int.ofNat 5))), (2, (0, (Int.negSucc 2147483647), (Int.ofNat 2147483647))), (3, (0, (Int.negSucc 2147483647), (Int.ofNat 2147483647))), (4, (0, (Int.negSucc 2147483647), (Int.ofNat 2147483647))), (5, (0, (Int.negSucc 2147483647), (Int.ofNat 2147483647)))] := ⟨_, _, _, _, rt_e17, by decide, by decide, by decide, by decide⟩
theorem rt_f18 : rt_ok 6 [(0, (10, (Int.ofNat 4), (Int.ofNat 0))), (1, (0, (Int.ofNat 4), (Int.ofNat 4))), (2, (0, (Int.negSucc 2147483647), (Int.ofNat 2147483647))), (3, (0, (Int.negSucc 2147483647), (Int.ofNat 2147483647))), (4, (0, (Int.negSucc 2147483647), (Int.ofNat 2147483647))), (5, (0, (Int.negSucc 2147483647), (Int.ofNat 2147483647)))] := ⟨_, _, _, _, rt_e18, by decide, by decide, by decide, by decide⟩
theorem rt_f19 : rt_ok 6 [(0, (10, (Int.ofNat 4), (Int.ofNat 0))), (1, (0, (Int.ofNat 3), (Int.ofNat 3))), (2, (0, (Int.negSucc 2147483647), (Int.ofNat 2147483647))), (3, (0, (Int.negSucc 2147483647), (Int.ofNat 2147483647))), (4, (0, (Int.negSucc 2147483647), (Int.ofNat 2147483647))), (5, (0, (Int.negSucc 2147483647), (Int.ofNat 2147483647)))] := ⟨_, _, _, _, rt_e19, by decide, by decide, by decide, by decide⟩
theorem rt_f20 : rt_ok 6 [(0, (10, (Int.ofNat 4), (Int.ofNat 0))), (1, (0, (Int.ofNat 2), (Int.ofNat 2))), (2, (0, (Int.negSucc 2147483647), (Int.ofNat 2147483647))), (3, (0, (Int.negSucc 2147483647), (Int.ofNat 2147483647))), (4, (0, (Int.negSucc 2147483647), (Int.ofNat 2147483647))), (5, (0, (Int.negSucc 2147483647), (Int.ofNat 2147483647)))] := ⟨_, _, _, _, rt_e20, by decide, by decide, by decide, by decide⟩
theorem rt_f21 : rt_ok 6 [(0, (10, (Int.ofNat 4), (Int.ofNat 0))), (1, (0, (Int.ofNat 1), (Int.ofNat 1))), (2, (0, (Int.negSucc 2147483647), (Int.ofNat 2147483647))), (3, (0, (Int.negSucc 2147483647), (Int.ofNat 2147483647))), (4, (0, (Int.negSucc 2147483647), (Int.ofNat 2147483647))), (5, (0, (Int.negSucc 2147483647), (Int.ofNat 2147483647)))] := ⟨_, _, _, _, rt_e21, by decide, by decide, by decide, by decide⟩
theorem rt_f22 : rt_ok 6 [(0, (10, (Int.ofNat 4), (Int.ofNat 0))), (1, (0, (Int.ofNat 0), (Int.ofNat 0))), (2, (0, (Int.negSucc 2147483647), (Int.ofNat 2147483647))), (3, (0, (Int.negSucc 2147483647), (Int.ofNat 2147483647))), (4, (0, (Int.negSucc 2147483647), (Int.ofNat 2147483647))), (5, (0, (Int.negSucc 2147483647), (Int.ofNat 2147483647)))] := ⟨_, _, _, _, rt_e22, by decide, by decide, by decide, by decide⟩
theorem rt_f23 : rt_ok 6 [(0, (10, (Int.ofNat 4), (Int.ofNat 0))), (1, (0, (Int.negSucc 2147483647), (Int.negSucc 0))), (2, (0, (Int.negSucc 2147483647), (Int.ofNat 2147483647))), (3, (0, (Int.negSucc 2147483647), (Int.ofNat 2147483647))), (4, (0, (Int.negSucc 2147483647), (Int.ofNat 2147483647))), (5, (0, (Int.negSucc 2147483647), (Int.ofNat 2147483647)))] := ⟨_, _, _, _, rt_e23, by decide, by decide, by decide, by decide⟩
theorem rt_f24 : rt_ok 6 [(0, (10, (Int.ofNat 5), (Int.ofNat 0))), (1, (0, (Int.ofNat 8), (Int.ofNat 2147483647))), (2, (0, (Int.negSucc 2147483647), (Int.ofNat 2147483647))), (3, (0, (Int.negSucc 2147483647), (Int.ofNat 2147483647))), (4, (0, (Int.negSucc 2147483647), (Int.ofNat 2147483647))), (5, (0, (Int.negSucc 2147483647), (Int.ofNat 2147483647)))] := ⟨_, _, _, _, rt_e24, by decide, by decide, by decide, by decide⟩
theorem rt_f25 : rt_ok 6 [(0, (10, (Int.ofNat 5), (Int.ofNat 0))), (1, (0, (Int.ofNat 7), (Int.ofNat 7))), (2, (0, (Int.negSucc 2147483647), (Int.ofNat 2147483647))), (3, (0, (Int.negSucc 2147483647), (Int.ofNat 2147483647))), (4, (0, (Int.negSucc 2147483647), (Int.ofNat 2147483647))), (5, (0, (Int.negSucc 2147483647), (Int.ofNat 2147483647)))] := ⟨_, _, _, _, rt_e25, by decide, by decide, by decide, by decide⟩
theorem rt_f26 : rt_ok 6 [(0, (10, (Int.ofNat 5), (Int.ofNat 0))), (1, (0, (Int.ofNat 6), (Int.ofNat 6))), (2, (0, (Int.negSucc 2147483647), (Int.ofNat 2147483647))), (3, (0, (Int.negSucc 2147483647), (Int.ofNat 2147483647))), (4, (0, (Int.negSucc 2147483647), (Int.ofNat 2147483647))), (5, (0, (Int.negSucc 2147483647), (Int.ofNat 2147483647)))] := ⟨_, _, _, _, rt_e26, by decide, by decide, by decide, by decide⟩
theorem rt_f27 : rt_ok 6 [(0, (10, (Int.ofNat 5), (Int.ofNat 0))), (1, (0, (Int.ofNat 5), (Int.ofNat 5))), (2, (0, (Int.negSucc 2147483647), (Int.ofNat 2147483647))), (3, (0, (Int.negSucc 2147483647), (Int.ofNat 2147483647))), (4, (0, (Int.negSucc 2147483647), (Int.ofNat 2147483647))), (5, (0, (Int.negSucc 2147483647), (Int.ofNat 2147483647)))] := ⟨_, _, _, _, rt_e27, by decide, by decide, by decide, by decide⟩
theorem rt_f28 : rt_ok 6 [(0, (10, (Int.ofNat 5), (Int.ofNat 0))), (1, (0, (Int.ofNat 4), (Int.ofNat 4))), (2, (0, (Int.negSucc 2147483647), (Int.ofNat 2147483647))), (3, (0, (Int.negSucc 2147483647), (Int.ofNat 2147483647))), (4, (0, (Int.negSucc 2147483647), (Int.ofNat 2147483647))), (5, (0, (Int.negSucc 2147483647), (Int.ofNat 2147483647)))] := ⟨_, _, _, _, rt_e28, by decide, by decide, by decide, by decide⟩
theorem rt_f29 : rt_ok 6 [(0, (10, (Int.ofNat 5), (Int.ofNat 0))), (1, (0, (Int.ofNat 3), (Int.ofNat 3))), (2, (0, (Int.negSucc 2147483647), (Int.ofNat 2147483647))), (3, (0, (Int.negSucc 2147483647), (Int.ofNat 2147483647))), (4, (0, (Int.negSucc 2147483647), (Int.ofNat 2147483647))), (5, (0, (Int.negSucc 2147483647), (Int.ofNat 2147483647)))] := ⟨_, _, _, _, rt_e29, by decide, by decide, by decide, by decide⟩
theorem rt_f30 : rt_ok 6 [(0, (10, (Int.ofNat 5), (Int.ofNat 0))), (1, (0, (Int.ofNat 2), (Int.ofNat 2))), (2, (0, (Int.negSucc 2147483647), (Int.ofNat 2147483647))), (3, (0, (Int.negSucc 2147483647), (Int.ofNat 2147483647))), (4, (0, (Int.negSucc 2147483647), (Int.ofNat 2147483647))), (5, (0, (Int.negSucc 2147483647), (Int.ofNat 2147483647)))] := ⟨_, _, _, _, rt_e30, by decide, by decide, by decide, by decide⟩
theorem rt_f31 : rt_ok 6 [(0, (10, (Int.ofNat 5), (Int.ofNat 0))), (1, (0, (Int.ofNat 1), (Int.ofNat 1))), (2, (0, (Int.negSucc 2147483647), (Int.ofNat 2147483647))), (3, (0, (Int.negSucc 2147483647), (Int.ofNat 2147483647))), (4, (0, (Int.negSucc 2147483647), (Int.ofNat 2147483647))), (5, (0, (Int.negSucc 2147483647), (Int.ofNat 2147483647)))] := ⟨_, _, _, _, rt_e31, by decide, by decide, by decide, by decide⟩
theorem rt_f32 : rt_ok 6 [(0, (10, (Int.ofNat 5), (Int.ofNat 0))), (1, (0, (Int.ofNat 0), (Int.ofNat 0))), (2, (0, (Int.negSucc 2147483647), (Int.ofNat 2147483647))), (3, (0, (Int.negSucc 2147483647), (Int.ofNat 2147483647))), (4, (0, (Int.negSucc 2147483647), (Int.ofNat 2147483647))), (5, (0, (Int.negSucc 2147483647), (Int.ofNat 2147483647)))] := ⟨_, _, _, _, rt_e32, by decide, by decide, by decide, by decide⟩
theorem rt_f33 : rt_ok 6 [(0, (10, (Int.ofNat 5), (Int.ofNat 0))), (1, (0, (Int.negSucc 2147483647), (Int.negSucc 0))), (2, (0, (Int.negSucc 2147483647), (Int.ofNat 2147483647))), (3, (0, (Int.negSucc 2147483647), (Int.ofNat 2147483647))), (4, (0, (Int.negSucc 2147483647), (Int.ofNat 2147483647))), (5, (0, (Int.negSucc 2147483647), (Int.ofNat 2147483647)))] := ⟨_, _, _, _, rt_e33, by decide, by decide, by decide, by decide⟩
theorem rt_f34 : rt_ok 6 [(0, (10, (Int.ofNat 6), (Int.ofNat 0))), (1, (0, (Int.ofNat 8), (Int.ofNat 2147483647))), (2, (0, (Int.negSucc 2147483647), (Int.ofNat 2147483647))), (3, (0, (Int.negSucc 2147483647), (Int.ofNat 2147483647))), (4, (0, (Int.negSucc 2147483647), (Int.ofNat 2147483647))), (5, (0, (Int.negSucc 2147483647), (Int.ofNat 2147483647)))] := ⟨_, _, _, _, rt_e34, by decide, by decide, by decide, by decide⟩
theorem rt_f35 : rt_ok 6 [(0, (10, (Int.ofNat 6), (Int.ofNat 0))), (1, (0, (Int.ofNat 7), (Int.ofNat 7))), (2, (0, (Int.negSucc 2147483647), (Int.ofNat 2147483647))), (3, (0, (Int.negSucc 2147483647), (Int.ofNat 2147483647))), (4, (0, (Int.negSucc 2147483647), (Int.ofNat 2147483647))), (5, (0, (Int.negSucc 2147483647), (Int.ofNat 2147483647)))] := ⟨_, _, _, _, rt_e35, by decide, by decide, by decide, by decide⟩
theorem rt_f36 : rt_ok 6 [(0, (10, (Int.ofNat 6), (Int.ofNat 0))), (1, (0, (Int.ofNat 6), (Int.ofNat 6))), (2, (0, (Int.negSucc 2147483647), (Int.ofNat 2147483647))), (3, (0, (Int.negSucc 2147483647), (Int.ofNat 2147483647))), (4, (0, (Int.negSucc 2147483647), (Int.ofNat 2147483647))), (5, (0, (Int.negSucc 2147483647), (Int.ofNat 2147483647)))] := ⟨_, _, _, _, rt_e36, by decide, by decide, by decide, by decide⟩
theorem rt_f37 : rt_ok 6 [(0, (10, (Int.ofNat 6), (Int.ofNat 0))), (1, (0, (Int.ofNat 5), (Int.ofNat 5))), (2, (0, (Int.negSucc 2147483647), (Int.ofNat 2147483647))), (3, (0, (Int.negSucc 2147483647), (Int.ofNat 2147483647))), (4, (0, (Int.negSucc 2147483647), (Int.ofNat 2147483647))), (5, (0, (Int.negSucc 2147483647), (Int.ofNat 2147483647)))] := ⟨_, _, _, _, rt_e37, by decide, by decide, by decide, by decide⟩
theorem rt_f38 : rt_ok 6 [(0, (10, (Int.ofNat 6), (Int.ofNat 0))), (1, (0, (Int.ofNat 4), (Int.ofNat 4))), (2, (0, (Int.negSucc 2147483647), (Int.ofNat 2147483647))), (3, (0, (Int.negSucc 2147483647), (Int.ofNat 2147483647))), (4, (0, (Int.negSucc 2147483647), (Int.ofNat 2147483647))), (5, (0, (Int.negSucc 2147483647), (Int.ofNat 2147483647)))] := ⟨_, _, _, _, rt_e38, by decide, by decide, by decide, by decide⟩
theorem rt_f39 : rt_ok 6 [(0, (10, (Int.ofNat 6), (Int.ofNat 0))), (1, (0, (Int.ofNat 3), (Int.ofNat 3))), (2, (0, (Int.negSucc 2147483647), (Int.ofNat 2147483647))), (3, (0, (Int.negSucc 2147483647), (Int.ofNat 2147483647))), (4, (0, (Int.negSucc 2147483647), (Int.ofNat 2147483647))), (5, (0, (Int.negSucc 2147483647), (Int.ofNat 2147483647)))] := ⟨_, _, _, _, rt_e39, by decide, by decide, by decide, by decide⟩
theorem rt_f40 : rt_ok 6 [(0, (10, (Int.ofNat 6), (Int.ofNat 0))), (1, (0, (Int.ofNat 2), (Int.ofNat 2))), (2, (0, (Int.negSucc 2147483647), (Int.ofNat 2147483647))), (3, (0, (Int.negSucc 2147483647), (Int.ofNat 2147483647))), (4, (0, (Int.negSucc 2147483647), (Int.ofNat 2147483647))), (5, (0, (Int.negSucc 2147483647), (Int.ofNat 2147483647)))] := ⟨_, _, _, _, rt_e40, by decide, by decide, by decide, by decide⟩
theorem rt_f41 : rt_ok 6 [(0, (10, (Int.ofNat 6), (Int.ofNat 0))), (1, (0, (Int.ofNat 1), (Int.ofNat 1))), (2, (0, (Int.negSucc 2147483647), (Int.ofNat 2147483647))), (3, (0, (Int.negSucc 2147483647), (Int.ofNat 2147483647))), (4, (0, (Int.negSucc 2147483647), (Int.ofNat 2147483647))), (5, (0, (Int.negSucc 2147483647), (Int.ofNat 2147483647)))] := ⟨_, _, _, _, rt_e41, by decide, by decide, by decide, by decide⟩
theorem rt_f42 : rt_ok 6 [(0, (10, (Int.ofNat 6), (Int.ofNat 0))), (1, (0, (Int.ofNat 0), (Int.ofNat 0))), (2, (0, (Int.negSucc 2147483647), (Int.ofNat 2147483647))), (3, (0, (Int.negSucc 2147483647), (Int.ofNat 2147483647))), (4, (0, (Int.negSucc 2147483647), (Int.ofNat 2147483647))), (5, (0, (Int.negSucc 2147483647), (Int.ofNat 2147483647)))] := ⟨_, _, _, _, rt_e42, by decide, by decide, by decide, by decide⟩
theorem rt_f43 : rt_ok 6 [(0, (10, (Int.ofNat 6), (Int.ofNat 0))), (1, (0, (Int.negSucc 2147483647), (Int.negSucc 0))), (2, (0, (Int.negSucc 2147483647), (Int.ofNat 2147483647))), (3, (0, (Int.negSucc 2147483647), (Int.ofNat 2147483647))), (4, (0, (Int.negSucc 2147483647), (Int.ofNat 2147483647))), (5, (0, (Int.negSucc 2147483647), (Int.ofNat 2147483647)))] := ⟨_, _, _, _, rt_e43, by decide, by decide, by decide, by decide⟩
theorem rt_f44 : rt_ok 6 [(0, (10, (Int.ofNat 7), (Int.ofNat 0))), (1, (0, (Int.ofNat 8), (Int.ofNat 2147483647))), (2, (0, (Int.negSucc 2147483647), (Int.ofNat 2147483647))), (3, (0, (Int.negSucc 2147483647), (Int.ofNat 2147483647))), (4, (0, (Int.negSucc 2147483647), (Int.ofNat 2147483647))), (5, (0, (Int.negSucc 2147483647), (Int.ofNat 2147483647)))] := ⟨_, _, _, _, rt_e44, by decide, by decide, by decide, by decide⟩
theorem rt_f45 : rt_ok 6 [(0, (10, (Int.ofNat 7), (Int.ofNat 0))), (1, (0, (Int.ofNat 7), (Int.ofNat 7))), (2, (0, (Int.negSucc 2147483647), (Int.ofNat 2147483647))), (3, (0, (Int.negSucc 2147483647), (Int.ofNat 2147483647))), (4, (0, (Int.negSucc 2147483647), (Int.ofNat 2147483647))), (5, (0, (Int.negSucc 2147483647), (Int.ofNat 2147483647)))] := ⟨_, _, _, _, rt_e45, by decide, by decide, by decide, by decide⟩
theorem rt_f46 : rt_ok 6 [(0, (10, (Int.ofNat 7), (Int.ofNat 0))), (1, (0, (Int.ofNat 6), (Int.ofNat 6))), (2, (0, (Int.negSucc 2147483647), (Int.ofNat 2147483647))), (3, (0, (Int.negSucc 2147483647), (Int.ofNat 2147483647))), (4, (0, (Int.negSucc 2147483647), (Int.ofNat 2147483647))), (5, (0, (Int.negSucc 2147483647), (Int.ofNat 2147483647)))] := ⟨_, _, _, _, rt_e46, by decide, by decide, by decide, by decide⟩
theorem rt_f47 : rt_ok 6 [(0, (10, (Int.ofNat 7), (Int.ofNat 0))), (1, (0, (Int.ofNat 5), (Int.ofNat 5))), (2, (0, (Int.negSucc 2147483647), (Int.ofNat 2147483647))), (3, (0, (Int.negSucc 2147483647), (Int.ofNat 2147483647))), (4, (0, (Int.negSucc 2147483647), (Int.ofNat 2147483647))), (5, (0, (Int.negSucc 2147483647), (Int.ofNat 2147483647)))] := ⟨_, _, _, _, rt_e47, by decide, by decide, by decide, by decide⟩
theorem rt_f48 : rt_ok 6 [(0, (10, (Int.ofNat 7), (Int.ofNat 0))), (1, (0, (Int.ofNat 4), (Int.ofNat 4))), (2, (0, (Int.negSucc 2147483647), (Int.ofNat 2147483647))), (3, (0, (Int.negSucc 2147483647), (Int.ofNat 2147483647))), (4, (0, (Int.negSucc 2147483647), (Int.ofNat 2147483647))), (5, (0, (Int.negSucc 2147483647), (Int.ofNat 2147483647)))] := ⟨_, _, _, _, rt_e48, by decide, by decide, by decide, by decide⟩
theorem rt_f49 : rt_ok 6 [(0, (10, (Int.ofNat 7), (Int.ofNat 0))), (1, (0, (Int.ofNat 3), (Int.ofNat 3))), (2, (0, (Int.negSucc 2147483647), (Int.ofNat 2147483647))), (3, (0, (Int.negSucc 2147483647), (Int.ofNat 2147483647))), (4, (0, (Int.negSucc 2147483647), (Int.ofNat 2147483647))), (5, (0, (Int.negSucc 2147483647), (Int.ofNat 2147483647)))] := ⟨_, _, _, _, rt_e49, by decide, by decide, by decide, by decide⟩
theorem rt_f50 : rt_ok 6 [(0, (10, (Int.ofNat 7), (Int.ofNat 0))), (1, (0, (Int.ofNat 2), (Int.ofNat 2))), (2, (0, (Int.negSucc 2147483647), (Int.ofNat 2147483647))), (3, (0, (Int.negSucc 2147483647), (Int.ofNat 2147483647))), (4, (0, (Int.negSucc 2147483647), (Int.ofNat 2147483647))), (5, (0, (Int.negSucc 2147483647), (Int.ofNat 2147483647)))] := ⟨_, _, _, _, rt_e50, by decide, by decide, by decide, by decide⟩
theorem rt_f51 : rt_ok 6 [(0, (10, (Int.ofNat 7), (Int.ofNat 0))), (1, (0, (Int.ofNat 1), (Int.ofNat 1))), (2, (0, (Int.negSucc 2147483647), (Int.ofNat 2147483647))), (3, (0, (Int.negSucc 2147483647), (Int.ofNat 2147483647))), (4, (0, (Int.negSucc 2147483647), (Int.ofNat 2147483647))), (5, (0, (Int.negSucc 2147483647), (Int.ofNat 2147483647)))] := ⟨_, _, _, _, rt_e51, by decide, by decide, by decide, by decide⟩
theorem rt_f52 : rt_ok 6 [(0, (10, (Int.ofNat 7), (Int.ofNat 0))), (1, (0, (Int.ofNat 0), (Int.ofNat 0))), (2, (0, (Int.negSucc 2147483647), (Int.ofNat 2147483647))), (3, (0, (Int.negSucc 2147483647), (Int.ofNat 2147483647))), (4, (0, (Int.negSucc 2147483647), (Int.ofNat 2147483647))), (5, (0, (Int.negSucc 2147483647), (Int.ofNat 2147483647)))] := ⟨_, _, _, _, rt_e52, by decide, by decide, by decide, by decide⟩
theorem rt_f53 : rt_ok 6 [(0, (10, (Int.ofNat 7), (Int.ofNat 0))), (1, (0, (Int.negSucc 2147483647), (Int.negSucc 0))), (2, (0, (Int.negSucc 2147483647), (Int.ofNat 2147483647))), (3, (0, (Int.negSucc 2147483647), (Int.ofNat 2147483647))), (4, (0, (Int.negSucc 2147483647), (Int.ofNat 2147483647))), (5, (0, (Int.negSucc 2147483647), (Int.ofNat 2147483647)))] := ⟨_, _, _, _, rt_e53, by decide, by decide, by decide, by decide⟩
theorem rt_f54 : rt_ok 6 [(0, (10, (Int.ofNat 8), (Int.ofNat 0))), (1, (0, (Int.ofNat 3), (Int.ofNat 2147483647))), (2, (0, (Int.negSucc 2147483647), (Int.ofNat 2147483647))), (3, (0, (Int.negSucc 2147483647), (Int.ofNat 2147483647))), (4, (0, (Int.negSucc 2147483647), (Int.ofNat 2147483647))), (5, (0, (Int.negSucc 2147483647), (Int.ofNat 2147483647)))] := ⟨_, _, _, _, rt_e54, by decide, by decide, by decide, by decide⟩
theorem rt_f55 : rt_ok 6 [(0, (10, (Int.ofNat 8), (Int.ofNat 0))), (1, (0, (Int.ofNat 0), (Int.ofNat 2))), (2, (0, (Int.negSucc 2147483647), (Int.ofNat 2147483647))), (3, (0, (Int.negSucc 2147483647), (Int.ofNat 2147483647))), (4, (0, (Int.negSucc 2147483647), (Int.ofNat 2147483647))), (5, (0, (Int.negSucc 2147483647), (Int.ofNat 2147483647)))] := ⟨_, _, _, _, rt_e55, by decide, by decide, by decide, by decide⟩
theorem rt_f56 : rt_ok 6 [(0, (10, (Int.ofNat 8), (Int.ofNat 0))), (1, (0, (Int.negSucc 2147483647), (Int.negSucc 0))), (2, (0, (Int.negSucc 2147483647), (Int.ofNat 2147483647))), (3, (0, (Int.negSucc 2147483647), (Int.ofNat 2147483647))), (4, (0, (Int.negSucc 2147483647), (Int.ofNat 2147483647))), (5, (0, (Int.negSucc 2147483647), (Int.ofNat 2147483647)))] := ⟨_, _, _, _, rt_e56, by decide, by decide, by decide, by decide⟩
theorem rt_f57 : rt_ok 6 [(0, (10, (Int.ofNat 9), (Int.ofNat 0))), (1, (0, (Int.negSucc 2147483647), (Int.ofNat 2147483647))), (2, (0, (Int.negSucc 2147483647), (Int.ofNat 2147483647))), (3, (0, (Int.negSucc 2147483647), (Int.ofNat 2147483647))), (4, (0, (Int.negSucc 2147483647), (Int.ofNat 2147483647))), (5, (0, (Int.negSucc 2147483647), (Int.ofNat 2147483647)))] := ⟨_, _, _, _, rt_e57, by decide, by decide, by decide, by decide⟩
theorem rt_f58 : rt_ok 6 [(0, (10, (Int.ofNat 10), (Int.ofNat 0))), (1, (0, (Int.ofNat 8), (Int.ofNat 2147483647))), (2, (0, (Int.negSucc 2147483647), (Int.ofNat 2147483647))), (3, (0, (Int.negSucc 2147483647), (Int.ofNat 2147483647))), (4, (0, (Int.negSucc 2147483647), (Int.ofNat 2147483647))), (5, (0, (Int.negSucc 2147483647), (Int.ofNat 2147483647)))] := ⟨_, _, _, _, rt_e58, by decide, by decide, by decide, by decide⟩
theorem rt_f59 : rt_ok 6 [(0, (10, (Int.ofNat 10), (Int.ofNat 0))), (1, (0, (Int.ofNat 7), (Int.ofNat 7))), (2, (0, (Int.negSucc 2147483647), (Int.ofNat 2147483647))), (3, (0, (Int.negSucc 2147483647), (Int.ofNat 2147483647))), (4, (0, (Int.negSucc 2147483647), (Int.ofNat 2147483647))), (5, (0, (Int.negSucc 2147483647), (Int.ofNat 2147483647)))] := ⟨_, _, _, _, rt_e59, by decide, by decide, by decide, by decide⟩
theorem rt_f60 : rt_ok 6 [(0, (10, (Int.ofNat 10), (Int.ofNat 0))), (1, (0, (Int.ofNat 6), (Int.ofNat 6))), (2, (0, (Int.negSucc 2147483647), (Int.ofNat 2147483647))), (3, (0, (Int.negSucc 2147483647), (Int.ofNat 2147483647))), (4, (0, (Int.negSucc 2147483647), (Int.ofNat 2147483647))), (5, (0, (Int.negSucc 2147483647), (Int.ofNat 2147483647)))] := ⟨_, _, _, _, rt_e60, by decide, by decide, by decide, by decide⟩
theorem rt_f61 : rt_ok 6 [(0, (10, (Int.ofNat 10), (Int.ofNat 0))), (1, (0, (Int.ofNat 5), (Int.ofNat 5))), (2, (0, (Int.negSucc 2147483647), (Int.ofNat 2147483647))), (3, (0, (Int.negSucc 2147483647), (Int.ofNat 2147483647))), (4, (0, (Int.negSucc 2147483647), (Int.ofNat 2147483647))), (5, (0, (Int.negSucc 2147483647), (Int.ofNat 2147483647)))] := ⟨_, _, _, _, rt_e61, by decide, by decide, by decide, by decide⟩
theorem rt_f62 : rt_ok 6 [(0, (10, (Int.ofNat 10), (Int.ofNat 0))), (1, (0, (Int.ofNat 4), (Int.ofNat 4))), (2, (0, (Int.negSucc 2147483647), (Int.ofNat 2147483647))), (3, (0, (Int.negSucc 2147483647), (Int.ofNat 2147483647))), (4, (0, (Int.negSucc 2147483647), (Int.ofNat 2147483647))), (5, (0, (Int.negSucc 2147483647), (Int.ofNat 2147483647)))] := ⟨_, _, _, _, rt_e62, by decide, by decide, by decide, by decide⟩
theorem rt_f63 : rt_ok 6 [(0, (10, (Int.ofNat 10), (Int.ofNat 0))), (1, (0, (Int.ofNat 3), (Int.ofNat 3))), (2, (0, (Int.negSucc 2147483647), (Int.ofNat 2147483647))), (3, (0, (Int.negSucc 2147483647), (Int.ofNat 2147483647))), (4, (0, (Int.negSucc 2147483647), (Int.ofNat 2147483647))), (5, (0, (Int.negSucc 2147483647), (Int.ofNat 2147483647)))] := ⟨_, _, _, _, rt_e63, by decide, by decide, by decide, by decide⟩
theorem rt_f64 : rt_ok 6 [(0, (10, (Int.ofNat 10), (Int.ofNat 0))), (1, (0, (Int.ofNat 2), (Int.ofNat 2))), (2, (0, (Int.negSucc 2147483647), (Int.ofNat 2147483647))), (3, (0, (Int.negSucc 2147483647), (Int.ofNat 2147483647))), (4, (0, (Int.negSucc 2147483647), (Int.ofNat 2147483647))), (5, (0, (Int.negSucc 2147483647), (Int.ofNat 2147483647)))] := ⟨_, _, _, _, rt_e64, by decide, by decide, by decide, by decide⟩
theorem rt_f65 : rt_ok 6 [(0, (10, (Int.ofNat 10), (Int.ofNat 0))), (1, (0, (Int.ofNat 1), (Int.ofNat 1))), (2, (0, (Int.negSucc 2147483647), (Int.ofNat 2147483647))), (3, (0, (Int.negSucc 2147483647), (Int.ofNat 2147483647))), (4, (0, (Int.negSucc 2147483647), (Int.ofNat 2147483647))), (5, (0, (Int.negSucc 2147483647), (Int.ofNat 2147483647)))] := ⟨_, _, _, _, rt_e65, by decide, by decide, by decide, by decide⟩
theorem rt_f66 : rt_ok 6 [(0, (10, (Int.ofNat 10), (Int.ofNat 0))), (1, (0, (Int.ofNat 0), (Int.ofNat 0))), (2, (0, (Int.negSucc 2147483647), (Int.ofNat 2147483647))), (3, (0, (Int.negSucc 2147483647), (Int.ofNat 2147483647))), (4, (0, (Int.negSucc 2147483647), (Int.ofNat 2147483647))), (5, (0, (Int.negSucc 2147483647), (Int.ofNat 2147483647)))] := ⟨_, _, _, _, rt_e66, by decide, by decide, by decide, by decide⟩
theorem rt_f67 : rt_ok 6 [(0, (10, (Int.ofNat 10), (Int.ofNat 0))), (1, (0, (Int.negSucc 2147483647), (Int.negSucc 0))), (2, (0, (Int.negSucc 2147483647), (Int.ofNat 2147483647))), (3, (0, (Int.negSucc 2147483647), (Int.ofNat 2147483647))), (4, (0, (Int.negSucc 2147483647), (Int.ofNat 2147483647))), (5, (0, (Int.negSucc 2147483647), (Int.ofNat 2147483647)))] := ⟨_, _, _, _, rt_e67, by decide, by decide, by decide, by decide⟩
theorem rt_f68 : rt_ok 6 [(0, (10, (Int.ofNat 11), (Int.ofNat 0))), (1, (0, (Int.negSucc 2147483647), (Int.ofNat 2147483647))), (2, (0, (Int.negSucc 2147483647), (Int.ofNat 2147483647))), (3, (0, (Int.negSucc 2147483647), (Int.ofNat 2147483647))), (4, (0, (Int.negSucc 2147483647), (Int.ofNat 2147483647))), (5, (0, (Int.negSucc 2147483647), (Int.ofNat 2147483647)))] := ⟨_, _, _, _, rt_e68, by decide, by decide, by decide, by decide⟩
theorem rt_f69 : rt_ok 6 [(0, (10, (Int.ofNat 12), (Int.ofNat 0))), (1, (0, (Int.negSucc 2147483647), (Int.ofNat 2147483647))), (2, (0, (Int.negSucc 2147483647), (Int.ofNat 2147483647))), (3, (0, (Int.negSucc 2147483647), (Int.ofNat 2147483647))), (4, (0, (Int.negSucc 2147483647), (Int.ofNat 2147483647))), (5, (0, (Int.negSucc 2147483647), (Int.ofNat 2147483647)))] := ⟨_, _, _, _, rt_e69, by decide, by decide, by decide, by decide⟩
theorem rt_f70 : rt_ok 6 [(0, (10, (Int.ofNat 13), (Int.ofNat 0))), (1, (0, (Int.negSucc 2147483647), (Int.ofNat 2147483647))), (2, (0, (Int.negSucc 2147483647), (Int.ofNat 2147483647))), (3, (0, (Int.negSucc 2147483647), (Int.ofNat 2147483647))), (4, (0, (Int.negSucc 2147483647), (Int.ofNat 2147483647))), (5, (0, (Int.negSucc 2147483647), (Int.ofNat 2147483647)))] := ⟨_, _, _, _, rt_e70, by decide, by decide, by decide, by decide⟩
theorem rt_f71 : rt_ok 6 [(0, (10, (Int.ofNat 14), (Int.ofNat 0))), (1, (0, (Int.negSucc 2147483647), (Int.ofNat 2147483647))), (2, (0, (Int.negSucc 2147483647), (Int.ofNat 2147483647))), (3, (0, (Int.negSucc 2147483647), (Int.ofNat 2147483647))), (4, (0, (Int.negSucc 2147483647), (Int.ofNat 2147483647))), (5, (0, (Int.negSucc 2147483647), (Int.ofNat 2147483647)))] := ⟨_, _, _, _, rt_e71, by decide, by decide, by decide, by decide⟩
theorem rt_f72 : rt_ok 6 [(0, (10, (Int.ofNat 15), (Int.ofNat 0))), (1, (0, (Int.negSucc 2147483647), (Int.ofNat 2147483647))), (2, (0, (Int.negSucc 2147483647), (Int.ofNat 2147483647))), (3, (0, (Int.negSucc 2147483647), (Int.ofNat 2147483647))), (4, (0, (Int.negSucc 2147483647), (Int.ofNat 2147483647))), (5, (0, (Int.negSucc 2147483647), (Int.ofNat 2147483647)))] := ⟨_, _, _, _, rt_e72, by decide, by decide, by decide, by decide⟩
theorem rt_f73 : rt_ok 6 [(0, (10, (Int.ofNat 16), (Int.ofNat 0))), (1, (0, (Int.ofNat 0), (Int.ofNat 2147483647))), (2, (0, (Int.negSucc 2147483647), (Int.ofNat 2147483647))), (3, (0, (Int.negSucc 2147483647), (Int.ofNat 2147483647))), (4, (0, (Int.negSucc 2147483647), (Int.ofNat 2147483647))), (5, (0, (Int.negSucc 2147483647), (Int.ofNat 2147483647)))] := ⟨_, _, _, _, rt_e73, by decide, by decide, by decide, by decide⟩
theorem rt_f74 : rt_ok 6 [(0, (10, (Int.ofNat 16), (Int.ofNat 0))), (1, (0, (Int.negSucc 2147483647), (Int.negSucc 0))), (2, (0, (Int.negSucc 2147483647), (Int.ofNat 2147483647))), (3, (0, (Int.negSucc 2147483647), (Int.ofNat 2147483647))), (4, (0, (Int.negSucc 2147483647), (Int.ofNat 2147483647))), (5, (0, (Int.negSucc 2147483647), (Int.ofNat 2147483647)))] := ⟨_, _, _, _, rt_e74, by decide, by decide, by decide, by decide⟩
theorem rt_f75 : rt_ok 6 [(0, (10, (Int.ofNat 17), (Int.ofNat 0))), (1, (0, (Int.ofNat 0), (Int.ofNat 2147483647))), (2, (0, (Int.negSucc 2147483647), (Int.ofNat 2147483647))), (3, (0, (Int.negSucc 2147483647), (Int.ofNat 2147483647))), (4, (0, (Int.negSucc 2147483647), (Int.ofNat 2147483647))), (5, (0, (Int.negSucc 2147483647), (Int.ofNat 2147483647)))] := ⟨_, _, _, _, rt_e75, by decide, by decide, by decide, by decide⟩
theorem rt_f76 : rt_ok 6 [(0, (10, (Int.ofNat 17), (Int.ofNat 0))), (1, (0, (Int.negSucc 2147483647), (Int.negSucc 0))), (2, (0, (Int.negSucc 2147483647), (Int.ofNat 2147483647))), (3, (0, (Int.negSucc 2147483647), (Int.ofNat 2147483647))), (4, (0, (Int.negSucc 2147483647), (Int.ofNat 2147483647))), (5, (0, (Int.negSucc 2147483647), (Int.ofNat 2147483647)))] := ⟨_, _, _, _, rt_e76, by decide, by decide, by decide, by decide⟩
theorem rt_f77 : rt_ok 6 [(0, (10, (Int.ofNat 18), (Int.ofNat 0))), (1, (0, (Int.ofNat 0), (Int.ofNat 2147483647))), (2, (0, (Int.negSucc 2147483647), (Int.ofNat 2147483647))), (3, (0, (Int.negSucc 2147483647), (Int.ofNat 2147483647))), (4, (0, (Int.negSucc 2147483647), (Int.ofNat 2147483647))), (5, (0, (Int.negSucc 2147483647), (Int.ofNat 2147483647)))] := ⟨_, _, _, _, rt_e77, by decide, by decide, by decide, by decide⟩
theorem rt_f78 : rt_ok 6 [(0, (10, (Int.ofNat 18), (Int.ofNat 0))), (1, (0, (Int.negSucc 2147483647), (Int.negSucc 0))), (2, (0, (Int.negSucc 2147483647), (Int.ofNat 2147483647))), (3, (0, (Int.negSucc 2147483647), (Int.ofNat 2147483647))), (4, (0, (Int.negSucc 2147483647), (Int.ofNat 2147483647))), (5, (0, (Int.negSucc 2147483647), (Int.ofNat 2147483647)))] := ⟨_, _, _, _, rt_e78, by decide, by decide, by decide, by decide⟩
theorem rt_f79 : rt_ok 6 [(0, (10, (Int.ofNat 19), (Int.ofNat 0))), (1, (0, (Int.ofNat 0), (Int.ofNat 2147483647))), (2, (0, (Int.negSucc 2147483647), (Int.ofNat 2147483647))), (3, (0, (Int.negSucc 2147483647), (Int.ofNat 2147483647))), (4, (0, (Int.negSucc 2147483647), (Int.ofNat 2147483647))), (5, (0, (Int.negSucc 2147483647), (Int.ofNat 2147483647)))] := ⟨_, _, _, _, rt_e79, by decide, by decide, by decide, by decide⟩
theorem rt_f80 : rt_ok 6 [(0, (10, (Int.ofNat 19), (Int.ofNat 0))), (1, (0, (Int.negSucc 2147483647), (Int.negSucc 0))), (2, (0, (Int.negSucc 2147483647), (Int.ofNat 2147483647))), (3, (0, (Int.negSucc 2147483647), (Int.ofNat 2147483647))), (4, (0, (Int.negSucc 2147483647), (Int.ofNat 2147483647))), (5, (0, (Int.negSucc 2147483647), (Int.ofNat 2147483647)))] := ⟨_, _, _, _, rt_e80, by decide, by decide, by decide, by decide⟩
theorem rt_f81 : rt_ok 6 [(0, (10, (Int.ofNat 20), (Int.ofNat 0))), (1, (0, (Int.ofNat 8), (Int.ofNat 2147483647))), (2, (0, (Int.negSucc 2147483647), (Int.ofNat 2147483647))), (3, (0, (Int.negSucc 2147483647), (Int.ofNat 2147483647))), (4, (0, (Int.negSucc 2147483647), (Int.ofNat 2147483647))), (5, (0, (Int.negSucc 2147483647), (Int.ofNat 2147483647)))] := ⟨_, _, _, _, rt_e81, by decide, by decide, by decide, by decide⟩
theorem rt_f82 : rt_ok 6 [(0, (10, (Int.ofNat 20), (Int.ofNat 0))), (1, (0, (Int.ofNat 7), (Int.ofNat 7))), (2, (0, (Int.negSucc 2147483647), (Int.ofNat 2147483647))), (3, (0, (Int.negSucc 2147483647), (Int.ofNat 2147483647))), (4, (0, (Int.negSucc 2147483647), (Int.ofNat 2147483647))), (5, (0, (Int.negSucc 2147483647), (Int.ofNat 2147483647)))] := ⟨_, _, _, _, rt_e82, by decide, by decide, by decide, by decide⟩
theorem rt_f83 : rt_ok 6 [(0, (10, (Int.ofNat 20), (Int.ofNat 0))), (1, (0, (Int.ofNat 6), (Int.ofNat 6))), (2, (0, (Int.negSucc 2147483647), (Int.ofNat 2147483647))), (3, (0, (Int.negSucc 2147483647), (Int.ofNat 2147483647))), (4, (0, (Int.negSucc 2147483647), (Int.ofNat 2147483647))), (5, (0, (Int.negSucc 2147483647), (Int.ofNat 2147483647)))] := ⟨_, _, _, _, rt_e83, by decide, by decide, by decide, by decide⟩
theorem rt_f84 : rt_ok 6 [(0, (10, (Int.ofNat 20), (Int.ofNat 0))), (1, (0, (Int.ofNat 5), (Int.ofNat 5))), (2, (0, (Int.negSucc 2147483647), (Int.ofNat 2147483647))), (3, (0, (Int.negSucc 2147483647), (Int.ofNat 2147483647))), (4, (0, (Int.negSucc 2147483647), (Int.ofNat 2147483647))), (5, (0, (Int.negSucc 2147483647), (Int.ofNat 2147483647)))] := ⟨_, _, _, _, rt_e84, by decide, by decide, by decide, by decide⟩
theorem rt_f85 : rt_ok 6 [(0, (10, (Int.ofNat 20), (Int.ofNat 0))), (1, (0, (Int.ofNat 4), (Int.ofNat 4))), (2, (0, (Int.negSucc 2147483647), (Int.ofNat 2147483647))), (3, (0, (Int.negSucc 2147483647), (Int.ofNat 2147483647))), (4, (0, (Int.negSucc 2147483647), (Int.ofNat 2147483647))), (5, (0, (Int.negSucc 2147483647), (Int.ofNat 2147483647)))] := ⟨_, _, _, _, rt_e85, by decide, by decide, by decide, by decide⟩
theorem rt_f86 : rt_ok 6 [(0, (10, (Int.ofNat 20), (Int.ofNat 0))), (1, (0, (Int.ofNat 3), (Int.ofNat 3))), (2, (0, (Int.negSucc 2147483647), (Int.ofNat 2147483647))), (3, (0, (Int.negSucc 2147483647), (Int.ofNat 2147483647))), (4, (0, (Int.negSucc 2147483647), (Int.ofNat 2147483647))), (5, (0, (Int.negSucc 2147483647), (Int.ofNat 2147483647)))] := ⟨_, _, _, _, rt_e86, by decide, by decide, by decide, by decide⟩
theorem rt_f87 : rt_ok 6 [(0, (10, (Int.ofNat 20), (Int.ofNat 0))), (1, (0, (Int.ofNat 2), (Int.ofNat 2))), (2, (0, (Int.negSucc 2147483647), (Int.ofNat 2147483647))), (3, (0, (Int.negSucc 2147483647), (Int.ofNat 2147483647))), (4, (0, (Int.negSucc 2147483647), (Int.ofNat 2147483647))), (5, (0, (Int.negSucc 2147483647), (Int.ofNat 2147483647)))] := ⟨_, _, _, _, rt_e87, by decide, by decide, by decide, by decide⟩
theorem rt_f88 : rt_ok 6 [(0, (10, (Int.ofNat 20), (Int.ofNat 0))), (1, (0, (Int.ofNat 1), (Int.ofNat 1))), (2, (0, (Int.negSucc 2147483647), (Int.ofNat 2147483647))), (3, (0, (Int.negSucc 2147483647), (Int.ofNat 2147483647))), (4, (0, (Int.negSucc 2147483647), (Int.ofNat 2147483647))), (5, (0, (Int.negSucc 2147483647), (Int.ofNat 2147483647)))] := ⟨_, _, _, _, rt_e88, by decide, by decide, by decide, by decide⟩
theorem rt_f89 : rt_ok 6 [(0, (10, (Int.ofNat 20), (Int.ofNat 0))), (1, (0, (Int.ofNat 0), (Int.ofNat 0))), (2, (0, (Int.negSucc 2147483647), (Int.ofNat 2147483647))), (3, (0, (Int.negSucc 2147483647), (Int.ofNat 2147483647))), (4, (0, (Int.negSucc 2147483647), (Int.ofNat 2147483647))), (5, (0, (Int.negSucc 2147483647), (Int.ofNat 2147483647)))] := ⟨_, _, _, _, rt_e89, by decide, by decide, by decide, by decide⟩
theorem rt_f90 : rt_ok 6 [(0, (10, (Int.ofNat 20), (Int.ofNat 0))), (1, (0, (Int.negSucc 2147483647), (Int.negSucc 0))), (2, (0, (Int.negSucc 2147483647), (Int.ofNat 2147483647))), (3, (0, (Int.negSucc 2147483647), (Int.ofNat 2147483647))), (4, (0, (Int.negSucc 2147483647), (Int.ofNat 2147483647))), (5, (0, (Int.negSucc 2147483647), (Int.ofNat 2147483647)))] := ⟨_, _, _, _, rt_e90, by decide, by decide, by decide, by decide⟩
theorem rt_f91 : rt_ok 6 [(0, (10, (Int.ofNat 21), (Int.ofNat 0))), (1, (0, (Int.ofNat 8), (Int.ofNat 2147483647))), (2, (0, (Int.negSucc 2147483647), (Int.ofNat 2147483647))), (3, (0, (Int.negSucc 2147483647), (Int.ofNat 2147483647))), (4, (0, (Int.negSucc 2147483647), (Int.ofNat 2147483647))), (5, (0, (Int.negSucc 2147483647), (Int.ofNat 2147483647)))] := ⟨_, _, _, _, rt_e91, by decide, by decide, by decide, by decide⟩
theorem rt_f92 : rt_ok 6 [(0, (10, (Int.ofNat 21), (Int.ofNat 0))), (1, (0, (Int.ofNat 7), (Int.ofNat 7))), (2, (0, (Int.negSucc 2147483647), (Int.ofNat 2147483647))), (3, (0, (Int.negSucc 2147483647), (Int.ofNat 2147483647))), (4, (0, (Int.negSucc 2147483647), (Int.ofNat 2147483647))), (5, (0, (Int.negSucc 2147483647), (Int.ofNat 2147483647)))] := ⟨_, _, _, _, rt_e92, by decide, by decide, by decide, by decide⟩
theorem rt_f93 : rt_ok 6 [(0, (10, (Int.ofNat 21), (Int.ofNat 0))), (1, (0, (Int.ofNat 6), (Int.ofNat 6))), (2, (0, (Int.negSucc 2147483647), (Int.ofNat 2147483647))), (3, (0, (Int.negSucc 2147483647), (Int.ofNat 2147483647))), (4, (0, (Int.negSucc 2147483647), (Int.ofNat 2147483647))), (5, (0, (Int.negSucc 2147483647), (Int.ofNat 2147483647)))] := ⟨_, _, _, _, rt_e93, by decide, by decide, by decide, by decide⟩
theorem rt_f94 : rt_ok 6 [(0, (10, (Int.ofNat 21), (Int.ofNat 0))), (1, (0, (Int.ofNat 5), (Int.ofNat 5))), (2, (0, (Int.negSucc 2147483647), (Int.ofNat 2147483647))), (3, (0, (Int.negSucc 2147483647), (Int.ofNat 2147483647))), (4, (0, (Int.negSucc 2147483647), (Int.ofNat 2147483647))), (5, (0, (Int.negSucc 2147483647), (Int.ofNat 2147483647)))] := ⟨_, _, _, _, rt_e94, by decide, by decide, by decide, by decide⟩
theorem rt_f95 : rt_ok 6 [(0, (10, (Int.ofNat 21), (Int.ofNat 0))), (1, (0, (Int.ofNat 4), (Int.ofNat 4))), (2, (0, (Int.negSucc 2147483647), (Int.ofNat 2147483647))), (3, (0, (Int.negSucc 2147483647), (Int.ofNat 2147483647))), (4, (0, (Int.negSucc 2147483647), (Int.ofNat 2147483647))), (5, (0, (Int.negSucc 2147483647), (Int.ofNat 2147483647)))] := ⟨_, _, _, _, rt_e95, by decide, by decide, by decide, by decide⟩
theorem rt_f96 : rt_ok 6 [(0, (10, (Int.ofNat 21), (Int.ofNat 0))), (1, (0, (Int.ofNat 3), (Int.ofNat 3))), (2, (0, (Int.negSucc 2147483647), (Int.ofNat 2147483647))), (3, (0, (Int.negSucc 2147483647), (Int.ofNat 2147483647))), (4, (0, (Int.negSucc 2147483647), (Int.ofNat 2147483647))), (5, (0, (Int.negSucc 2147483647), (Int.ofNat 2147483647)))] := ⟨_, _, _, _, rt_e96, by decide, by decide, by decide, by decide⟩
theorem rt_f97 : rt_ok 6 [(0, (10, (Int.ofNat 21), (Int.ofNat 0))), (1, (0, (Int.ofNat 2), (Int.ofNat 2))), (2, (0, (Int.negSucc 2147483647), (Int.ofNat 2147483647))), (3, (0, (Int.negSucc 2147483647), (Int.ofNat 2147483647))), (4, (0, (Int.negSucc 2147483647), (Int.ofNat 2147483647))), (5, (0, (Int.negSucc 2147483647), (Int.ofNat 2147483647)))] := ⟨_, _, _, _, rt_e97, by decide, by decide, by decide, by decide⟩
theorem rt_f98 : rt_ok 6 [(0, (10, (Int.ofNat 21), (Int.ofNat 0))), (1, (0, (Int.ofNat 1), (Int.ofNat 1))), (2, (0, (Int.negSucc 2147483647), (Int.ofNat 2147483647))), (3, (0, (Int.negSucc 2147483647), (Int.ofNat 2147483647))), (4, (0, (Int.negSucc 2147483647), (Int.ofNat 2147483647))), (5, (0, (Int.negSucc 2147483647), (Int.ofNat 2147483647)))] := ⟨_, _, _, _, rt_e98, by decide, by decide, by decide, by decide⟩
theorem rt_f99 : rt_ok 6 [(0, (10, (Int.ofNat 21), (Int.ofNat 0))), (1, (0, (Int.ofNat 0), (Int.ofNat 0))), (2, (0, (Int.negSucc 2147483647), (Int.ofNat 2147483647))), (3, (0, (Int.negSucc 2147483647), (Int.ofNat 2147483647))), (4, (0, (Int.negSucc 2147483647), (Int.ofNat 2147483647))), (5, (0, (Int.negSucc 2147483647), (Int.ofNat 2147483647)))] := ⟨_, _, _, _, rt_e99, by decide, by decide, by decide, by decide⟩
theorem rt_f100 : rt_ok 6 [(0, (10, (Int.ofNat 21), (Int.ofNat 0))), (1, (0, (Int.negSucc 2147483647), (Int.negSucc 0))), (2, (0, (Int.negSucc 2147483647), (Int.ofNat 2147483647))), (3, (0, (Int.negSucc 2147483647), (Int.ofNat 2147483647))), (4, (0, (Int.negSucc 2147483647), (Int.ofNat 2147483647))), (5, (0, (Int.negSucc 2147483647), (Int.ofNat 2147483647)))] := ⟨_, _, _, _, rt_e100, by decide, by decide, by decide, by decide⟩
theorem rt_f101 : rt_ok 6 [(0, (10, (Int.ofNat 22), (Int.ofNat 0))), (1, (0, (Int.ofNat 3), (Int.ofNat 2147483647))), (2, (0, (Int.negSucc 2147483647), (Int.ofNat 2147483647))), (3, (0, (Int.negSucc 2147483647), (Int.ofNat 2147483647))), (4, (0, (Int.negSucc 2147483647), (Int.ofNat 2147483647))), (5, (0, (Int.negSucc 2147483647), (Int.ofNat 2147483647)))] := ⟨_, _, _, _, rt_e101, by decide, by decide, by decide, by decide⟩
theorem rt_f102 : rt_ok 6 [(0, (10, (Int.ofNat 22), (Int.ofNat 0))), (1, (0, (Int.ofNat 0), (Int.ofNat 2))), (2, (0, (Int.negSucc 2147483647), (Int.ofNat 2147483647))), (3, (0, (Int.negSucc 2147483647), (Int.ofNat 2147483647))), (4, (0, (Int.negSucc 2147483647), (Int.ofNat 2147483647))), (5, (0, (Int.negSucc 2147483647), (Int.ofNat 2147483647)))] := ⟨_, _, _, _, rt_e102, by decide, by decide, by decide, by decide⟩
theorem rt_f103 : rt_ok 6 [(0, (10, (Int.ofNat 22), (Int.ofNat 0))), (1, (0, (Int.negSucc 2147483647), (Int.negSucc 0))), (2, (0, (Int.negSucc 2147483647), (Int.ofNat 2147483647))), (3, (0, (Int.negSucc 2147483647), (Int.ofNat 2147483647))), (4, (0, (Int.negSucc 2147483647), (Int.ofNat 2147483647))), (5, (0, (Int.negSucc 2147483647), (Int.ofNat 2147483647)))] := ⟨_, _, _, _, rt_e103, by decide, by decide, by decide, by decide⟩
theorem rt_f104 : rt_ok 6 [(0, (10, (Int.ofNat 23), (Int.ofNat 0))), (1, (0, (Int.ofNat 3), (Int.ofNat 2147483647))), (2, (0, (Int.negSucc 2147483647), (Int.ofNat 2147483647))), (3, (0, (Int.negSucc 2147483647), (Int.ofNat 2147483647))), (4, (0, (Int.negSucc 2147483647), (Int.ofNat 2147483647))), (5, (0, (Int.negSucc 2147483647), (Int.ofNat 2147483647)))] := ⟨_, _, _, _, rt_e104, by decide, by decide, by decide, by decide⟩
theorem rt_f105 : rt_ok 6 [(0, (10, (Int.ofNat 23), (Int.ofNat 0))), (1, (0, (Int.ofNat 2), (Int.ofNat 2))), (2, (0, (Int.negSucc 2147483647), (Int.ofNat 2147483647))), (3, (0, (Int.negSucc 2147483647), (Int.ofNat 2147483647))), (4, (0, (Int.negSucc 2147483647), (Int.ofNat 2147483647))), (5, (0, (Int.negSucc 2147483647), (Int.ofNat 2147483647)))] := ⟨_, _, _, _, rt_e105, by decide, by decide, by decide, by decide⟩
theorem rt_f106 : rt_ok 6 [(0, (10, (Int.ofNat 23), (Int.ofNat 0))), (1, (0, (Int.ofNat 1), (Int.ofNat 1))), (2, (0, (Int.negSucc 2147483647), (Int.ofNat 2147483647))), (3, (0, (Int.negSucc 2147483647), (Int.ofNat 2147483647))), (4, (0, (Int.negSucc 2147483647), (Int.ofNat 2147483647))), (5, (0, (Int.negSucc 2147483647), (Int.ofNat 2147483647)))] := ⟨_, _, _, _, rt_e106, by decide, by decide, by decide, by decide⟩
theorem rt_f107 : rt_ok 6 [(0, (10, (Int.ofNat 23), (Int.ofNat 0))), (1, (0, (Int.ofNat 0), (Int.ofNat 0))), (2, (0, (Int.negSucc 2147483647), (Int.ofNat 2147483647))), (3, (0, (Int.negSucc 2147483647), (Int.ofNat 2147483647))), (4, (0, (Int.negSucc 2147483647), (Int.ofNat 2147483647))), (5, (0, (Int.negSucc 2147483647), (Int.ofNat 2147483647)))] := ⟨_, _, _, _, rt_e107, by decide, by decide, by decide, by decide⟩
theorem rt_f108 : rt_ok 6 [(0, (10, (Int.ofNat 23), (Int.ofNat 0))), (1, (0, (Int.negSucc 2147483647), (Int.negSucc 0))), (2, (0, (Int.negSucc 2147483647), (Int.ofNat 2147483647))), (3, (0, (Int.negSucc 2147483647), (Int.ofNat 2147483647))), (4, (0, (Int.negSucc 2147483647), (Int.ofNat 2147483647))), (5, (0, (Int.negSucc 2147483647), (Int.ofNat 2147483647)))] := ⟨_, _, _, _, rt_e108, by decide, by decide, by decide, by decide⟩
theorem rt_f109 : rt_ok 6 [(0, (10, (Int.ofNat 24), (Int.ofNat 0))), (1, (0, (Int.negSucc 2147483647), (Int.ofNat 2147483647))), (2, (0, (Int.negSucc 2147483647), (Int.ofNat 2147483647))), (3, (0, (Int.negSucc 2147483647), (Int.ofNat 2147483647))), (4, (0, (Int.negSucc 2147483647), (Int.ofNat 2147483647))), (5, (0, (Int.negSucc 2147483647), (Int.ofNat 2147483647)))] := ⟨_, _, _, _, rt_e109, by decide, by decide, by decide, by decide⟩
theorem rt_f110 : rt_ok 6 [(0, (10, (Int.ofNat 25), (Int.ofNat 0))), (1, (0, (Int.ofNat 3), (Int.ofNat 2147483647))), (2, (0, (Int.negSucc 2147483647), (Int.ofNat 2147483647))), (3, (0, (Int.negSucc 2147483647), (Int.ofNat 2147483647))), (4, (0, (Int.negSucc 2147483647), (Int.ofNat 2147483647))), (5, (0, (Int.negSucc 2147483647), (Int.ofNat 2147483647)))] := ⟨_, _, _, _, rt_e110, by decide, by decide, by decide, by decide⟩
theorem rt_f111 : rt_ok 6 [(0, (10, (Int.ofNat 25), (Int.ofNat 0))), (1, (0, (Int.ofNat 0), (Int.ofNat 2))), (2, (0, (Int.negSucc 2147483647), (Int.ofNat 2147483647))), (3, (0, (Int.negSucc 2147483647), (Int.ofNat 2147483647))), (4, (0, (Int.negSucc 2147483647), (Int.ofNat 2147483647))), (5, (0, (Int.negSucc 2147483647), (Int.ofNat 2147483647)))] := ⟨_, _, _, _, rt_e111, by decide, by decide, by decide, by decide⟩
theorem rt_f112 : rt_ok 6 [(0, (10, (Int.ofNat 25), (Int.ofNat 0))), (1, (0, (Int.negSucc 2147483647), (Int.negSucc 0))), (2, (0, (Int.negSucc 2147483647), (Int.ofNat 2147483647))), (3, (0, (Int.negSucc 2147483647), (Int.ofNat 2147483647))), (4, (0, (Int.negSucc 2147483647), (Int.ofNat 2147483647))), (5, (0, (Int.negSucc 2147483647), (Int.ofNat 2147483647)))] := ⟨_, _, _, _, rt_e112, by decide, by decide, by decide, by decide⟩
theorem rt_f113 : rt_ok 6 [(0, (10, (Int.ofNat 26), (Int.ofNat 0))), (1, (0, (Int.negSucc 2147483647), (Int.ofNat 2147483647))), (2, (0, (Int.negSucc 2147483647), (Int.ofNat 2147483647))), (3, (0, (Int.negSucc 2147483647), (Int.ofNat 2147483647))), (4, (0, (Int.negSucc 2147483647), (Int.ofNat 2147483647))), (5, (0, (Int.negSucc 2147483647), (Int.ofNat 2147483647)))] := ⟨_, _, _, _, rt_e113, by decide, by decide, by decide, by decide⟩
theorem rt_f114 : rt_ok 6 [(0, (10, (Int.ofNat 27), (Int.ofNat 0))), (1, (0, (Int.negSucc 2147483647), (Int.ofNat 2147483647))), (2, (0, (Int.negSucc 2147483647), (Int.ofNat 2147483647))), (3, (0, (Int.negSucc 2147483647), (Int.ofNat 2147483647))), (4, (0, (Int.negSucc 2147483647), (Int.ofNat 2147483647))), (5, (0, (Int.negSucc 2147483647), (Int.ofNat 2147483647)))] := ⟨_, _, _, _, rt_e114, by decide, by decide, by decide, by decide⟩
theorem rt_f115 : rt_ok 6 [(0, (10, (Int.ofNat 28), (Int.ofNat 0))), (1, (0, (Int.negSucc 2147483647), (Int.ofNat 2147483647))), (2, (0, (Int.negSucc 2147483647), (Int.ofNat 2147483647))), (3, (0, (Int.negSucc 2147483647), (Int.ofNat 2147483647))), (4, (0, (Int.negSucc 2147483647), (Int.ofNat 2147483647))), (5, (0, (Int.negSucc 2147483647), (Int.ofNat 2147483647)))] := ⟨_, _, _, _, rt_e115, by decide, by decide, by decide, by decide⟩
theorem rt_f116 : rt_ok 6 [(0, (10, (Int.ofNat 29), (Int.ofNat 0))), (1, (0, (Int.negSucc 2147483647), (Int.ofNat 2147483647))), (2, (0, (Int.negSucc 2147483647), (Int.ofNat 2147483647))), (3, (0, (Int.negSucc 2147483647), (Int.ofNat 2147483647))), (4, (0, (Int.negSucc 2147483647), (Int.ofNat 2147483647))), (5, (0, (Int.negSucc 2147483647), (Int.ofNat 2147483647)))] := ⟨_, _, _, _, rt_e116, by decide, by decide, by decide, by decide⟩
theorem rt_f117 : rt_ok 6 [(0, (10, (Int.ofNat 30), (Int.ofNat 0))), (1, (0, (Int.negSucc 2147483647), (Int.negSucc 0))), (2, (0, (Int.negSucc 2147483647), (Int.negSucc 0))), (3, (0, (Int.negSucc 2147483647), (Int.ofNat 2147483647))), (4, (0, (Int.negSucc 2147483647), (Int.ofNat 2147483647))), (5, (0, (Int.negSucc 2147483647), (Int.ofNat 2147483647)))] := ⟨_, _, _, _, rt_e117, by decide, by decide, by decide, by decide⟩
theorem rt_f118 : rt_ok 6 [(0, (10, (Int.ofNat 30), (Int.ofNat 0))), (1, (0, (Int.negSucc 2147483647), (Int.negSucc 0))), (2, (0, (Int.ofNat 0), (Int.ofNat 0))), (3, (0, (Int.negSucc 2147483647), (Int.ofNat 2147483647))), (4, (0, (Int.negSucc 2147483647), (Int.ofNat 2147483647))), (5, (0, (Int.negSucc 2147483647), (Int.ofNat 2147483647)))] := ⟨_, _, _, _, rt_e118, by decide, by decide, by decide, by decide⟩
theorem rt_f119 : rt_ok 6 [(0, (10, (Int.ofNat 30), (Int.ofNat 0))), (1, (0, (Int.negSucc 2147483647), (Int.negSucc 0))), (2, (0, (Int.ofNat 1), (Int.ofNat 1))), (3, (0, (Int.negSucc 2147483647), (Int.ofNat 2147483647))), (4, (0, (Int.negSucc 2147483647), (Int.ofNat 2147483647))), (5, (0, (Int.negSucc 2147483647), (Int.ofNat 2147483647)))] := ⟨_, _, _, _, rt_e119, by decide, by decide, by decide, by decide⟩
theorem rt_f120 : rt_ok 6 [(0, (10, (Int.ofNat 30), (Int.ofNat 0))), (1, (0, (Int.negSucc 2147483647), (Int.negSucc 0))), (2, (0, (Int.ofNat 2), (Int.ofNat 255))), (3, (0, (Int.negSucc 2147483647), (Int.ofNat 2147483647))), (4, (0, (Int.negSucc 2147483647), (Int.ofNat 2147483647))), (5, (0, (Int.negSucc 2147483647), (Int.ofNat 2147483647)))] := ⟨_, _, _, _, rt_e120, by decide, by decide, by decide, by decide⟩
theorem rt_f121 : rt_ok 6 [(0, (10, (Int.ofNat 30), (Int.ofNat 0))), (1, (0, (Int.negSucc 2147483647), (Int.negSucc 0))), (2, (0, (Int.ofNat 256), (Int.ofNat 2147483647))), (3, (0, (Int.negSucc 2147483647), (Int.ofNat 2147483647))), (4, (0, (Int.negSucc 2147483647), (Int.ofNat 2147483647))), (5, (0, (Int.negSucc 2147483647), (Int.ofNat 2147483647)))] := ⟨_, _, _, _, rt_e121, by decide, by decide, by decide, by decide⟩
theorem rt_f122 : rt_ok 6 [(0, (10, (Int.ofNat 30), (Int.ofNat 0))), (1, (0, (Int.ofNat 0), (Int.ofNat 0))), (2, (0, (Int.negSucc 2147483647), (Int.negSucc 0))), (3, (0, (Int.negSucc 2147483647), (Int.ofNat 2147483647))), (4, (0, (Int.negSucc 2147483647), (Int.ofNat 2147483647))), (5, (0, (Int.negSucc 2147483647), (Int.ofNat 2147483647)))] := ⟨_, _, _, _, rt_e122, by decide, by decide, by decide, by decide⟩
theorem rt_f123 : rt_ok 6 [(0, (10, (Int.ofNat 30), (Int.ofNat 0))), (1, (0, (Int.ofNat 0), (Int.ofNat 0))), (2, (0, (Int.ofNat 0), (Int.ofNat 0))), (3, (0, (Int.negSucc 2147483647), (Int.ofNat 2147483647))), (4, (0, (Int.negSucc 2147483647), (Int.ofNat 2147483647))), (5, (0, (Int.negSucc 2147483647), (Int.ofNat 2147483647)))] := ⟨_, _, _, _, rt_e123, by decide, by decide, by decide, by decide⟩
theorem rt_f124 : rt_ok 6 [(0, (10, (Int.ofNat 30), (Int.ofNat 0))), (1, (0, (Int.ofNat 0), (Int.ofNat 0))), (2, (0, (Int.ofNat 1), (Int.ofNat 1))), (3, (0, (Int.negSucc 2147483647), (Int.ofNat 2147483647))), (4, (0, (Int.negSucc 2147483647), (Int.ofNat 2147483647))), (5, (0, (Int.negSucc 2147483647), (Int.ofNat 2147483647)))] := ⟨_, _, _, _, rt_e124, by decide, by decide, by decide, by decide⟩
theorem rt_f125 : rt_ok 6 [(0, (10, (Int.ofNat 30), (Int.ofNat 0))), (1, (0, (Int.ofNat 0), (Int.ofNat 0))), (2, (0, (Int.ofNat 2), (Int.ofNat 255))), (3, (0, (Int.negSucc 2147483647), (Int.ofNat 2147483647))), (4, (0, (Int.negSucc 2147483647), (Int.ofNat 2147483647))), (5, (0, (Int.negSucc 2147483647), (Int.ofNat 2147483647)))] := ⟨_, _, _, _, rt_e125, by decide, by decide, by decide, by decide⟩
theorem rt_f126 : rt_ok 6 [(0, (10, (Int.ofNat 30), (Int.ofNat 0))), (1, (0, (Int.ofNat 0), (Int.ofNat 0))), (2, (0, (Int.ofNat 256), (Int.ofNat 2147483647))), (3, (0, (Int.negSucc 2147483647), (Int.ofNat 2147483647))), (4, (0, (Int.negSucc 2147483647), (Int.ofNat 2147483647))), (5, (0, (Int.negSucc 2147483647), (Int.ofNat 2147483647)))] := ⟨_, _, _, _, rt_e126, by decide, by decide, by decide, by decide⟩
theorem rt_f127 : rt_ok 6 [(0, (10, (Int.ofNat 30), (Int.ofNat 0))), (1, (0, (Int.ofNat 1), (Int.ofNat 1))), (2, (0, (Int.negSucc 2147483647), (Int.negSucc 0))), (3, (0, (Int.negSucc 2147483647), (Int.ofNat 2147483647))), (4, (0, (Int.negSucc 2147483647), (Int.ofNat 2147483647))), (5, (0, (Int.negSucc 2147483647), (Int.ofNat 2147483647)))] := ⟨_, _, _, _, rt_e127, by decide, by decide, by decide, by decide⟩
theorem rt_f128 : rt_ok 6 [(0, (10, (Int.ofNat 30), (Int.ofNat 0))), (1, (0, (Int.ofNat 1), (Int.ofNat 1))), (2, (0, (Int.ofNat 0), (Int.ofNat 0))), (3, (0, (Int.negSucc 2147483647), (Int.ofNat 2147483647))), (4, (0, (Int.negSucc 2147483647), (Int.ofNat 2147483647))), (5, (0, (Int.negSucc 2147483647), (Int.ofNat 2147483647)))] := ⟨_, _, _, _, rt_e128, by decide, by decide, by decide, by decide⟩
theorem rt_f129 : rt_ok 6 [(0, (10, (Int.ofNat 30), (Int.ofNat 0))), (1, (0, (Int.ofNat 1), (Int.ofNat 1))), (2, (0, (Int.ofNat 1), (Int.ofNat 1))), (3, (0, (Int.negSucc 2147483647), (Int.ofNat 2147483647))), (4, (0, (Int.negSucc 2147483647), (Int.ofNat 2147483647))), (5, (0, (Int.negSucc 2147483647), (Int.ofNat 2147483647)))] := ⟨_, _, _, _, rt_e129, by decide, by decide, by decide, by decide⟩
theorem rt_f130 : rt_ok 6 [(0, (10, (Int.ofNat 30), (Int.ofNat 0))), (1, (0, (Int.ofNat 1), (Int.ofNat 1))), (2, (0, (Int.ofNat 2), (Int.ofNat 255))), (3, (0, (Int.negSucc 2147483647), (Int.ofNat 2147483647))), (4, (0, (Int.negSucc 2147483647), (Int.ofNat 2147483647))), (5, (0, (Int.negSucc 2147483647), (Int.ofNat 2147483647)))] := ⟨_, _, _, _, rt_e130, by decide, by decide, by decide, by decide⟩
theorem rt_f131 : rt_ok 6 [(0, (10, (Int.ofNat 30), (Int.ofNat 0))), (1, (0, (Int.ofNat 1), (Int.ofNat 1))), (2, (0, (Int.ofNat 256), (Int.ofNat 2147483647))), (3, (0, (Int.negSucc 2147483647), (Int.ofNat 2147483647))), (4, (0, (Int.negSucc 2147483647), (Int.ofNat 2147483647))), (5, (0, (Int.negSucc 2147483647), (Int.ofNat 2147483647)))] := ⟨_, _, _, _, rt_e131, by decide, by decide, by decide, by decide⟩
theorem rt_f132 : rt_ok 6 [(0, (10, (Int.ofNat 30), (Int.ofNat 0))), (1, (0, (Int.ofNat 2), (Int.ofNat 2147483647))), (2, (0, (Int.negSucc 2147483647), (Int.negSucc 0))), (3, (0, (Int.negSucc 2147483647), (Int.ofNat 2147483647))), (4, (0, (Int.negSucc 2147483647), (Int.ofNat 2147483647))), (5, (0, (Int.negSucc 2147483647), (Int.ofNat 2147483647)))] := ⟨_, _, _, _, rt_e132, by decide, by decide, by decide, by decide⟩
theorem rt_f133 : rt_ok 6 [(0, (10, (Int.ofNat 30), (Int.ofNat 0))), (1, (0, (Int.ofNat 2), (Int.ofNat 2147483647))), (2, (0, (Int.ofNat 0), (Int.ofNat 0))), (3, (0, (Int.negSucc 2147483647), (Int.ofNat 2147483647))), (4, (0, (Int.negSucc 2147483647), (Int.ofNat 2147483647))), (5, (0, (Int.negSucc 2147483647), (Int.ofNat 2147483647)))] := ⟨_, _, _, _, rt_e133, by decide, by decide, by decide, by decide⟩
theorem rt_f134 : rt_ok 6 [(0, (10, (Int.ofNat 30), (Int.ofNat 0))), (1, (0, (Int.ofNat 2), (Int.ofNat 2147483647))), (2, (0, (Int.ofNat 1), (Int.ofNat 1))), (3, (0, (Int.negSucc 2147483647), (Int.ofNat 2147483647))), (4, (0, (Int.negSucc 2147483647), (Int.ofNat 2147483647))), (5, (0, (Int.negSucc 2147483647), (Int.ofNat 2147483647)))] := ⟨_, _, _, _, rt_e134, by decide, by decide, by decide, by decide⟩
theorem rt_f135 : rt_ok 6 [(0, (10, (Int.ofNat 30), (Int.ofNat 0))), (1, (0, (Int.ofNat 2), (Int.ofNat 2147483647))), (2, (0, (Int.ofNat 2), (Int.ofNat 255))), (3, (0, (Int.negSucc 2147483647), (Int.ofNat 2147483647))), (4, (0, (Int.negSucc 2147483647), (Int.ofNat 2147483647))), (5, (0, (Int.negSucc 2147483647), (Int.ofNat 2147483647)))] := ⟨_, _, _, _, rt_e135, by decide, by decide, by decide, by decide⟩
theorem rt_f136 : rt_ok 6 [(0, (10, (Int.ofNat 30), (Int.ofNat 0))), (1, (0, (Int.ofNat 2), (Int.ofNat 2147483647))), (2, (0, (Int.ofNat 256), (Int.ofNat 2147483647))), (3, (0, (Int.negSucc 2147483647), (Int.ofNat 2147483647))), (4, (0, (Int.negSucc 2147483647), (Int.ofNat 2147483647))), (5, (0, (Int.negSucc 2147483647), (Int.ofNat 2147483647)))] := ⟨_, _, _, _, rt_e136, by decide, by decide, by decide, by decide⟩
theorem rt_f137 : rt_ok 6 [(0, (10, (Int.ofNat 31), (Int.ofNat 0))), (1, (0, (Int.negSucc 2147483647), (Int.ofNat 2147483647))), (2, (0, (Int.negSucc 2147483647), (Int.ofNat 2147483647))), (3, (0, (Int.negSucc 2147483647), (Int.ofNat 2147483647))), (4, (0, (Int.negSucc 2147483647), (Int.ofNat 2147483647))), (5, (0, (Int.negSucc 2147483647), (Int.ofNat 2147483647)))] := ⟨_, _, _, _, rt_e137, by decide, by decide, by decide, by decide⟩
theorem rt_f138 : rt_ok 6 [(0, (10, (Int.ofNat 32), (Int.ofNat 0))), (1, (0, (Int.ofNat 1), (Int.ofNat 2147483647))), (2, (0, (Int.negSucc 2147483647), (Int.ofNat 2147483647))), (3, (0, (Int.negSucc 2147483647), (Int.ofNat 2147483647))), (4, (0, (Int.negSucc 2147483647), (Int.ofNat 2147483647))), (5, (0, (Int.negSucc 2147483647), (Int.ofNat 2147483647)))] := ⟨_, _, _, _, rt_e138, by decide, by decide, by decide, by decide⟩
theorem rt_f139 : rt_ok 6 [(0, (10, (Int.ofNat 32), (Int.ofNat 0))), (1, (0, (Int.ofNat 0), (Int.ofNat 0))), (2, (0, (Int.negSucc 2147483647), (Int.ofNat 2147483647))), (3, (0, (Int.negSucc 2147483647), (Int.ofNat 2147483647))), (4, (0, (Int.negSucc 2147483647), (Int.ofNat 2147483647))), (5, (0, (Int.negSucc 2147483647), (Int.ofNat 2147483647)))] := ⟨_, _, _, _, rt_e139, by decide, by decide, by decide, by decide⟩
theorem rt_f140 : rt_ok 6 [(0, (10, (Int.ofNat 32), (Int.ofNat 0))), (1, (0, (Int.negSucc 2147483647), (Int.negSucc 0))), (2, (0, (Int.negSucc 2147483647), (Int.ofNat 2147483647))), (3, (0, (Int.negSucc 2147483647), (Int.ofNat 2147483647))), (4, (0, (Int.negSucc 2147483647), (Int.ofNat 2147483647))), (5, (0, (Int.negSucc 2147483647), (Int.ofNat 2147483647)))] := ⟨_, _, _, _, rt_e140, by decide, by decide, by decide, by decide⟩
theorem rt_f141 : rt_ok 6 [(0, (10, (Int.ofNat 33), (Int.ofNat 0))), (1, (0, (Int.ofNat 1), (Int.ofNat 2147483647))), (2, (0, (Int.negSucc 2147483647), (Int.ofNat 2147483647))), (3, (0, (Int.negSucc 2147483647), (Int.ofNat 2147483647))), (4, (0, (Int.negSucc 2147483647), (Int.ofNat 2147483647))), (5, (0, (Int.negSucc 2147483647), (Int.ofNat 2147483647)))] := ⟨_, _, _, _, rt_e141, by decide, by decide, by decide, by decide⟩
theorem rt_f142 : rt_ok 6 [(0, (10, (Int.ofNat 33), (Int.ofNat 0))), (1, (0, (Int.ofNat 0), (Int.ofNat 0))), (2, (0, (Int.negSucc 2147483647), (Int.ofNat 2147483647))), (3, (0, (Int.negSucc 2147483647), (Int.ofNat 2147483647))), (4, (0, (Int.negSucc 2147483647), (Int.ofNat 2147483647))), (5, (0, (Int.negSucc 2147483647), (Int.ofNat 2147483647)))] := ⟨_, _, _, _, rt_e142, by decide, by decide, by decide, by decide⟩
theorem rt_f143 : rt_ok 6 [(0, (10, (Int.ofNat 33), (Int.ofNat 0))), (1, (0, (Int.negSucc 2147483647), (Int.negSucc 0))), (2, (0, (Int.negSucc 2147483647), (Int.ofNat 2147483647))), (3, (0, (Int.negSucc 2147483647), (Int.ofNat 2147483647))), (4, (0, (Int.negSucc 2147483647), (Int.ofNat 2147483647))), (5, (0, (Int.negSucc 2147483647), (Int.ofNat 2147483647)))] := ⟨_, _, _, _, rt_e143, by decide, by decide, by decide, by decide⟩
theorem rt_f144 : rt_ok 6 [(0, (10, (Int.ofNat 34), (Int.ofNat 0))), (1, (0, (Int.ofNat 1), (Int.ofNat 2147483647))), (2, (0, (Int.negSucc 2147483647), (Int.ofNat 2147483647))), (3, (0, (Int.negSucc 2147483647), (Int.ofNat 2147483647))), (4, (0, (Int.negSucc 2147483647), (Int.ofNat 2147483647))), (5, (0, (Int.negSucc 2147483647), (Int.ofNat 2147483647)))] := ⟨_, _, _, _, rt_e144, by decide, by decide, by decide, by decide⟩
theorem rt_f145 : rt_ok 6 [(0, (10, (Int.ofNat 34), (Int.ofNat 0))), (1, (0, (Int.ofNat 0), (Int.ofNat 0))), (2, (0, (Int.negSucc 2147483647), (Int.ofNat 2147483647))), (3, (0, (Int.negSucc 2147483647), (Int.ofNat 2147483647))), (4, (0, (Int.negSucc 2147483647), (Int.ofNat 2147483647))), (5, (0, (Int.negSucc 2147483647), (Int.ofNat 2147483647)))] := ⟨_, _, _, _, rt_e145, by decide, by decide, by decide, by decide⟩
theorem rt_f146 : rt_ok 6 [(0, (10, (Int.ofNat 34), (Int.ofNat 0))), (1, (0, (Int.negSucc 2147483647), (Int.negSucc 0))), (2, (0, (Int.negSucc 2147483647), (Int.ofNat 2147483647))), (3, (0, (Int.negSucc 2147483647), (Int.ofNat 2147483647))), (4, (0, (Int.negSucc 2147483647), (Int.ofNat 2147483647))), (5, (0, (Int.negSucc 2147483647), (Int.ofNat 2147483647)))] := ⟨_, _, _, _, rt_e146, by decide, by decide, by decide, by decide⟩
theorem rt_f147 : rt_ok 6 [(0, (10, (Int.ofNat 35), (Int.ofNat 0))), (1, (0, (Int.negSucc 2147483647), (Int.ofNat 2147483647))), (2, (0, (Int.negSucc 2147483647), (Int.ofNat 2147483647))), (3, (0, (Int.negSucc 2147483647), (Int.ofNat 2147483647))), (4, (0, (Int.negSucc 2147483647), (Int.ofNat 2147483647))), (5, (0, (Int.negSucc 2147483647), (Int.ofNat 2147483647)))] := ⟨_, _, _, _, rt_e147, by decide, by decide, by decide, by decide⟩
theorem rt_f148 : rt_ok 6 [(0, (10, (Int.ofNat 36), (Int.ofNat 0))), (1, (0, (Int.negSucc 2147483647), (Int.ofNat 2147483647))), (2, (0, (Int.negSucc 2147483647), (Int.ofNat 2147483647))), (3, (0, (Int.negSucc 2147483647), (Int.ofNat 2147483647))), (4, (0, (Int.negSucc 2147483647), (Int.ofNat 2147483647))), (5, (0, (Int.negSucc 2147483647), (Int.ofNat 2147483647)))] := ⟨_, _, _, _, rt_e148, by decide, by decide, by decide, by decide⟩
theorem rt_f149 : rt_ok 6 [(0, (10, (Int.ofNat 37), (Int.ofNat 0))), (1, (0, (Int.negSucc 2147483647), (Int.ofNat 2147483647))), (2, (0, (Int.negSucc 2147483647), (Int.ofNat 2147483647))), (3, (0, (Int.negSucc 2147483647), (Int.ofNat 2147483647))), (4, (0, (Int.negSucc 2147483647), (Int.ofNat 2147483647))), (5, (0, (Int.negSucc 2147483647), (Int.ofNat 2147483647)))] := ⟨_, _, _, _, rt_e149, by decide, by decide, by decide, by decide⟩
theorem rt_f150 : rt_ok 6 [(0, (10, (Int.ofNat 38), (Int.ofNat 0))), (1, (0, (Int.ofNat 1), (Int.ofNat 2147483647))), (2, (0, (Int.negSucc 2147483647), (Int.ofNat 2147483647))), (3, (0, (Int.negSucc 2147483647), (Int.ofNat 2147483647))), (4, (0, (Int.negSucc 2147483647), (Int.ofNat 2147483647))), (5, (0, (Int.negSucc 2147483647), (Int.ofNat 2147483647)))] := ⟨_, _, _, _, rt_e150, by decide, by decide, by decide, by decide⟩
theorem rt_f151 : rt_ok 6 [(0, (10, (Int.ofNat 38), (Int.ofNat 0))), (1, (0, (Int.ofNat 0), (Int.ofNat 0))), (2, (0, (Int.ofNat 1), (Int.ofNat 2147483647))), (3, (0, (Int.negSucc 2147483647), (Int.ofNat 2147483647))), (4, (0, (Int.negSucc 2147483647), (Int.ofNat 2147483647))), (5, (0, (Int.negSucc 2147483647), (Int.ofNat 2147483647)))] := ⟨_, _, _, _, rt_e151, by decide, by decide, by decide, by decide⟩
theorem rt_f152 : rt_ok 6 [(0, (10, (Int.ofNat 38), (Int.ofNat 0))), (1, (0, (Int.ofNat 0), (Int.ofNat 0))), (2, (0, (Int.ofNat 0), (Int.ofNat 0))), (3, (0, (Int.negSucc 2147483647), (Int.ofNat 2147483647))), (4, (0, (Int.negSucc 2147483647), (Int.ofNat 2147483647))), (5, (0, (Int.negSucc 2147483647), (Int.ofNat 2147483647)))] := ⟨_, _, _, _, rt_e152, by decide, by decide, by decide, by decide⟩
theorem rt_f153 : rt_ok 6 [(0, (10, (Int.ofNat 38), (Int.ofNat 0))), (1, (0, (Int.ofNat 0), (Int.ofNat 0))), (2, (0, (Int.negSucc 2147483647), (Int.negSucc 0))), (3, (0, (Int.negSucc 2147483647), (Int.ofNat 2147483647))), (4, (0, (Int.negSucc 2147483647), (Int.ofNat 2147483647))), (5, (0, (Int.negSucc 2147483647), (Int.ofNat 2147483647)))] := ⟨_, _, _, _, rt_e153, by decide, by decide, by decide, by decide⟩
theorem rt_f154 : rt_ok 6 [(0, (10, (Int.ofNat 38), (Int.ofNat 0))), (1, (0, (Int.negSucc 2147483647), (Int.negSucc 0))), (2, (0, (Int.negSucc 2147483647), (Int.ofNat 2147483647))), (3, (0, (Int.negSucc 2147483647), (Int.ofNat 2147483647))), (4, (0, (Int.negSucc 2147483647), (Int.ofNat 2147483647))), (5, (0, (Int.negSucc 2147483647), (Int.ofNat 2147483647)))] := ⟨_, _, _, _, rt_e154, by decide, by decide, by decide, by decide⟩
theorem rt_f155 : rt_ok 6 [(0, (10, (Int.ofNat 39), (Int.ofNat 0))), (1, (0, (Int.negSucc 2147483647), (Int.ofNat 2147483647))), (2, (0, (Int.negSucc 2147483647), (Int.ofNat 2147483647))), (3, (0, (Int.negSucc 2147483647), (Int.ofNat 2147483647))), (4, (0, (Int.negSucc 2147483647), (Int.ofNat 2147483647))), (5, (0, (Int.negSucc 2147483647), (Int.ofNat 2147483647)))] := ⟨_, _, _, _, rt_e155, by decide, by decide, by decide, by decide⟩
theorem rt_f156 : rt_ok 6 [(0, (10, (Int.ofNat 40), (Int.ofNat 0))), (1, (0, (Int.negSucc 2147483647), (Int.ofNat 2147483647))), (2, (0, (Int.negSucc 2147483647), (Int.ofNat 2147483647))), (3, (0, (Int.negSucc 2147483647), (Int.ofNat 2147483647))), (4, (0, (Int.negSucc 2147483647), (Int.ofNat 2147483647))), (5, (0, (Int.negSucc 2147483647), (Int.ofNat 2147483647)))] := ⟨_, _, _, _, rt_e156, by decide, by decide, by decide, by decide⟩
theorem rt_f157 : rt_ok 6 [(0, (10, (Int.ofNat 41), (Int.ofNat 0))), (1, (0, (Int.negSucc 2147483647), (Int.ofNat 2147483647))), (2, (0, (Int.negSucc 2147483647), (Int.ofNat 2147483647))), (3, (0, (Int.negSucc 2147483647), (Int.ofNat 2147483647))), (4, (0, (Int.negSucc 2147483647), (Int.ofNat 2147483647))), (5, (0, (Int.negSucc 2147483647), (Int.ofNat 2147483647)))] := ⟨_, _, _, _, rt_e157, by decide, by decide, by decide, by decide⟩
theorem rt_f158 : rt_ok 6 [(0, (10, (Int.ofNat 42), (Int.ofNat 0))), (1, (0, (Int.negSucc 2147483647), (Int.ofNat 2147483647))), (2, (0, (Int.negSucc 2147483647), (Int.ofNat 2147483647))), (3, (0, (Int.negSucc 2147483647), (Int.ofNat 2147483647))), (4, (0, (Int.negSucc 2147483647), (Int.ofNat 2147483647))), (5, (0, (Int.negSucc 2147483647), (Int.ofNat 2147483647)))] := ⟨_, _, _, _, rt_e158, by decide, by decide, by decide, by decide⟩
theorem rt_f159 : rt_ok 6 [(0, (10, (Int.ofNat 43), (Int.ofNat 0))), (1, (0, (Int.negSucc 2147483647), (Int.ofNat 2147483647))), (2, (0, (Int.negSucc 2147483647), (Int.ofNat 2147483647))), (3, (0, (Int.negSucc 2147483647), (Int.ofNat 2147483647))), (4, (0, (Int.negSucc 2147483647), (Int.ofNat 2147483647))), (5, (0, (Int.negSucc 2147483647), (Int.ofNat 2147483647)))] := ⟨_, _, _, _, rt_e159, by decide, by decide, by decide, by decide⟩
theorem rt_f160 : rt_ok 6 [(0, (10, (Int.ofNat 44), (Int.ofNat 0))), (1, (0, (Int.negSucc 2147483647), (Int.ofNat 2147483647))), (2, (0, (Int.negSucc 2147483647), (Int.ofNat 2147483647))), (3, (0, (Int.negSucc 2147483647), (Int.ofNat 2147483647))), (4, (0, (Int.negSucc 2147483647), (Int.ofNat 2147483647))), (5, (0, (Int.negSucc 2147483647), (Int.ofNat 2147483647)))] := ⟨_, _, _, _, rt_e160, by decide, by decide, by decide, by decide⟩
theorem rt_f161 : rt_ok 6 [(0, (10, (Int.ofNat 45), (Int.ofNat 0))), (1, (0, (Int.ofNat 0), (Int.ofNat 2147483647))), (2, (0, (Int.negSucc 2147483647), (Int.ofNat 2147483647))), (3, (0, (Int.negSucc 2147483647), (Int.ofNat 2147483647))), (4, (0, (Int.negSucc 2147483647), (Int.ofNat 2147483647))), (5, (0, (Int.negSucc 2147483647), (Int.ofNat 2147483647)))] := ⟨_, _, _, _, rt_e161, by decide, by decide, by decide, by decide⟩
theorem rt_f162 : rt_ok 6 [(0, (10, (Int.ofNat 45), (Int.ofNat 0))), (1, (0, (Int.negSucc 2147483647), (Int.negSucc 0))), (2, (0, (Int.negSucc 2147483647), (Int.ofNat 2147483647))), (3, (0, (Int.negSucc 2147483647), (Int.ofNat 2147483647))), (4, (0, (Int.negSucc 2147483647), (Int.ofNat 2147483647))), (5, (0, (Int.negSucc 2147483647), (Int.ofNat 2147483647)))] := ⟨_, _, _, _, rt_e162, by decide, by decide, by decide, by decide⟩
theorem rt_f163 : rt_ok 6 [(0, (10, (Int.ofNat 46), (Int.ofNat 0))), (1, (0, (Int.negSucc 2147483647), (Int.negSucc 0))), (2, (0, (Int.negSucc 2147483647), (Int.negSucc 0))), (3, (0, (Int.negSucc 2147483647), (Int.ofNat 2147483647))), (4, (0, (Int.negSucc 2147483647), (Int.ofNat 2147483647))), (5, (0, (Int.negSucc 2147483647), (Int.ofNat 2147483647)))] := ⟨_, _, _, _, rt_e163, by decide, by decide, by decide, by decide⟩
theorem rt_f164 : rt_ok 6 [(0, (10, (Int.ofNat 46), (Int.ofNat 0))), (1, (0, (Int.negSucc 2147483647), (Int.negSucc 0))), (2, (0, (Int.ofNat 0), (Int.ofNat 0))), (3, (0, (Int.negSucc 2147483647), (Int.ofNat 2147483647))), (4, (0, (Int.negSucc 2147483647), (Int.ofNat 2147483647))), (5, (0, (Int.negSucc 2147483647), (Int.ofNat 2147483647)))] := ⟨_, _, _, _, rt_e164, by decide, by decide, by decide, by decide⟩
theorem rt_f165 : rt_ok 6 [(0, (10, (Int.ofNat 46), (Int.ofNat 0))), (1, (0, (Int.negSucc 2147483647), (Int.negSucc 0))), (2, (0, (Int.ofNat 1), (Int.ofNat 1))), (3, (0, (Int.negSucc 2147483647), (Int.ofNat 2147483647))), (4, (0, (Int.negSucc 2147483647), (Int.ofNat 2147483647))), (5, (0, (Int.negSucc 2147483647), (Int.ofNat 2147483647)))] := ⟨_, _, _, _, rt_e165, by decide, by decide, by decide, by decide⟩
theorem rt_f166 : rt_ok 6 [(0, (10, (Int.ofNat 46), (Int.ofNat 0))), (1, (0, (Int.negSucc 2147483647), (Int.negSucc 0))), (2, (0, (Int.ofNat 2), (Int.ofNat 255))), (3, (0, (Int.negSucc 2147483647), (Int.ofNat 2147483647))), (4, (0, (Int.negSucc 2147483647), (Int.ofNat 2147483647))), (5, (0, (Int.negSucc 2147483647), (Int.ofNat 2147483647)))] := ⟨_, _, _, _, rt_e166, by decide, by decide, by decide, by decide⟩
theorem rt_f167 : rt_ok 6 [(0, (10, (Int.ofNat 46), (Int.ofNat 0))), (1, (0, (Int.negSucc 2147483647), (Int.negSucc 0))), (2, (0, (Int.ofNat 256), (Int.ofNat 2147483647))), (3, (0, (Int.negSucc 2147483647), (Int.ofNat 2147483647))), (4, (0, (Int.negSucc 2147483647), (Int.ofNat 2147483647))), (5, (0, (Int.negSucc 2147483647), (Int.ofNat 2147483647)))] := ⟨_, _, _, _, rt_e167, by decide, by decide, by decide, by decide⟩
theorem rt_f168 : rt_ok 6 [(0, (10, (Int.ofNat 46), (Int.ofNat 0))), (1, (0, (Int.ofNat 0), (Int.ofNat 0))), (2, (0, (Int.negSucc 2147483647), (Int.negSucc 0))), (3, (0, (Int.negSucc 2147483647), (Int.ofNat 2147483647))), (4, (0, (Int.negSucc 2147483647), (Int.ofNat 2147483647))), (5, (0, (Int.negSucc 2147483647), (Int.ofNat 2147483647)))] := ⟨_, _, _, _, rt_e168, by decide, by decide, by decide, by decide⟩
theorem rt_f169 : rt_ok 6 [(0, (10, (Int.ofNat 46), (Int.ofNat 0))), (1, (0, (Int.ofNat 0), (Int.ofNat 0))), (2, (0, (Int.ofNat 0), (Int.ofNat 0))), (3, (0, (Int.negSucc 2147483647), (Int.ofNat 2147483647))), (4, (0, (Int.negSucc 2147483647), (Int.ofNat 2147483647))), (5, (0, (Int.negSucc 2147483647), (Int.ofNat 2147483647)))] := ⟨_, _, _, _, rt_e169, by decide, by decide, by decide, by decide⟩
theorem rt_f170 : rt_ok 6 [(0, (10, (Int.ofNat 46), (Int.ofNat 0))), (1, (0, (Int.ofNat 0), (Int.ofNat 0))), (2, (0, (Int.ofNat 1), (Int.ofNat 1))), (3, (0, (Int.negSucc 2147483647), (Int.ofNat 2147483647))), (4, (0, (Int.negSucc 2147483647), (Int.ofNat 2147483647))), (5, (0, (Int.negSucc 2147483647), (Int.ofNat 2147483647)))] := ⟨_, _, _, _, rt_e170, by decide, by decide, by decide, by decide⟩
theorem rt_f171 : rt_ok 6 [(0, (10, (Int.ofNat 46), (Int.ofNat 0))), (1, (0, (Int.ofNat 0), (Int.ofNat 0))), (2, (0, (Int.ofNat 2), (Int.ofNat 255))), (3, (0, (Int.negSucc 2147483647), (Int.ofNat 2147483647))), (4, (0, (Int.negSucc 2147483647), (Int.ofNat 2147483647))), (5, (0, (Int.negSucc 2147483647), (Int.ofNat 2147483647)))] := ⟨_, _, _, _, rt_e171, by decide, by decide, by decide, by decide⟩
theorem rt_f172 : rt_ok 6 [(0, (10, (Int.ofNat 46), (Int.ofNat 0))), (1, (0, (Int.ofNat 0), (Int.ofNat 0))), (2, (0, (Int.ofNat 256), (Int.ofNat 2147483647))), (3, (0, (Int.negSucc 2147483647), (Int.ofNat 2147483647))), (4, (0, (Int.negSucc 2147483647), (Int.ofNat 2147483647))), (5, (0, (Int.negSucc 2147483647), (Int.ofNat 2147483647)))] := ⟨_, _, _, _, rt_e172, by decide, by decide, by decide, by decide⟩
theorem rt_f173 : rt_ok 6 [(0, (10, (Int.ofNat 46), (Int.ofNat 0))), (1, (0, (Int.ofNat 1), (Int.ofNat 1))), (2, (0, (Int.negSucc 2147483647), (Int.negSucc 0))), (3, (0, (Int.negSucc 2147483647), (Int.ofNat 2147483647))), (4, (0, (Int.negSucc 2147483647), (Int.ofNat 2147483647))), (5, (0, (Int.negSucc 2147483647), (Int.ofNat 2147483647)))] := ⟨_, _, _, _, rt_e173, by decide, by decide, by decide, by decide⟩
theorem rt_f174 : rt_ok 6 [(0, (10, (Int.ofNat 46), (Int.ofNat 0))), (1, (0, (Int.ofNat 1), (Int.ofNat 1))), (2, (0, (Int.ofNat 0), (Int.ofNat 0))), (3, (0, (Int.negSucc 2147483647), (Int.ofNat 2147483647))), (4, (0, (Int.negSucc 2147483647), (Int.ofNat 2147483647))), (5, (0, (Int.negSucc 2147483647), (Int.ofNat 2147483647)))] := ⟨_, _, _, _, rt_e174, by decide, by decide, by decide, by decide⟩
theorem rt_f175 : rt_ok 6 [(0, (10, (Int.ofNat 46), (Int.ofNat 0))), (1, (0, (Int.ofNat 1), (Int.ofNat 1))), (2, (0, (Int.ofNat 1), (Int.ofNat 1))), (3, (0, (Int.negSucc 2147483647), (Int.ofNat 2147483647))), (4, (0, (Int.negSucc 2147483647), (Int.ofNat 2147483647))), (5, (0, (Int.negSucc 2147483647), (Int.ofNat 2147483647)))] := ⟨_, _, _, _, rt_e175, by decide, by decide, by decide, by decide⟩
theorem rt_f176 : rt_ok 6 [(0, (10, (Int.ofNat 46), (Int.ofNat 0))), (1, (0, (Int.ofNat 1), (Int.ofNat 1))), (2, (0, (Int.ofNat 2), (Int.ofNat 255))), (3, (0, (Int.negSucc 2147483647), (Int.ofNat 2147483647))), (4, (0, (Int.negSucc 2147483647), (Int.ofNat 2147483647))), (5, (0, (Int.negSucc 2147483647), (Int.ofNat 2147483647)))] := ⟨_, _, _, _, rt_e176, by decide, by decide, by decide, by decide⟩
theorem rt_f177 : rt_ok 6 [(0, (10, (Int.ofNat 46), (Int.ofNat 0))), (1, (0, (Int.ofNat 1), (Int.ofNat 1))), (2, (0, (Int.ofNat 256), (Int.ofNat 2147483647))), (3, (0, (Int.negSucc 2147483647), (Int.ofNat 2147483647))), (4, (0, (Int.negSucc 2147483647), (Int.ofNat 2147483647))), (5, (0, (Int.negSucc 2147483647), (Int.ofNat 2147483647)))] := ⟨_, _, _, _, rt_e177, by decide, by decide, by decide, by decide⟩
theorem rt_f178 : rt_ok 6 [(0, (10, (Int.ofNat 46), (Int.ofNat 0))), (1, (0, (Int.ofNat 2), (Int.ofNat 59))), (2, (0, (Int.negSucc 2147483647), (Int.negSucc 0))), (3, (0, (Int.negSucc 2147483647), (Int.ofNat 2147483647))), (4, (0, (Int.negSucc 2147483647), (Int.ofNat 2147483647))), (5, (0, (Int.negSucc 2147483647), (Int.ofNat 2147483647)))] := ⟨_, _, _, _, rt_e178, by decide, by decide, by decide, by decide⟩
theorem rt_f179 : rt_ok 6 [(0, (10, (Int.ofNat 46), (Int.ofNat 0))), (1, (0, (Int.ofNat 2), (Int.ofNat 59))), (2, (0, (Int.ofNat 0), (Int.ofNat 0))), (3, (0, (Int.negSucc 2147483647), (Int.ofNat 2147483647))), (4, (0, (Int.negSucc 2147483647), (Int.ofNat 2147483647))), (5, (0, (Int.negSucc 2147483647), (Int.ofNat 2147483647)))] := ⟨_, _, _, _, rt_e179, by decide, by decide, by decide, by decide⟩
theorem rt_f180 : rt_ok 6 [(0, (10, (Int.ofNat 46), (Int.ofNat 0))), (1, (0, (Int.ofNat 2), (Int.ofNat 59))), (2, (0, (Int.ofNat 1), (Int.ofNat 1))), (3, (0, (Int.negSucc 2147483647), (Int.ofNat 2147483647))), (4, (0, (Int.negSucc 2147483647), (Int.ofNat 2147483647))), (5, (0, (Int.negSucc 2147483647), (Int.ofNat 2147483647)))] := ⟨_, _, _, _, rt_e180, by decide, by decide, by decide, by decide⟩
theorem rt_f181 : rt_ok 6 [(0, (10, (Int.ofNat 46), (Int.ofNat 0))), (1, (0, (Int.ofNat 2), (Int.ofNat 59))), (2, (0, (Int.ofNat 2), (Int.ofNat 255))), (3, (0, (Int.negSucc 2147483647), (Int.ofNat 2147483647))), (4, (0, (Int.negSucc 2147483647), (Int.ofNat 2147483647))), (5, (0, (Int.negSucc 2147483647), (Int.ofNat 2147483647)))] := ⟨_, _, _, _, rt_e181, by decide, by decide, by decide, by decide⟩
theorem rt_f182 : rt_ok 6 [(0, (10, (Int.ofNat 46), (Int.ofNat 0))), (1, (0, (Int.ofNat 2), (Int.ofNat 59))), (2, (0, (Int.ofNat 256), (Int.ofNat 2147483647))), (3, (0, (Int.negSucc 2147483647), (Int.ofNat 2147483647))), (4, (0, (Int.negSucc 2147483647), (Int.ofNat 2147483647))), (5, (0, (Int.negSucc 2147483647), (Int.ofNat 2147483647)))] := ⟨_, _, _, _, rt_e182, by decide, by decide, by decide, by decide⟩
theorem rt_f183 : rt_ok 6 [(0, (10, (Int.ofNat 46), (Int.ofNat 0))), (1, (0, (Int.ofNat 60), (Int.ofNat 2147483647))), (2, (0, (Int.negSucc 2147483647), (Int.negSucc 0))), (3, (0, (Int.negSucc 2147483647), (Int.ofNat 2147483647))), (4, (0, (Int.negSucc 2147483647), (Int.ofNat 2147483647))), (5, (0, (Int.negSucc 2147483647), (Int.ofNat 2147483647)))] := ⟨_, _, _, _, rt_e183, by decide, by decide, by decide, by decide⟩
theorem rt_f184 : rt_ok 6 [(0, (10, (Int.ofNat 46), (Int.ofNat 0))), (1, (0, (Int.ofNat 60), (Int.ofNat 2147483647))), (2, (0, (Int.ofNat 0), (Int.ofNat 0))), (3, (0, (Int.negSucc 2147483647), (Int.ofNat 2147483647))), (4, (0, (Int.negSucc 2147483647), (Int.ofNat 2147483647))), (5, (0, (Int.negSucc 2147483647), (Int.ofNat 2147483647)))] := ⟨_, _, _, _, rt_e184, by decide, by decide, by decide, by decide⟩
theorem rt_f185 : rt_ok 6 [(0, (10, (Int.ofNat 46), (Int.ofNat 0))), (1, (0, (Int.ofNat 60), (Int.ofNat 2147483647))), (2, (0, (Int.ofNat 1), (Int.ofNat 1))), (3, (0, (Int.negSucc 2147483647), (Int.ofNat 2147483647))), (4, (0, (Int.negSucc 2147483647), (Int.ofNat 2147483647))), (5, (0, (Int.negSucc 2147483647), (Int.ofNat 2147483647)))] := ⟨_, _, _, _, rt_e185, by decide, by decide, by decide, by decide⟩
theorem rt_f186 : rt_ok 6 [(0, (10, (Int.ofNat 46), (Int.ofNat 0))), (1, (0, (Int.ofNat 60), (Int.ofNat 2147483647))), (2, (0, (Int.ofNat 2), (Int.ofNat 255))), (3, (0, (Int.negSucc 2147483647), (Int.ofNat 2147483647))), (4, (0, (Int.negSucc 2147483647), (Int.ofNat 2147483647))), (5, (0, (Int.negSucc 2147483647), (Int.ofNat 2147483647)))] := ⟨_, _, _, _, rt_e186, by decide, by decide, by decide, by decide⟩
theorem rt_f187 : rt_ok 6 [(0, (10, (Int.ofNat 46), (Int.ofNat 0))), (1, (0, (Int.ofNat 60), (Int.ofNat 2147483647))), (2, (0, (Int.ofNat 256), (Int.ofNat 2147483647))), (3, (0, (Int.negSucc 2147483647), (Int.ofNat 2147483647))), (4, (0, (Int.negSucc 2147483647), (Int.ofNat 2147483647))), (5, (0, (Int.negSucc 2147483647), (Int.ofNat 2147483647)))] := ⟨_, _, _, _, rt_e187, by decide, by decide, by decide, by decide⟩
theorem rt_f188 : rt_ok 6 [(0, (10, (Int.ofNat 47), (Int.ofNat 0))), (1, (0, (Int.negSucc 2147483647), (Int.ofNat 2147483647))), (2, (0, (Int.negSucc 2147483647), (Int.ofNat 2147483647))), (3, (0, (Int.negSucc 2147483647), (Int.ofNat 2147483647))), (4, (0, (Int.negSucc 2147483647), (Int.ofNat 2147483647))), (5, (0, (Int.negSucc 2147483647), (Int.ofNat 2147483647)))] := ⟨_, _, _, _, rt_e188, by decide, by decide, by decide, by decide⟩
theorem rt_f189 : rt_ok 6 [(0, (10, (Int.ofNat 48), (Int.ofNat 0))), (1, (0, (Int.negSucc 2147483647), (Int.ofNat 2147483647))), (2, (0, (Int.negSucc 2147483647), (Int.ofNat 2147483647))), (3, (0, (Int.negSucc 2147483647), (Int.ofNat 2147483647))), (4, (0, (Int.negSucc 2147483647), (Int.ofNat 2147483647))), (5, (0, (Int.negSucc 2147483647), (Int.ofNat 2147483647)))] := ⟨_, _, _, _, rt_e189, by decide, by decide, by decide, by decide⟩
theorem rt_f190 : rt_ok 6 [(0, (10, (Int.ofNat 49), (Int.ofNat 0))), (1, (0, (Int.negSucc 2147483647), (Int.ofNat 2147483647))), (2, (0, (Int.negSucc 2147483647), (Int.ofNat 2147483647))), (3, (0, (Int.negSucc 2147483647), (Int.ofNat 2147483647))), (4, (0, (Int.negSucc 2147483647), (Int.ofNat 2147483647))), (5, (0, (Int.negSucc 2147483647), (Int.ofNat 2147483647)))] := ⟨_, _, _, _, rt_e190, by decide, by decide, by decide, by decide⟩
theorem rt_f191 : rt_ok 6 [(0, (10, (Int.ofNat 50), (Int.ofNat 0))), (1, (0, (Int.negSucc 2147483647), (Int.ofNat 2147483647))), (2, (0, (Int.negSucc 2147483647), (Int.ofNat 2147483647))), (3, (0, (Int.negSucc 2147483647), (Int.ofNat 2147483647))), (4, (0, (Int.negSucc 2147483647), (Int.ofNat 2147483647))), (5, (0, (Int.negSucc 2147483647), (Int.ofNat 2147483647)))] := ⟨_, _, _, _, rt_e191, by decide, by decide, by decide, by decide⟩
theorem rt_f192 : rt_ok 6 [(0, (10, (Int.ofNat 51), (Int.ofNat 0))), (1, (0, (Int.negSucc 2147483647), (Int.ofNat 2147483647))), (2, (0, (Int.negSucc 2147483647), (Int.ofNat 2147483647))), (3, (0, (Int.negSucc 2147483647), (Int.ofNat 2147483647))), (4, (0, (Int.negSucc 2147483647), (Int.ofNat 2147483647))), (5, (0, (Int.negSucc 2147483647), (Int.ofNat 2147483647)))] := ⟨_, _, _, _, rt_e192, by decide, by decide, by decide, by decide⟩
theorem rt_f193 : rt_ok 6 [(0, (10, (Int.ofNat 52), (Int.ofNat 0))), (1, (0, (Int.negSucc 2147483647), (Int.ofNat 2147483647))), (2, (0, (Int.negSucc 2147483647), (Int.ofNat 2147483647))), (3, (0, (Int.negSucc 2147483647), (Int.ofNat 2147483647))), (4, (0, (Int.negSucc 2147483647), (Int.ofNat 2147483647))), (5, (0, (Int.negSucc 2147483647), (Int.ofNat 2147483647)))] := ⟨_, _, _, _, rt_e193, by decide, by decide, by decide, by decide⟩
theorem rt_f194 : rt_ok 6 [(0, (10, (Int.ofNat 53), (Int.ofNat 0))), (1, (0, (Int.negSucc 2147483647), (Int.ofNat 2147483647))), (2, (0, (Int.negSucc 2147483647), (Int.ofNat 2147483647))), (3, (0, (Int.negSucc 2147483647), (Int.ofNat 2147483647))), (4, (0, (Int.negSucc 2147483647), (Int.ofNat 2147483647))), (5, (0, (Int.negSucc 2147483647), (Int.ofNat 2147483647)))] := ⟨_, _, _, _, rt_e194, by decide, by decide, by decide, by decide⟩
theorem rt_f195 : rt_ok 6 [(0, (10, (Int.ofNat 54), (Int.ofNat 0))), (1, (0, (Int.negSucc 2147483647), (Int.ofNat 2147483647))), (2, (0, (Int.negSucc 2147483647), (Int.ofNat 2147483647))), (3, (0, (Int.negSucc 2147483647), (Int.ofNat 2147483647))), (4, (0, (Int.negSucc 2147483647), (Int.ofNat 2147483647))), (5, (0, (Int.negSucc 2147483647), (Int.ofNat 2147483647)))] := ⟨_, _, _, _, rt_e195, by decide, by decide, by decide, by decide⟩
theorem rt_f196 : rt_ok 6 [(0, (10, (Int.ofNat 55), (Int.ofNat 0))), (1, (0, (Int.negSucc 2147483647), (Int.ofNat 2147483647))), (2, (0, (Int.negSucc 2147483647), (Int.ofNat 2147483647))), (3, (0, (Int.negSucc 2147483647), (Int.ofNat 2147483647))), (4, (0, (Int.negSucc 2147483647), (Int.ofNat 2147483647))), (5, (0, (Int.negSucc 2147483647), (Int.ofNat 2147483647)))] := ⟨_, _, _, _, rt_e196, by decide, by decide, by decide, by decide⟩
theorem rt_f197 : rt_ok 6 [(0, (10, (Int.ofNat 56), (Int.ofNat 0))), (1, (0, (Int.negSucc 2147483647), (Int.ofNat 2147483647))), (2, (0, (Int.negSucc 2147483647), (Int.ofNat 2147483647))), (3, (0, (Int.negSucc 2147483647), (Int.ofNat 2147483647))), (4, (0, (Int.negSucc 2147483647), (Int.ofNat 2147483647))), (5, (0, (Int.negSucc 2147483647), (Int.ofNat 2147483647)))] := ⟨_, _, _, _, rt_e197, by decide, by decide, by decide, by decide⟩
theorem rt_f198 : rt_ok 6 [(0, (10, (Int.ofNat 57), (Int.ofNat 0))), (1, (0, (Int.negSucc 2147483647), (Int.ofNat 2147483647))), (2, (0, (Int.negSucc 2147483647), (Int.ofNat 2147483647))), (3, (0, (Int.negSucc 2147483647), (Int.ofNat 2147483647))), (4, (0, (Int.negSucc 2147483647), (Int.ofNat 2147483647))), (5, (0, (Int.negSucc 2147483647), (Int.ofNat 2147483647)))] := ⟨_, _, _, _, rt_e198, by decide, by decide, by decide, by decide⟩
theorem rt_f199 : rt_ok 6 [(0, (10, (Int.ofNat 58), (Int.ofNat 0))), (1, (0, (Int.negSucc 2147483647), (Int.ofNat 2147483647))), (2, (0, (Int.negSucc 2147483647), (Int.ofNat 2147483647))), (3, (0, (Int.negSucc 2147483647), (Int.ofNat 2147483647))), (4, (0, (Int.negSucc 2147483647), (Int.ofNat 2147483647))), (5, (0, (Int.negSucc 2147483647), (Int.ofNat 2147483647)))] := ⟨_, _, _, _, rt_e199, by decide, by decide, by decide, by decide⟩
theorem rt_f200 : rt_ok 6 [(0, (10, (Int.ofNat 59), (Int.ofNat 0))), (1, (0, (Int.negSucc 2147483647), (Int.ofNat 2147483647))), (2, (0, (Int.negSucc 2147483647), (Int.ofNat 2147483647))), (3, (0, (Int.negSucc 2147483647), (Int.ofNat 2147483647))), (4, (0, (Int.negSucc 2147483647), (Int.ofNat 2147483647))), (5, (0, (Int.negSucc 2147483647), (Int.ofNat 2147483647)))] := ⟨_, _, _, _, rt_e200, by decide, by decide, by decide, by decide⟩
theorem rt_f201 : rt_ok 6 [(0, (10, (Int.ofNat 60), (Int.ofNat 0))), (1, (0, (Int.negSucc 2147483647), (Int.ofNat 2147483647))), (2, (0, (Int.negSucc 2147483647), (Int.ofNat 2147483647))), (3, (0, (Int.negSucc 2147483647), (Int.ofNat 2147483647))), (4, (0, (Int.negSucc 2147483647), (Int.ofNat 2147483647))), (5, (0, (Int.negSucc 2147483647), (Int.ofNat 2147483647)))] := ⟨_, _, _, _, rt_e201, by decide, by decide, by decide, by decide⟩
theorem rt_f202 : rt_ok 6 [(0, (10, (Int.ofNat 61), (Int.ofNat 0))), (1, (0, (Int.negSucc 2147483647), (Int.ofNat 2147483647))), (2, (0, (Int.negSucc 2147483647), (Int.ofNat 2147483647))), (3, (0, (Int.negSucc 2147483647), (Int.ofNat 2147483647))), (4, (0, (Int.negSucc 2147483647), (Int.ofNat 2147483647))), (5, (0, (Int.negSucc 2147483647), (Int.ofNat 2147483647)))] := ⟨_, _, _, _, rt_e202, by decide, by decide, by decide, by decide⟩
theorem rt_f203 : rt_ok 6 [(0, (10, (Int.ofNat 62), (Int.ofNat 0))), (1, (0, (Int.negSucc 2147483647), (Int.ofNat 2147483647))), (2, (0, (Int.negSucc 2147483647), (Int.ofNat 2147483647))), (3, (0, (Int.negSucc 2147483647), (Int.ofNat 2147483647))), (4, (0, (Int.negSucc 2147483647), (Int.ofNat 2147483647))), (5, (0, (Int.negSucc 2147483647), (Int.ofNat 2147483647)))] := ⟨_, _, _, _, rt_e203, by decide, by decide, by decide, by decide⟩
theorem rt_f204 : rt_ok 6 [(0, (10, (Int.ofNat 63), (Int.ofNat 0))), (1, (0, (Int.negSucc 2147483647), (Int.ofNat 2147483647))), (2, (0, (Int.negSucc 2147483647), (Int.ofNat 2147483647))), (3, (0, (Int.negSucc 2147483647), (Int.ofNat 2147483647))), (4, (0, (Int.negSucc 2147483647), (Int.ofNat 2147483647))), (5, (0, (Int.negSucc 2147483647), (Int.ofNat 2147483647)))] := ⟨_, _, _, _, rt_e204, by decide, by decide, by decide, by decide⟩
theorem rt_op0 {x1 x2 x3 x4 x5 : Int} (h1 : -2147483648 ≤ x1 ∧ x1 ≤ 2147483647) (h2 : -2147483648 ≤ x2 ∧ x2 ≤ 2147483647) (h3 : -2147483648 ≤ x3 ∧ x3 ≤ 2147483647) (h4 : -2147483648 ≤ x4 ∧ x4 ≤ 2147483647) (h5 : -2147483648 ≤ x5 ∧ x5 ≤ 2147483647) : rt_in 0 x1 x2 x3 x4 x5 := by
  exact ⟨(-2147483648), 2147483647, (-2147483648), 2147483647, (-2147483648), 2147483647, (-2147483648), 2147483647, (-2147483648), 2147483647, rt_f6, by omega, by omega, by omega, by omega, by omega⟩
theorem rt_op1 {x1 x2 x3 x4 x5 : Int} (h1 : -2147483648 ≤ x1 ∧ x1 ≤ 2147483647) (h2 : -2147483648 ≤ x2 ∧ x2 ≤ 2147483647) (h3 : -2147483648 ≤ x3 ∧ x3 ≤ 2147483647) (h4 : -2147483648 ≤ x4 ∧ x4 ≤ 2147483647) (h5 : -2147483648 ≤ x5 ∧ x5 ≤ 2147483647) : rt_in 1 x1 x2 x3 x4 x5 := by
  rcases Int.lt_or_le x1 0 with g | g
  ·
    exact ⟨(-2147483648), (-1), (-2147483648), 2147483647, (-2147483648), 2147483647, (-2147483648), 2147483647, (-2147483648), 2147483647, rt_f9, by omega, by omega, by omega, by omega, by omega⟩
  ·
    rcases Int.lt_or_le x1 1 with g | g
    ·
      exact ⟨0, 0, (-2147483648), 2147483647, (-2147483648), 2147483647, (-2147483648), 2147483647, (-2147483648), 2147483647, rt_f8, by omega, by omega, by omega, by omega, by omega⟩
    ·
      exact ⟨1, 2147483647, (-2147483648), 2147483647, (-2147483648), 2147483647, (-2147483648), 2147483647, (-2147483648), 2147483647, rt_f7, by omega, by omega, by omega, by omega, by omega⟩
theorem rt_op2 {x1 x2 x3 x4 x5 : Int} (h1 : -2147483648 ≤ x1 ∧ x1 ≤ 2147483647) (h2 : -2147483648 ≤ x2 ∧ x2 ≤ 2147483647) (h3 : -2147483648 ≤ x3 ∧ x3 ≤ 2147483647) (h4 : -2147483648 ≤ x4 ∧ x4 ≤ 2147483647) (h5 : -2147483648 ≤ x5 ∧ x5 ≤ 2147483647) : rt_in 2 x1 x2 x3 x4 x5 := by
  rcases Int.lt_or_le x1 0 with g | g
  ·
    exact ⟨(-2147483648), (-1), (-2147483648), 2147483647, (-2147483648), 2147483647, (-2147483648), 2147483647, (-2147483648), 2147483647, rt_f12, by omega, by omega, by omega, by omega, by omega⟩
  ·
    rcases Int.lt_or_le x1 8 with g | g
    ·
      exact ⟨0, 7, (-2147483648), 2147483647, (-2147483648), 2147483647, (-2147483648), 2147483647, (-2147483648), 2147483647, rt_f11, by omega, by omega, by omega, by omega, by omega⟩
    ·
      exact ⟨8, 2147483647, (-2147483648), 2147483647, (-2147483648), 2147483647, (-2147483648), 2147483647, (-2147483648), 2147483647, rt_f10, by omega, by omega, by omega, by omega, by omega⟩
theorem rt_op3 {x1 x2 x3 x4 x5 : Int} (h1 : -2147483648 ≤ x1 ∧ x1 ≤ 2147483647) (h2 : -2147483648 ≤ x2 ∧ x2 ≤ 2147483647) (h3 : -2147483648 ≤ x3 ∧ x3 ≤ 2147483647) (h4 : -2147483648 ≤ x4 ∧ x4 ≤ 2147483647) (h5 : -2147483648 ≤ x5 ∧ x5 ≤ 2147483647) : rt_in 3 x1 x2 x3 x4 x5 := by
  exact ⟨(-2147483648), 2147483647, (-2147483648), 2147483647, (-2147483648), 2147483647, (-2147483648), 2147483647, (-2147483648), 2147483647, rt_f13, by omega, by omega, by omega, by omega, by omega⟩
theorem rt_op4 {x1 x2 x3 x4 x5 : Int} (h1 : -2147483648 ≤ x1 ∧ x1 ≤ 2147483647) (h2 : -2147483648 ≤ x2 ∧ x2 ≤ 2147483647) (h3 : -2147483648 ≤ x3 ∧ x3 ≤ 2147483647) (h4 : -2147483648 ≤ x4 ∧ x4 ≤ 2147483647) (h5 : -2147483648 ≤ x5 ∧ x5 ≤ 2147483647) : rt_in 4 x1 x2 x3 x4 x5 := by
  rcases Int.lt_or_le x1 0 with g | g
  ·
    exact ⟨(-2147483648), (-1), (-2147483648), 2147483647, (-2147483648), 2147483647, (-2147483648), 2147483647, (-2147483648), 2147483647, rt_f23, by omega, by omega, by omega, by omega, by omega⟩
  ·
    rcases Int.lt_or_le x1 1 with g | g
    ·
      exact ⟨0, 0, (-2147483648), 2147483647, (-2147483648), 2147483647, (-2147483648), 2147483647, (-2147483648), 2147483647, rt_f22, by omega, by omega, by omega, by omega, by omega⟩
    ·
      rcases Int.lt_or_le x1 2 with g | g
      ·
        exact ⟨1, 1, (-2147483648), 2147483647, (-2147483648), 2147483647, (-2147483648), 2147483647, (-2147483648), 2147483647, rt_f21, by omega, by omega, by omega, by omega, by omega⟩
      ·
        rcases Int.lt_or_le x1 3 with g | g
        ·
          exact ⟨2, 2, (-2147483648), 2147483647, (-2147483648), 2147483647, (-2147483648), 2147483647, (-2147483648), 2147483647, rt_f20, by omega, by omega, by omega, by omega, by omega⟩
        ·
          rcases Int.lt_or_le x1 4 with g | g
          ·
            exact ⟨3, 3, (-2147483648), 2147483647, (-2147483648), 2147483647, (-2147483648), 2147483647, (-2147483648), 2147483647, rt_f19, by omega, by omega, by omega, by omega, by omega⟩
          ·
            rcases Int.lt_or_le x1 5 with g | g
            ·
              exact ⟨4, 4, (-2147483648), 2147483647, (-2147483648), 2147483647, (-2147483648), 2147483647, (-2147483648), 2147483647, rt_f18, by omega, by omega, by omega, by omega, by omega⟩
            ·
              rcases Int.lt_or_le x1 6 with g | g
              ·
                exact ⟨5, 5, (-2147483648), 2147483647, (-2147483648), 2147483647, (-2147483648), 2147483647, (-2147483648), 2147483647, rt_f17, by omega, by omega, by omega, by omega, by omega⟩
              ·
                rcases Int.lt_or_le x1 7 with g | g
                ·
                  exact ⟨6, 6, (-2147483648), 2147483647, (-2147483648), 2147483647, (-2147483648), 2147483647, (-2147483648), 2147483647, rt_f16, by omega, by omega, by omega, by omega, by omega⟩
                ·
                  rcases Int.lt_or_le x1 8 with g | g
                  ·
                    exact ⟨7, 7, (-2147483648), 2147483647, (-2147483648), 2147483647, (-2147483648), 2147483647, (-2147483648), 2147483647, rt_f15, by omega, by omega, by omega, by omega, by omega⟩
                  ·
                    exact ⟨8, 2147483647, (-2147483648), 2147483647, (-2147483648), 2147483647, (-2147483648), 2147483647, (-2147483648), 2147483647, rt_f14, by omega, by omega, by omega, by omega, by omega⟩
theorem rt_op5 {x1 x2 x3 x4 x5 : Int} (h1 : -2147483648 ≤ x1 ∧ x1 ≤ 2147483647) (h2 : -2147483648 ≤ x2 ∧ x2 ≤ 2147483647) (h3 : -2147483648 ≤ x3 ∧ x3 ≤ 2147483647) (h4 : -2147483648 ≤ x4 ∧ x4 ≤ 2147483647) (h5 : -2147483648 ≤ x5 ∧ x5 ≤ 2147483647) : rt_in 5 x1 x2 x3 x4 x5 := by
  rcases Int.lt_or_le x1 0 with g | g
  ·
    exact ⟨(-2147483648), (-1), (-2147483648), 2147483647, (-2147483648), 2147483647, (-2147483648), 2147483647, (-2147483648), 2147483647, rt_f33, by omega, by omega, by omega, by omega, by omega⟩
  ·
    rcases Int.lt_or_le x1 1 with g | g
    ·
      exact ⟨0, 0, (-2147483648), 2147483647, (-2147483648), 2147483647, (-2147483648), 2147483647, (-2147483648), 2147483647, rt_f32, by omega, by omega, by omega, by omega, by omega⟩
    ·
      rcases Int.lt_or_le x1 2 with g | g
      ·
        exact ⟨1, 1, (-2147483648), 2147483647, (-2147483648), 2147483647, (-2147483648), 2147483647, (-2147483648), 2147483647, rt_f31, by omega, by omega, by omega, by omega, by omega⟩
      ·
        rcases Int.lt_or_le x1 3 with g | g
        ·
          exact ⟨2, 2, (-2147483648), 2147483647, (-2147483648), 2147483647, (-2147483648), 2147483647, (-2147483648), 2147483647, rt_f30, by omega, by omega, by omega, by omega, by omega⟩
        ·
          rcases Int.lt_or_le x1 4 with g | g
          ·
            exact ⟨3, 3, (-2147483648), 2147483647, (-2147483648), 2147483647, (-2147483648), 2147483647, (-2147483648), 2147483647, rt_f29, by omega, by omega, by omega, by omega, by omega⟩
          ·
            rcases Int.lt_or_le x1 5 with g | g
            ·
              exact ⟨4, 4, (-2147483648), 2147483647, (-2147483648), 2147483647, (-2147483648), 2147483647, (-2147483648), 2147483647, rt_f28, by omega, by omega, by omega, by omega, by omega⟩
            ·
              rcases Int.lt_or_le x1 6 with g | g
              ·
                exact ⟨5, 5, (-2147483648), 2147483647, (-2147483648), 2147483647, (-2147483648), 2147483647, (-2147483648), 2147483647, rt_f27, by omega, by omega, by omega, by omega, by omega⟩
              ·
                rcases Int.lt_or_le x1 7 with g | g
                ·
                  exact ⟨6, 6, (-2147483648), 2147483647, (-2147483648), 2147483647, (-2147483648), 2147483647, (-2147483648), 2147483647, rt_f26, by omega, by omega, by omega, by omega, by omega⟩
                ·
                  rcases Int.lt_or_le x1 8 with g | g
                  ·
                    exact ⟨7, 7, (-2147483648), 2147483647, (-2147483648), 2147483647, (-2147483648), 2147483647, (-2147483648), 2147483647, rt_f25, by omega, by omega, by omega, by omega, by omega⟩
                  ·
                    exact ⟨8, 2147483647, (-2147483648), 2147483647, (-2147483648), 2147483647, (-2147483648), 2147483647, (-2147483648), 2147483647, rt_f24, by omega, by omega, by omega, by omega, by omega⟩
theorem rt_op6 {x1 x2 x3 x4 x5 : Int} (h1 : -2147483648 ≤ x1 ∧ x1 ≤ 2147483647) (h2 : -2147483648 ≤ x2 ∧ x2 ≤ 2147483647) (h3 : -2147483648 ≤ x3 ∧ x3 ≤ 2147483647) (h4 : -2147483648 ≤ x4 ∧ x4 ≤ 2147483647) (h5 : -2147483648 ≤ x5 ∧ x5 ≤ 2147483647) : rt_in 6 x1 x2 x3 x4 x5 := by
  rcases Int.lt_or_le x1 0 with g | g
  ·
    exact ⟨(-2147483648), (-1), (-2147483648), 2147483647, (-2147483648), 2147483647, (-2147483648), 2147483647, (-2147483648), 2147483647, rt_f43, by omega, by omega, by omega, by omega, by omega⟩
  ·
    rcases Int.lt_or_le x1 1 with g | g
    ·
      exact ⟨0, 0, (-2147483648), 2147483647, (-2147483648), 2147483647, (-2147483648), 2147483647, (-2147483648), 2147483647, rt_f42, by omega, by omega, by omega, by omega, by omega⟩
    ·
      rcases Int.lt_or_le x1 2 with g | g
      ·
        exact ⟨1, 1, (-2147483648), 2147483647, (-2147483648), 2147483647, (-2147483648), 2147483647, (-2147483648), 2147483647, rt_f41, by omega, by omega, by omega, by omega, by omega⟩
      ·
        rcases Int.lt_or_le x1 3 with g | g
        ·
          exact ⟨2, 2, (-2147483648), 2147483647, (-2147483648), 2147483647, (-2147483648), 2147483647, (-2147483648), 2147483647, rt_f40, by omega, by omega, by omega, by omega, by omega⟩
        ·
          rcases Int.lt_or_le x1 4 with g | g
          ·
            exact ⟨3, 3, (-2147483648), 2147483647, (-2147483648), 2147483647, (-2147483648), 2147483647, (-2147483648), 2147483647, rt_f39, by omega, by omega, by omega, by omega, by omega⟩
          ·
            rcases Int.lt_or_le x1 5 with g | g
            ·
              exact ⟨4, 4, (-2147483648), 2147483647, (-2147483648), 2147483647, (-2147483648), 2147483647, (-2147483648), 2147483647, rt_f38, by omega, by omega, by omega, by omega, by omega⟩
            ·
              rcases Int.lt_or_le x1 6 with g | g
              ·
                exact ⟨5, 5, (-2147483648), 2147483647, (-2147483648), 2147483647, (-2147483648), 2147483647, (-2147483648), 2147483647, rt_f37, by omega, by omega, by omega, by omega, by omega⟩
              ·
                rcases Int.lt_or_le x1 7 with g | g
                ·
                  exact ⟨6, 6, (-2147483648), 2147483647, (-2147483648), 2147483647, (-2147483648), 2147483647, (-2147483648), 2147483647, rt_f36, by omega, by omega, by omega, by omega, by omega⟩
                ·
                  rcases Int.lt_or_le x1 8 with g | g
                  ·
                    exact ⟨7, 7, (-2147483648), 2147483647, (-2147483648), 2147483647, (-2147483648), 2147483647, (-2147483648), 2147483647, rt_f35, by omega, by omega, by omega, by omega, by omega⟩
                  ·
                    exact ⟨8, 2147483647, (-2147483648), 2147483647, (-2147483648), 2147483647, (-2147483648), 2147483647, (-2147483648), 2147483647, rt_f34, by omega, by omega, by omega, by omega, by omega⟩
theorem rt_op7 {x1 x2 x3 x4 x5 : Int} (h1 : -2147483648 ≤ x1 ∧ x1 ≤ 2147483647) (h2 : -2147483648 ≤ x2 ∧ x2 ≤ 2147483647) (h3 : -2147483648 ≤ x3 ∧ x3 ≤ 2147483647) (h4 : -2147483648 ≤ x4 ∧ x4 ≤ 2147483647) (h5 : -2147483648 ≤ x5 ∧ x5 ≤ 2147483647) : rt_in 7 x1 x2 x3 x4 x5 := by
  rcases Int.lt_or_le x1 0 with g | g
  ·
    exact ⟨(-2147483648), (-1), (-2147483648), 2147483647, (-2147483648), 2147483647, (-2147483648), 2147483647, (-2147483648), 2147483647, rt_f53, by omega, by omega, by omega, by omega, by omega⟩
  ·
    rcases Int.lt_or_le x1 1 with g | g
    ·
      exact ⟨0, 0, (-2147483648), 2147483647, (-2147483648), 2147483647, (-2147483648), 2147483647, (-2147483648), 2147483647, rt_f52, by omega, by omega, by omega, by omega, by omega⟩
    ·
      rcases Int.lt_or_le x1 2 with g | g
      ·
        exact ⟨1, 1, (-2147483648), 2147483647, (-2147483648), 2147483647, (-2147483648), 2147483647, (-2147483648), 2147483647, rt_f51, by omega, by omega, by omega, by omega, by omega⟩
      ·
        rcases Int.lt_or_le x1 3 with g | g
        ·
          exact ⟨2, 2, (-2147483648), 2147483647, (-2147483648), 2147483647, (-2147483648), 2147483647, (-2147483648), 2147483647, rt_f50, by omega, by omega, by omega, by omega, by omega⟩
        ·
          rcases Int.lt_or_le x1 4 with g | g
          ·
            exact ⟨3, 3, (-2147483648), 2147483647, (-2147483648), 2147483647, (-2147483648), 2147483647, (-2147483648), 2147483647, rt_f49, by omega, by omega, by omega, by omega, by omega⟩
          ·
            rcases Int.lt_or_le x1 5 with g | g
            ·
              exact ⟨4, 4, (-2147483648), 2147483647, (-2147483648), 2147483647, (-2147483648), 2147483647, (-2147483648), 2147483647, rt_f48, by omega, by omega, by omega, by omega, by omega⟩
            ·
              rcases Int.lt_or_le x1 6 with g | g
              ·
                exact ⟨5, 5, (-2147483648), 2147483647, (-2147483648), 2147483647, (-2147483648), 2147483647, (-2147483648), 2147483647, rt_f47, by omega, by omega, by omega, by omega, by omega⟩
              ·
                rcases Int.lt_or_le x1 7 with g | g
                ·
                  exact ⟨6, 6, (-2147483648), 2147483647, (-2147483648), 2147483647, (-2147483648), 2147483647, (-2147483648), 2147483647, rt_f46, by omega, by omega, by omega, by omega, by omega⟩
                ·
                  rcases Int.lt_or_le x1 8 with g | g
                  ·
                    exact ⟨7, 7, (-2147483648), 2147483647, (-2147483648), 2147483647, (-2147483648), 2147483647, (-2147483648), 2147483647, rt_f45, by omega, by omega, by omega, by omega, by omega⟩
                  ·
                    exact ⟨8, 2147483647, (-2147483648), 2147483647, (-2147483648), 2147483647, (-2147483648), 2147483647, (-2147483648), 2147483647, rt_f44, by omega, by omega, by omega, by omega, by omega⟩
theorem rt_op8 {x1 x2 x3 x4 x5 : Int} (h1 : -2147483648 ≤ x1 ∧ x1 ≤ 2147483647) (h2 : -2147483648 ≤ x2 ∧ x2 ≤ 2147483647) (h3 : -2147483648 ≤ x3 ∧ x3 ≤ 2147483647) (h4 : -2147483648 ≤ x4 ∧ x4 ≤ 2147483647) (h5 : -2147483648 ≤ x5 ∧ x5 ≤ 2147483647) : rt_in 8 x1 x2 x3 x4 x5 := by
  rcases Int.lt_or_le x1 0 with g | g
  ·
    exact ⟨(-2147483648), (-1), (-2147483648), 2147483647, (-2147483648), 2147483647, (-2147483648), 2147483647, (-2147483648), 2147483647, rt_f56, by omega, by omega, by omega, by omega, by omega⟩
  ·
    rcases Int.lt_or_le x1 3 with g | g
    ·
      exact ⟨0, 2, (-2147483648), 2147483647, (-2147483648), 2147483647, (-2147483648), 2147483647, (-2147483648), 2147483647, rt_f55, by omega, by omega, by omega, by omega, by omega⟩
    ·
      exact ⟨3, 2147483647, (-2147483648), 2147483647, (-2147483648), 2147483647, (-2147483648), 2147483647, (-2147483648), 2147483647, rt_f54, by omega, by omega, by omega, by omega, by omega⟩
theorem rt_op9 {x1 x2 x3 x4 x5 : Int} (h1 : -2147483648 ≤ x1 ∧ x1 ≤ 2147483647) (h2 : -2147483648 ≤ x2 ∧ x2 ≤ 2147483647) (h3 : -2147483648 ≤ x3 ∧ x3 ≤ 2147483647) (h4 : -2147483648 ≤ x4 ∧ x4 ≤ 2147483647) (h5 : -2147483648 ≤ x5 ∧ x5 ≤ 2147483647) : rt_in 9 x1 x2 x3 x4 x5 := by
  exact ⟨(-2147483648), 2147483647, (-2147483648), 2147483647, (-2147483648), 2147483647, (-2147483648), 2147483647, (-2147483648), 2147483647, rt_f57, by omega, by omega, by omega, by omega, by omega⟩
theorem rt_op10 {x1 x2 x3 x4 x5 : Int} (h1 : -2147483648 ≤ x1 ∧ x1 ≤ 2147483647) (h2 : -2147483648 ≤ x2 ∧ x2 ≤ 2147483647) (h3 : -2147483648 ≤ x3 ∧ x3 ≤ 2147483647) (h4 : -2147483648 ≤ x4 ∧ x4 ≤ 2147483647) (h5 : -2147483648 ≤ x5 ∧ x5 ≤ 2147483647) : rt_in 10 x1 x2 x3 x4 x5 := by
  rcases Int.lt_or_le x1 0 with g | g
  ·
    exact ⟨(-2147483648), (-1), (-2147483648), 2147483647, (-2147483648), 2147483647, (-2147483648), 2147483647, (-2147483648), 2147483647, rt_f67, by omega, by omega, by omega, by omega, by omega⟩
  ·
    rcases Int.lt_or_le x1 1 with g | g
    ·
      exact ⟨0, 0, (-2147483648), 2147483647, (-2147483648), 2147483647, (-2147483648), 2147483647, (-2147483648), 2147483647, rt_f66, by omega, by omega, by omega, by omega, by omega⟩
    ·
      rcases Int.lt_or_le x1 2 with g | g
      ·
        exact ⟨1, 1, (-2147483648), 2147483647, (-2147483648), 2147483647, (-2147483648), 2147483647, (-2147483648), 2147483647, rt_f65, by omega, by omega, by omega, by omega, by omega⟩
      ·
        rcases Int.lt_or_le x1 3 with g | g
        ·
          exact ⟨2, 2, (-2147483648), 2147483647, (-2147483648), 2147483647, (-2147483648), 2147483647, (-2147483648), 2147483647, rt_f64, by omega, by omega, by omega, by omega, by omega⟩
        ·
          rcases Int.lt_or_le x1 4 with g | g
          ·
            exact ⟨3, 3, (-2147483648), 2147483647, (-2147483648), 2147483647, (-2147483648), 2147483647, (-2147483648), 2147483647, rt_f63, by omega, by omega, by omega, by omega, by omega⟩
          ·
            rcases Int.lt_or_le x1 5 with g | g
            ·
              exact ⟨4, 4, (-2147483648), 2147483647, (-2147483648), 2147483647, (-2147483648), 2147483647, (-2147483648), 2147483647, rt_f62, by omega, by omega, by omega, by omega, by omega⟩
            ·
              rcases Int.lt_or_le x1 6 with g | g
              ·
                exact ⟨5, 5, (-2147483648), 2147483647, (-2147483648), 2147483647, (-2147483648), 2147483647, (-2147483648), 2147483647, rt_f61, by omega, by omega, by omega, by omega, by omega⟩
              ·
                rcases Int.lt_or_le x1 7 with g | g
                ·
                  exact ⟨6, 6, (-2147483648), 2147483647, (-2147483648), 2147483647, (-2147483648), 2147483647, (-2147483648), 2147483647, rt_f60, by omega, by omega, by omega, by omega, by omega⟩
                ·
                  rcases Int.lt_or_le x1 8 with g | g
                  ·
                    exact ⟨7, 7, (-2147483648), 2147483647, (-2147483648), 2147483647, (-2147483648), 2147483647, (-2147483648), 2147483647, rt_f59, by omega, by omega, by omega, by omega, by omega⟩
                  ·
                    exact ⟨8, 2147483647, (-2147483648), 2147483647, (-2147483648), 2147483647, (-2147483648), 2147483647, (-2147483648), 2147483647, rt_f58, by omega, by omega, by omega, by omega, by omega⟩
theorem rt_op11 {x1 x2 x3 x4 x5 : Int} (h1 : -2147483648 ≤ x1 ∧ x1 ≤ 2147483647) (h2 : -2147483648 ≤ x2 ∧ x2 ≤ 2147483647) (h3 : -2147483648 ≤ x3 ∧ x3 ≤ 2147483647) (h4 : -2147483648 ≤ x4 ∧ x4 ≤ 2147483647) (h5 : -2147483648 ≤ x5 ∧ x5 ≤ 2147483647) : rt_in 11 x1 x2 x3 x4 x5 := by
  exact ⟨(-2147483648), 2147483647, (-2147483648), 2147483647, (-2147483648), 2147483647, (-2147483648), 2147483647, (-2147483648), 2147483647, rt_f68, by omega, by omega, by omega, by omega, by omega⟩
theorem rt_op12 {x1 x2 x3 x4 x5 : Int} (h1 : -2147483648 ≤ x1 ∧ x1 ≤ 2147483647) (h2 : -2147483648 ≤ x2 ∧ x2 ≤ 2147483647) (h3 : -2147483648 ≤ x3 ∧ x3 ≤ 2147483647) (h4 : -2147483648 ≤ x4 ∧ x4 ≤ 2147483647) (h5 : -2147483648 ≤ x5 ∧ x5 ≤ 2147483647) : rt_in 12 x1 x2 x3 x4 x5 := by
  exact ⟨(-2147483648), 2147483647, (-2147483648), 2147483647, (-2147483648), 2147483647, (-2147483648), 2147483647, (-2147483648), 2147483647, rt_f69, by omega, by omega, by omega, by omega, by omega⟩
theorem rt_op13 {x1 x2 x3 x4 x5 : Int} (h1 : -2147483648 ≤ x1 ∧ x1 ≤ 2147483647) (h2 : -2147483648 ≤ x2 ∧ x2 ≤ 2147483647) (h3 : -2147483648 ≤ x3 ∧ x3 ≤ 2147483647) (h4 : -2147483648 ≤ x4 ∧ x4 ≤ 2147483647) (h5 : -2147483648 ≤ x5 ∧ x5 ≤ 2147483647) : rt_in 13 x1 x2 x3 x4 x5 := by
  exact ⟨(-2147483648), 2147483647, (-2147483648), 2147483647, (-2147483648), 2147483647, (-2147483648), 2147483647, (-2147483648), 2147483647, rt_f70, by omega, by omega, by omega, by omega, by omega⟩
theorem rt_op14 {x1 x2 x3 x4 x5 : Int} (h1 : -2147483648 ≤ x1 ∧ x1 ≤ 2147483647) (h2 : -2147483648 ≤ x2 ∧ x2 ≤ 2147483647) (h3 : -2147483648 ≤ x3 ∧ x3 ≤ 2147483647) (h4 : -2147483648 ≤ x4 ∧ x4 ≤ 2147483647) (h5 : -2147483648 ≤ x5 ∧ x5 ≤ 2147483647) : rt_in 14 x1 x2 x3 x4 x5 := by
  exact ⟨(-2147483648), 2147483647, (-2147483648), 2147483647, (-2147483648), 2147483647, (-2147483648), 2147483647, (-2147483648), 2147483647, rt_f71, by omega, by omega, by omega, by omega, by omega⟩
theorem rt_op15 {x1 x2 x3 x4 x5 : Int} (h1 : -2147483648 ≤ x1 ∧ x1 ≤ 2147483647) (h2 : -2147483648 ≤ x2 ∧ x2 ≤ 2147483647) (h3 : -2147483648 ≤ x3 ∧ x3 ≤ 2147483647) (h4 : -2147483648 ≤ x4 ∧ x4 ≤ 2147483647) (h5 : -2147483648 ≤ x5 ∧ x5 ≤ 2147483647) : rt_in 15 x1 x2 x3 x4 x5 := by
  exact ⟨(-2147483648), 2147483647, (-2147483648), 2147483647, (-2147483648), 2147483647, (-2147483648), 2147483647, (-2147483648), 2147483647, rt_f72, by omega, by omega, by omega, by omega, by omega⟩
theorem rt_op16 {x1 x2 x3 x4 x5 : Int} (h1 : -2147483648 ≤ x1 ∧ x1 ≤ 2147483647) (h2 : -2147483648 ≤ x2 ∧ x2 ≤ 2147483647) (h3 : -2147483648 ≤ x3 ∧ x3 ≤ 2147483647) (h4 : -2147483648 ≤ x4 ∧ x4 ≤ 2147483647) (h5 : -2147483648 ≤ x5 ∧ x5 ≤ 2147483647) : rt_in 16 x1 x2 x3 x4 x5 := by
  rcases Int.lt_or_le x1 0 with g | g
  ·
    exact ⟨(-2147483648), (-1), (-2147483648), 2147483647, (-2147483648), 2147483647, (-2147483648), 2147483647, (-2147483648), 2147483647, rt_f74, by omega, by omega, by omega, by omega, by omega⟩
  ·
    exact ⟨0, 2147483647, (-2147483648), 2147483647, (-2147483648), 2147483647, (-2147483648), 2147483647, (-2147483648), 2147483647, rt_f73, by omega, by omega, by omega, by omega, by omega⟩
theorem rt_op17 {x1 x2 x3 x4 x5 : Int} (h1 : -2147483648 ≤ x1 ∧ x1 ≤ 2147483647) (h2 : -2147483648 ≤ x2 ∧ x2 ≤ 2147483647) (h3 : -2147483648 ≤ x3 ∧ x3 ≤ 2147483647) (h4 : -2147483648 ≤ x4 ∧ x4 ≤ 2147483647) (h5 : -2147483648 ≤ x5 ∧ x5 ≤ 2147483647) : rt_in 17 x1 x2 x3 x4 x5 := by
  rcases Int.lt_or_le x1 0 with g | g
  ·
    exact ⟨(-2147483648), (-1), (-2147483648), 2147483647, (-2147483648), 2147483647, (-2147483648), 2147483647, (-2147483648), 2147483647, rt_f76, by omega, by omega, by omega, by omega, by omega⟩
  ·
    exact ⟨0, 2147483647, (-2147483648), 2147483647, (-2147483648), 2147483647, (-2147483648), 2147483647, (-2147483648), 2147483647, rt_f75, by omega, by omega, by omega, by omega, by omega⟩
theorem rt_op18 {x1 x2 x3 x4 x5 : Int} (h1 : -2147483648 ≤ x1 ∧ x1 ≤ 2147483647) (h2 : -2147483648 ≤ x2 ∧ x2 ≤ 2147483647) (h3 : -2147483648 ≤ x3 ∧ x3 ≤ 2147483647) (h4 : -2147483648 ≤ x4 ∧ x4 ≤ 2147483647) (h5 : -2147483648 ≤ x5 ∧ x5 ≤ 2147483647) : rt_in 18 x1 x2 x3 x4 x5 := by
  rcases Int.lt_or_le x1 0 with g | g
  ·
    exact ⟨(-2147483648), (-1), (-2147483648), 2147483647, (-2147483648), 2147483647, (-2147483648), 2147483647, (-2147483648), 2147483647, rt_f78, by omega, by omega, by omega, by omega, by omega⟩
  ·
    exact ⟨0, 2147483647, (-2147483648), 2147483647, (-2147483648), 2147483647, (-2147483648), 2147483647, (-2147483648), 2147483647, rt_f77, by omega, by omega, by omega, by omega, by omega⟩
theorem rt_op19 {x1 x2 x3 x4 x5 : Int} (h1 : -2147483648 ≤ x1 ∧ x1 ≤ 2147483647) (h2 : -2147483648 ≤ x2 ∧ x2 ≤ 2147483647) (h3 : -2147483648 ≤ x3 ∧ x3 ≤ 2147483647) (h4 : -2147483648 ≤ x4 ∧ x4 ≤ 2147483647) (h5 : -2147483648 ≤ x5 ∧ x5 ≤ 2147483647) : rt_in 19 x1 x2 x3 x4 x5 := by
  rcases Int.lt_or_le x1 0 with g | g
  ·
    exact ⟨(-2147483648), (-1), (-2147483648), 2147483647, (-2147483648), 2147483647, (-2147483648), 2147483647, (-2147483648), 2147483647, rt_f80, by omega, by omega, by omega, by omega, by omega⟩
  ·
    exact ⟨0, 2147483647, (-2147483648), 2147483647, (-2147483648), 2147483647, (-2147483648), 2147483647, (-2147483648), 2147483647, rt_f79, by omega, by omega, by omega, by omega, by omega⟩
theorem rt_op20 {x1 x2 x3 x4 x5 : Int} (h1 : -2147483648 ≤ x1 ∧ x1 ≤ 2147483647) (h2 : -2147483648 ≤ x2 ∧ x2 ≤ 2147483647) (h3 : -2147483648 ≤ x3 ∧ x3 ≤ 2147483647) (h4 : -2147483648 ≤ x4 ∧ x4 ≤ 2147483647) (h5 : -2147483648 ≤ x5 ∧ x5 ≤ 2147483647) : rt_in 20 x1 x2 x3 x4 x5 := by
  rcases Int.lt_or_le x1 0 with g | g
  ·
    exact ⟨(-2147483648), (-1), (-2147483648), 2147483647, (-2147483648), 2147483647, (-2147483648), 2147483647, (-2147483648), 2147483647, rt_f90, by omega, by omega, by omega, by omega, by omega⟩
  ·
    rcases Int.lt_or_le x1 1 with g | g
    ·
      exact ⟨0, 0, (-2147483648), 2147483647, (-2147483648), 2147483647, (-2147483648), 2147483647, (-2147483648), 2147483647, rt_f89, by omega, by omega, by omega, by omega, by omega⟩
    ·
      rcases Int.lt_or_le x1 2 with g | g
      ·
        exact ⟨1, 1, (-2147483648), 2147483647, (-2147483648), 2147483647, (-2147483648), 2147483647, (-2147483648), 2147483647, rt_f88, by omega, by omega, by omega, by omega, by omega⟩
      ·
        rcases Int.lt_or_le x1 3 with g | g
        ·
          exact ⟨2, 2, (-2147483648), 2147483647, (-2147483648), 2147483647, (-2147483648), 2147483647, (-2147483648), 2147483647, rt_f87, by omega, by omega, by omega, by omega, by omega⟩
        ·
          rcases Int.lt_or_le x1 4 with g | g
          ·
            exact ⟨3, 3, (-2147483648), 2147483647, (-2147483648), 2147483647, (-2147483648), 2147483647, (-2147483648), 2147483647, rt_f86, by omega, by omega, by omega, by omega, by omega⟩
          ·
            rcases Int.lt_or_le x1 5 with g | g
            ·
              exact ⟨4, 4, (-2147483648), 2147483647, (-2147483648), 2147483647, (-2147483648), 2147483647, (-2147483648), 2147483647, rt_f85, by omega, by omega, by omega, by omega, by omega⟩
            ·
              rcases Int.lt_or_le x1 6 with g | g
              ·
                exact ⟨5, 5, (-2147483648), 2147483647, (-2147483648), 2147483647, (-2147483648), 2147483647, (-2147483648), 2147483647, rt_f84, by omega, by omega, by omega, by omega, by omega⟩
              ·
                rcases Int.lt_or_le x1 7 with g | g
                ·
                  exact ⟨6, 6, (-2147483648), 2147483647, (-2147483648), 2147483647, (-2147483648), 2147483647, (-2147483648), 2147483647, rt_f83, by omega, by omega, by omega, by omega, by omega⟩
                ·
                  rcases Int.lt_or_le x1 8 with g | g
                  ·
                    exact ⟨7, 7, (-2147483648), 2147483647, (-2147483648), 2147483647, (-2147483648), 2147483647, (-2147483648), 2147483647, rt_f82, by omega, by omega, by omega, by omega, by omega⟩
                  ·
                    exact ⟨8, 2147483647, (-2147483648), 2147483647, (-2147483648), 2147483647, (-2147483648), 2147483647, (-2147483648), 2147483647, rt_f81, by omega, by omega, by omega, by omega, by omega⟩
theorem rt_op21 {x1 x2 x3 x4 x5 : Int} (h1 : -2147483648 ≤ x1 ∧ x1 ≤ 2147483647) (h2 : -2147483648 ≤ x2 ∧ x2 ≤ 2147483647) (h3 : -2147483648 ≤ x3 ∧ x3 ≤ 2147483647) (h4 : -2147483648 ≤ x4 ∧ x4 ≤ 2147483647) (h5 : -2147483648 ≤ x5 ∧ x5 ≤ 2147483647) : rt_in 21 x1 x2 x3 x4 x5 := by
  rcases Int.lt_or_le x1 0 with g | g
  ·
    exact ⟨(-2147483648), (-1), (-2147483648), 2147483647, (-2147483648), 2147483647, (-2147483648), 2147483647, (-2147483648), 2147483647, rt_f100, by omega, by omega, by omega, by omega, by omega⟩
  ·
    rcases Int.lt_or_le x1 1 with g | g
    ·
      exact ⟨0, 0, (-2147483648), 2147483647, (-2147483648), 2147483647, (-2147483648), 2147483647, (-2147483648), 2147483647, rt_f99, by omega, by omega, by omega, by omega, by omega⟩
    ·
      rcases Int.lt_or_le x1 2 with g | g
      ·
        exact ⟨1, 1, (-2147483648), 2147483647, (-2147483648), 2147483647, (-2147483648), 2147483647, (-2147483648), 2147483647, rt_f98, by omega, by omega, by omega, by omega, by omega⟩
      ·
        rcases Int.lt_or_le x1 3 with g | g
        ·
          exact ⟨2, 2, (-2147483648), 2147483647, (-2147483648), 2147483647, (-2147483648), 2147483647, (-2147483648), 2147483647, rt_f97, by omega, by omega, by omega, by omega, by omega⟩
        ·
          rcases Int.lt_or_le x1 4 with g | g
          ·
            exact ⟨3, 3, (-2147483648), 2147483647, (-2147483648), 2147483647, (-2147483648), 2147483647, (-2147483648), 2147483647, rt_f96, by omega, by omega, by omega, by omega, by omega⟩
          ·
            rcases Int.lt_or_le x1 5 with g | g
            ·
              exact ⟨4, 4, (-2147483648), 2147483647, (-2147483648), 2147483647, (-2147483648), 2147483647, (-2147483648), 2147483647, rt_f95, by omega, by omega, by omega, by omega, by omega⟩
            ·
              rcases Int.lt_or_le x1 6 with g | g
              ·
                exact ⟨5, 5, (-2147483648), 2147483647, (-2147483648), 2147483647, (-2147483648), 2147483647, (-2147483648), 2147483647, rt_f94, by omega, by omega, by omega, by omega, by omega⟩
              ·
                rcases Int.lt_or_le x1 7 with g | g
                ·
                  exact ⟨6, 6, (-2147483648), 2147483647, (-2147483648), 2147483647, (-2147483648), 2147483647, (-2147483648), 2147483647, rt_f93, by omega, by omega, by omega, by omega, by omega⟩
                ·
                  rcases Int.lt_or_le x1 8 with g | g
                  ·
                    exact ⟨7, 7, (-2147483648), 2147483647, (-2147483648), 2147483647, (-2147483648), 2147483647, (-2147483648), 2147483647, rt_f92, by omega, by omega, by omega, by omega, by omega⟩
                  ·
                    exact ⟨8, 2147483647, (-2147483648), 2147483647, (-2147483648), 2147483647, (-2147483648), 2147483647, (-2147483648), 2147483647, rt_f91, by omega, by omega, by omega, by omega, by omega⟩
theorem rt_op22 {x1 x2 x3 x4 x5 : Int} (h1 : -2147483648 ≤ x1 ∧ x1 ≤ 2147483647) (h2 : -2147483648 ≤ x2 ∧ x2 ≤ 2147483647) (h3 : -2147483648 ≤ x3 ∧ x3 ≤ 2147483647) (h4 : -2147483648 ≤ x4 ∧ x4 ≤ 2147483647) (h5 : -2147483648 ≤ x5 ∧ x5 ≤ 2147483647) : rt_in 22 x1 x2 x3 x4 x5 := by
  rcases Int.lt_or_le x1 0 with g | g
  ·
    exact ⟨(-2147483648), (-1), (-2147483648), 2147483647, (-2147483648), 2147483647, (-2147483648), 2147483647, (-2147483648), 2147483647, rt_f103, by omega, by omega, by omega, by omega, by omega⟩
  ·
    rcases Int.lt_or_le x1 3 with g | g
    ·
      exact ⟨0, 2, (-2147483648), 2147483647, (-2147483648), 2147483647, (-2147483648), 2147483647, (-2147483648), 2147483647, rt_f102, by omega, by omega, by omega, by omega, by omega⟩
    ·
      exact ⟨3, 2147483647, (-2147483648), 2147483647, (-2147483648), 2147483647, (-2147483648), 2147483647, (-2147483648), 2147483647, rt_f101, by omega, by omega, by omega, by omega, by omega⟩
theorem rt_op23 {x1 x2 x3 x4 x5 : Int} (h1 : -2147483648 ≤ x1 ∧ x1 ≤ 2147483647) (h2 : -2147483648 ≤ x2 ∧ x2 ≤ 2147483647) (h3 : -2147483648 ≤ x3 ∧ x3 ≤ 2147483647) (h4 : -2147483648 ≤ x4 ∧ x4 ≤ 2147483647) (h5 : -2147483648 ≤ x5 ∧ x5 ≤ 2147483647) : rt_in 23 x1 x2 x3 x4 x5 := by
  rcases Int.lt_or_le x1 0 with g | g
  ·
    exact ⟨(-2147483648), (-1), (-2147483648), 2147483647, (-2147483648), 2147483647, (-2147483648), 2147483647, (-2147483648), 2147483647, rt_f108, by omega, by omega, by omega, by omega, by omega⟩
  ·
    rcases Int.lt_or_le x1 1 with g | g
    ·
      exact ⟨0, 0, (-2147483648), 2147483647, (-2147483648), 2147483647, (-2147483648), 2147483647, (-2147483648), 2147483647, rt_f107, by omega, by omega, by omega, by omega, by omega⟩
    ·
      rcases Int.lt_or_le x1 2 with g | g
      ·
        exact ⟨1, 1, (-2147483648), 2147483647, (-2147483648), 2147483647, (-2147483648), 2147483647, (-2147483648), 2147483647, rt_f106, by omega, by omega, by omega, by omega, by omega⟩
      ·
        rcases Int.lt_or_le x1 3 with g | g
        ·
          exact ⟨2, 2, (-2147483648), 2147483647, (-2147483648), 2147483647, (-2147483648), 2147483647, (-2147483648), 2147483647, rt_f105, by omega, by omega, by omega, by omega, by omega⟩
        ·
          exact ⟨3, 2147483647, (-2147483648), 2147483647, (-2147483648), 2147483647, (-2147483648), 2147483647, (-2147483648), 2147483647, rt_f104, by omega, by omega, by omega, by omega, by omega⟩
theorem rt_op24 {x1 x2 x3 x4 x5 : Int} (h1 : -2147483648 ≤ x1 ∧ x1 ≤ 2147483647) (h2 : -2147483648 ≤ x2 ∧ x2 ≤ 2147483647) (h3 : -2147483648 ≤ x3 ∧ x3 ≤ 2147483647) (h4 : -2147483648 ≤ x4 ∧ x4 ≤ 2147483647) (h5 : -2147483648 ≤ x5 ∧ x5 ≤ 2147483647) : rt_in 24 x1 x2 x3 x4 x5 := by
  exact ⟨(-2147483648), 2147483647, (-2147483648), 2147483647, (-2147483648), 2147483647, (-2147483648), 2147483647, (-2147483648), 2147483647, rt_f109, by omega, by omega, by omega, by omega, by omega⟩
theorem rt_op25 {x1 x2 x3 x4 x5 : Int} (h1 : -2147483648 ≤ x1 ∧ x1 ≤ 2147483647) (h2 : -2147483648 ≤ x2 ∧ x2 ≤ 2147483647) (h3 : -2147483648 ≤ x3 ∧ x3 ≤ 2147483647) (h4 : -2147483648 ≤ x4 ∧ x4 ≤ 2147483647) (h5 : -2147483648 ≤ x5 ∧ x5 ≤ 2147483647) : rt_in 25 x1 x2 x3 x4 x5 := by
  rcases Int.lt_or_le x1 0 with g | g
  ·
    exact ⟨(-2147483648), (-1), (-2147483648), 2147483647, (-2147483648), 2147483647, (-2147483648), 2147483647, (-2147483648), 2147483647, rt_f112, by omega, by omega, by omega, by omega, by omega⟩
  ·
    rcases Int.lt_or_le x1 3 with g | g
    ·
      exact ⟨0, 2, (-2147483648), 2147483647, (-2147483648), 2147483647, (-2147483648), 2147483647, (-2147483648), 2147483647, rt_f111, by omega, by omega, by omega, by omega, by omega⟩
    ·
      exact ⟨3, 2147483647, (-2147483648), 2147483647, (-2147483648), 2147483647, (-2147483648), 2147483647, (-2147483648), 2147483647, rt_f110, by omega, by omega, by omega, by omega, by omega⟩
theorem rt_op26 {x1 x2 x3 x4 x5 : Int} (h1 : -2147483648 ≤ x1 ∧ x1 ≤ 2147483647) (h2 : -2147483648 ≤ x2 ∧ x2 ≤ 2147483647) (h3 : -2147483648 ≤ x3 ∧ x3 ≤ 2147483647) (h4 : -2147483648 ≤ x4 ∧ x4 ≤ 2147483647) (h5 : -2147483648 ≤ x5 ∧ x5 ≤ 2147483647) : rt_in 26 x1 x2 x3 x4 x5 := by
  exact ⟨(-2147483648), 2147483647, (-2147483648), 2147483647, (-2147483648), 2147483647, (-2147483648), 2147483647, (-2147483648), 2147483647, rt_f113, by omega, by omega, by omega, by omega, by omega⟩
theorem rt_op27 {x1 x2 x3 x4 x5 : Int} (h1 : -2147483648 ≤ x1 ∧ x1 ≤ 2147483647) (h2 : -2147483648 ≤ x2 ∧ x2 ≤ 2147483647) (h3 : -2147483648 ≤ x3 ∧ x3 ≤ 2147483647) (h4 : -2147483648 ≤ x4 ∧ x4 ≤ 2147483647) (h5 : -2147483648 ≤ x5 ∧ x5 ≤ 2147483647) : rt_in 27 x1 x2 x3 x4 x5 := by
  exact ⟨(-2147483648), 2147483647, (-2147483648), 2147483647, (-2147483648), 2147483647, (-2147483648), 2147483647, (-2147483648), 2147483647, rt_f114, by omega, by omega, by omega, by omega, by omega⟩
theorem rt_op28 {x1 x2 x3 x4 x5 : Int} (h1 : -2147483648 ≤ x1 ∧ x1 ≤ 2147483647) (h2 : -2147483648 ≤ x2 ∧ x2 ≤ 2147483647) (h3 : -2147483648 ≤ x3 ∧ x3 ≤ 2147483647) (h4 : -2147483648 ≤ x4 ∧ x4 ≤ 2147483647) (h5 : -2147483648 ≤ x5 ∧ x5 ≤ 2147483647) : rt_in 28 x1 x2 x3 x4 x5 := by
  exact ⟨(-2147483648), 2147483647, (-2147483648), 2147483647, (-2147483648), 2147483647, (-2147483648), 2147483647, (-2147483648), 2147483647, rt_f115, by omega, by omega, by omega, by omega, by omega⟩
theorem rt_op29 {x1 x2 x3 x4 x5 : Int} (h1 : -2147483648 ≤ x1 ∧ x1 ≤ 2147483647) (h2 : -2147483648 ≤ x2 ∧ x2 ≤ 2147483647) (h3 : -2147483648 ≤ x3 ∧ x3 ≤ 2147483647) (h4 : -2147483648 ≤ x4 ∧ x4 ≤ 2147483647) (h5 : -2147483648 ≤ x5 ∧ x5 ≤ 2147483647) : rt_in 29 x1 x2 x3 x4 x5 := by
  exact ⟨(-2147483648), 2147483647, (-2147483648), 2147483647, (-2147483648), 2147483647, (-2147483648), 2147483647, (-2147483648), 2147483647, rt_f116, by omega, by omega, by omega, by omega, by omega⟩
theorem rt_op30 {x1 x2 x3 x4 x5 : Int} (h1 : -2147483648 ≤ x1 ∧ x1 ≤ 2147483647) (h2 : -2147483648 ≤ x2 ∧ x2 ≤ 2147483647) (h3 : -2147483648 ≤ x3 ∧ x3 ≤ 2147483647) (h4 : -2147483648 ≤ x4 ∧ x4 ≤ 2147483647) (h5 : -2147483648 ≤ x5 ∧ x5 ≤ 2147483647) : rt_in 30 x1 x2 x3 x4 x5 := by
  rcases Int.lt_or_le x1 0 with g | g
  ·
    rcases Int.lt_or_le x2 0 with g | g
    ·
      exact ⟨(-2147483648), (-1), (-2147483648), (-1), (-2147483648), 2147483647, (-2147483648), 2147483647, (-2147483648), 2147483647, rt_f117, by omega, by omega, by omega, by omega, by omega⟩
    ·
      rcases Int.lt_or_le x2 1 with g | g
      ·
        exact ⟨(-2147483648), (-1), 0, 0, (-2147483648), 2147483647, (-2147483648), 2147483647, (-2147483648), 2147483647, rt_f118, by omega, by omega, by omega, by omega, by omega⟩
      ·
        rcases Int.lt_or_le x2 2 with g | g
        ·
          exact ⟨(-2147483648), (-1), 1, 1, (-2147483648), 2147483647, (-2147483648), 2147483647, (-2147483648), 2147483647, rt_f119, by omega, by omega, by omega, by omega, by omega⟩
        ·
          rcases Int.lt_or_le x2 256 with g | g
          ·
            exact ⟨(-2147483648), (-1), 2, 255, (-2147483648), 2147483647, (-2147483648), 2147483647, (-2147483648), 2147483647, rt_f120, by omega, by omega, by omega, by omega, by omega⟩
          ·
            exact ⟨(-2147483648), (-1), 256, 2147483647, (-2147483648), 2147483647, (-2147483648), 2147483647, (-2147483648), 2147483647, rt_f121, by omega, by omega, by omega, by omega, by omega⟩
  ·
    rcases Int.lt_or_le x1 1 with g | g
    ·
      rcases Int.lt_or_le x2 0 with g | g
      ·
        exact ⟨0, 0, (-2147483648), (-1), (-2147483648), 2147483647, (-2147483648), 2147483647, (-2147483648), 2147483647, rt_f122, by omega, by omega, by omega, by omega, by omega⟩
      ·
        rcases Int.lt_or_le x2 1 with g | g
        ·
          exact ⟨0, 0, 0, 0, (-2147483648), 2147483647, (-2147483648), 2147483647, (-2147483648), 2147483647, rt_f123, by omega, by omega, by omega, by omega, by omega⟩
        ·
          rcases Int.lt_or_le x2 2 with g | g
          ·
            exact ⟨0, 0, 1, 1, (-2147483648), 2147483647, (-2147483648), 2147483647, (-2147483648), 2147483647, rt_f124, by omega, by omega, by omega, by omega, by omega⟩
          ·
            rcases Int.lt_or_le x2 256 with g | g
            ·
              exact ⟨0, 0, 2, 255, (-2147483648), 2147483647, (-2147483648), 2147483647, (-2147483648), 2147483647, rt_f125, by omega, by omega, by omega, by omega, by omega⟩
            ·
              exact ⟨0, 0, 256, 2147483647, (-2147483648), 2147483647, (-2147483648), 2147483647, (-2147483648), 2147483647, rt_f126, by omega, by omega, by omega, by omega, by omega⟩
    ·
      rcases Int.lt_or_le x1 2 with g | g
      ·
        rcases Int.lt_or_le x2 0 with g | g
        ·
          exact ⟨1, 1, (-2147483648), (-1), (-2147483648), 2147483647, (-2147483648), 2147483647, (-2147483648), 2147483647, rt_f127, by omega, by omega, by omega, by omega, by omega⟩
        ·
          rcases Int.lt_or_le x2 1 with g | g
          ·
            exact ⟨1, 1, 0, 0, (-2147483648), 2147483647, (-2147483648), 2147483647, (-2147483648), 2147483647, rt_f128, by omega, by omega, by omega, by omega, by omega⟩
          ·
            rcases Int.lt_or_le x2 2 with g | g
            ·
              exact ⟨1, 1, 1, 1, (-2147483648), 2147483647, (-2147483648), 2147483647, (-2147483648), 2147483647, rt_f129, by omega, by omega, by omega, by omega, by omega⟩
            ·
              rcases Int.lt_or_le x2 256 with g | g
              ·
                exact ⟨1, 1, 2, 255, (-2147483648), 2147483647, (-2147483648), 2147483647, (-2147483648), 2147483647, rt_f130, by omega, by omega, by omega, by omega, by omega⟩
              ·
                exact ⟨1, 1, 256, 2147483647, (-2147483648), 2147483647, (-2147483648), 2147483647, (-2147483648), 2147483647, rt_f131, by omega, by omega, by omega, by omega, by omega⟩
      ·
        rcases Int.lt_or_le x2 0 with g | g
        ·
          exact ⟨2, 2147483647, (-2147483648), (-1), (-2147483648), 2147483647, (-2147483648), 2147483647, (-2147483648), 2147483647, rt_f132, by omega, by omega, by omega, by omega, by omega⟩
        ·
          rcases Int.lt_or_le x2 1 with g | g
          ·
            exact ⟨2, 2147483647, 0, 0, (-2147483648), 2147483647, (-2147483648), 2147483647, (-2147483648), 2147483647, rt_f133, by omega, by omega, by omega, by omega, by omega⟩
          ·
            rcases Int.lt_or_le x2 2 with g | g
            ·
              exact ⟨2, 2147483647, 1, 1, (-2147483648), 2147483647, (-2147483648), 2147483647, (-2147483648), 2147483647, rt_f134, by omega, by omega, by omega, by omega, by omega⟩
            ·
              rcases Int.lt_or_le x2 256 with g | g
              ·
                exact ⟨2, 2147483647, 2, 255, (-2147483648), 2147483647, (-2147483648), 2147483647, (-2147483648), 2147483647, rt_f135, by omega, by omega, by omega, by omega, by omega⟩
              ·
                exact ⟨2, 2147483647, 256, 2147483647, (-2147483648), 2147483647, (-2147483648), 2147483647, (-2147483648), 2147483647, rt_f136, by omega, by omega, by omega, by omega, by omega⟩
theorem rt_op31 {x1 x2 x3 x4 x5 : Int} (h1 : -2147483648 ≤ x1 ∧ x1 ≤ 2147483647) (h2 : -2147483648 ≤ x2 ∧ x2 ≤ 2147483647) (h3 : -2147483648 ≤ x3 ∧ x3 ≤ 2147483647) (h4 : -2147483648 ≤ x4 ∧ x4 ≤ 2147483647) (h5 : -2147483648 ≤ x5 ∧ x5 ≤ 2147483647) : rt_in 31 x1 x2 x3 x4 x5 := by
  exact ⟨(-2147483648), 2147483647, (-2147483648), 2147483647, (-2147483648), 2147483647, (-2147483648), 2147483647, (-2147483648), 2147483647, rt_f137, by omega, by omega, by omega, by omega, by omega⟩
theorem rt_op32 {x1 x2 x3 x4 x5 : Int} (h1 : -2147483648 ≤ x1 ∧ x1 ≤ 2147483647) (h2 : -2147483648 ≤ x2 ∧ x2 ≤ 2147483647) (h3 : -2147483648 ≤ x3 ∧ x3 ≤ 2147483647) (h4 : -2147483648 ≤ x4 ∧ x4 ≤ 2147483647) (h5 : -2147483648 ≤ x5 ∧ x5 ≤ 2147483647) : rt_in 32 x1 x2 x3 x4 x5 := by
  rcases Int.lt_or_le x1 0 with g | g
  ·
    exact ⟨(-2147483648), (-1), (-2147483648), 2147483647, (-2147483648), 2147483647, (-2147483648), 2147483647, (-2147483648), 2147483647, rt_f140, by omega, by omega, by omega, by omega, by omega⟩
  ·
    rcases Int.lt_or_le x1 1 with g | g
    ·
      exact ⟨0, 0, (-2147483648), 2147483647, (-2147483648), 2147483647, (-2147483648), 2147483647, (-2147483648), 2147483647, rt_f139, by omega, by omega, by omega, by omega, by omega⟩
    ·
      exact ⟨1, 2147483647, (-2147483648), 2147483647, (-2147483648), 2147483647, (-2147483648), 2147483647, (-2147483648), 2147483647, rt_f138, by omega, by omega, by omega, by omega, by omega⟩
theorem rt_op33 {x1 x2 x3 x4 x5 : Int} (h1 : -2147483648 ≤ x1 ∧ x1 ≤ 2147483647) (h2 : -2147483648 ≤ x2 ∧ x2 ≤ 2147483647) (h3 : -2147483648 ≤ x3 ∧ x3 ≤ 2147483647) (h4 : -2147483648 ≤ x4 ∧ x4 ≤ 2147483647) (h5 : -2147483648 ≤ x5 ∧ x5 ≤ 2147483647) : rt_in 33 x1 x2 x3 x4 x5 := by
  rcases Int.lt_or_le x1 0 with g | g
  ·
    exact ⟨(-2147483648), (-1), (-2147483648), 2147483647, (-2147483648), 2147483647, (-2147483648), 2147483647, (-2147483648), 2147483647, rt_f143, by omega, by omega, by omega, by omega, by omega⟩
  ·
    rcases Int.lt_or_le x1 1 with g | g
    ·
      exact ⟨0, 0, (-2147483648), 2147483647, (-2147483648), 2147483647, (-2147483648), 2147483647, (-2147483648), 2147483647, rt_f142, by omega, by omega, by omega, by omega, by omega⟩
    ·
      exact ⟨1, 2147483647, (-2147483648), 2147483647, (-2147483648), 2147483647, (-2147483648), 2147483647, (-2147483648), 2147483647, rt_f141, by omega, by omega, by omega, by omega, by omega⟩
theorem rt_op34 {x1 x2 x3 x4 x5 : Int} (h1 : -2147483648 ≤ x1 ∧ x1 ≤ 2147483647) (h2 : -2147483648 ≤ x2 ∧ x2 ≤ 2147483647) (h3 : -2147483648 ≤ x3 ∧ x3 ≤ 2147483647) (h4 : -2147483648 ≤ x4 ∧ x4 ≤ 2147483647) (h5 : -2147483648 ≤ x5 ∧ x5 ≤ 2147483647) : rt_in 34 x1 x2 x3 x4 x5 := by
  rcases Int.lt_or_le x1 0 with g | g
  ·
    exact ⟨(-2147483648), (-1), (-2147483648), 2147483647, (-2147483648), 2147483647, (-2147483648), 2147483647, (-2147483648), 2147483647, rt_f146, by omega, by omega, by omega, by omega, by omega⟩
  ·
    rcases Int.lt_or_le x1 1 with g | g
    ·
      exact ⟨0, 0, (-2147483648), 2147483647, (-2147483648), 2147483647, (-2147483648), 2147483647, (-2147483648), 2147483647, rt_f145, by omega, by omega, by omega, by omega, by omega⟩
    ·
      exact ⟨1, 2147483647, (-2147483648), 2147483647, (-2147483648), 2147483647, (-2147483648), 2147483647, (-2147483648), 2147483647, rt_f144, by omega, by omega, by omega, by omega, by omega⟩
theorem rt_op35 {x1 x2 x3 x4 x5 : Int} (h1 : -2147483648 ≤ x1 ∧ x1 ≤ 2147483647) (h2 : -2147483648 ≤ x2 ∧ x2 ≤ 2147483647) (h3 : -2147483648 ≤ x3 ∧ x3 ≤ 2147483647) (h4 : -2147483648 ≤ x4 ∧ x4 ≤ 2147483647) (h5 : -2147483648 ≤ x5 ∧ x5 ≤ 2147483647) : rt_in 35 x1 x2 x3 x4 x5 := by
  exact ⟨(-2147483648), 2147483647, (-2147483648), 2147483647, (-2147483648), 2147483647, (-2147483648), 2147483647, (-2147483648), 2147483647, rt_f147, by omega, by omega, by omega, by omega, by omega⟩
theorem rt_op36 {x1 x2 x3 x4 x5 : Int} (h1 : -2147483648 ≤ x1 ∧ x1 ≤ 2147483647) (h2 : -2147483648 ≤ x2 ∧ x2 ≤ 2147483647) (h3 : -2147483648 ≤ x3 ∧ x3 ≤ 2147483647) (h4 : -2147483648 ≤ x4 ∧ x4 ≤ 2147483647) (h5 : -2147483648 ≤ x5 ∧ x5 ≤ 2147483647) : rt_in 36 x1 x2 x3 x4 x5 := by
  exact ⟨(-2147483648), 2147483647, (-2147483648), 2147483647, (-2147483648), 2147483647, (-2147483648), 2147483647, (-2147483648), 2147483647, rt_f148, by omega, by omega, by omega, by omega, by omega⟩
theorem rt_op37 {x1 x2 x3 x4 x5 : Int} (h1 : -2147483648 ≤ x1 ∧ x1 ≤ 2147483647) (h2 : -2147483648 ≤ x2 ∧ x2 ≤ 2147483647) (h3 : -2147483648 ≤ x3 ∧ x3 ≤ 2147483647) (h4 : -2147483648 ≤ x4 ∧ x4 ≤ 2147483647) (h5 : -2147483648 ≤ x5 ∧ x5 ≤ 2147483647) : rt_in 37 x1 x2 x3 x4 x5 := by
  exact ⟨(-2147483648), 2147483647, (-2147483648), 2147483647, (-2147483648), 2147483647, (-2147483648), 2147483647, (-2147483648), 2147483647, rt_f149, by omega, by omega, by omega, by omega, by omega⟩
theorem rt_op38 {x1 x2 x3 x4 x5 : Int} (h1 : -2147483648 ≤ x1 ∧ x1 ≤ 2147483647) (h2 : -2147483648 ≤ x2 ∧ x2 ≤ 2147483647) (h3 : -2147483648 ≤ x3 ∧ x3 ≤ 2147483647) (h4 : -2147483648 ≤ x4 ∧ x4 ≤ 2147483647) (h5 : -2147483648 ≤ x5 ∧ x5 ≤ 2147483647) : rt_in 38 x1 x2 x3 x4 x5 := by
  rcases Int.lt_or_le x1 0 with g | g
  ·
    exact ⟨(-2147483648), (-1), (-2147483648), 2147483647, (-2147483648), 2147483647, (-2147483648), 2147483647, (-2147483648), 2147483647, rt_f154, by omega, by omega, by omega, by omega, by omega⟩
  ·
    rcases Int.lt_or_le x1 1 with g | g
    ·
      rcases Int.lt_or_le x2 0 with g | g
      ·
        exact ⟨0, 0, (-2147483648), (-1), (-2147483648), 2147483647, (-2147483648), 2147483647, (-2147483648), 2147483647, rt_f153, by omega, by omega, by omega, by omega, by omega⟩
      ·
        rcases Int.lt_or_le x2 1 with g | g
        ·
          exact ⟨0, 0, 0, 0, (-2147483648), 2147483647, (-2147483648), 2147483647, (-2147483648), 2147483647, rt_f152, by omega, by omega, by omega, by omega, by omega⟩
        ·
          exact ⟨0, 0, 1, 2147483647, (-2147483648), 2147483647, (-2147483648), 2147483647, (-2147483648), 2147483647, rt_f151, by omega, by omega, by omega, by omega, by omega⟩
    ·
      exact ⟨1, 2147483647, (-2147483648), 2147483647, (-2147483648), 2147483647, (-2147483648), 2147483647, (-2147483648), 2147483647, rt_f150, by omega, by omega, by omega, by omega, by omega⟩
theorem rt_op39 {x1 x2 x3 x4 x5 : Int} (h1 : -2147483648 ≤ x1 ∧ x1 ≤ 2147483647) (h2 : -2147483648 ≤ x2 ∧ x2 ≤ 2147483647) (h3 : -2147483648 ≤ x3 ∧ x3 ≤ 2147483647) (h4 : -2147483648 ≤ x4 ∧ x4 ≤ 2147483647) (h5 : -2147483648 ≤ x5 ∧ x5 ≤ 2147483647) : rt_in 39 x1 x2 x3 x4 x5 := by
  exact ⟨(-2147483648), 2147483647, (-2147483648), 2147483647, (-2147483648), 2147483647, (-2147483648), 2147483647, (-2147483648), 2147483647, rt_f155, by omega, by omega, by omega, by omega, by omega⟩
theorem rt_op40 {x1 x2 x3 x4 x5 : Int} (h1 : -2147483648 ≤ x1 ∧ x1 ≤ 2147483647) (h2 : -2147483648 ≤ x2 ∧ x2 ≤ 2147483647) (h3 : -2147483648 ≤ x3 ∧ x3 ≤ 2147483647) (h4 : -2147483648 ≤ x4 ∧ x4 ≤ 2147483647) (h5 : -2147483648 ≤ x5 ∧ x5 ≤ 2147483647) : rt_in 40 x1 x2 x3 x4 x5 := by
  exact ⟨(-2147483648), 2147483647, (-2147483648), 2147483647, (-2147483648), 2147483647, (-2147483648), 2147483647, (-2147483648), 2147483647, rt_f156, by omega, by omega, by omega, by omega, by omega⟩
theorem rt_op41 {x1 x2 x3 x4 x5 : Int} (h1 : -2147483648 ≤ x1 ∧ x1 ≤ 2147483647) (h2 : -2147483648 ≤ x2 ∧ x2 ≤ 2147483647) (h3 : -2147483648 ≤ x3 ∧ x3 ≤ 2147483647) (h4 : -2147483648 ≤ x4 ∧ x4 ≤ 2147483647) (h5 : -2147483648 ≤ x5 ∧ x5 ≤ 2147483647) : rt_in 41 x1 x2 x3 x4 x5 := by
  exact ⟨(-2147483648), 2147483647, (-2147483648), 2147483647, (-2147483648), 2147483647, (-2147483648), 2147483647, (-2147483648), 2147483647, rt_f157, by omega, by omega, by omega, by omega, by omega⟩
theorem rt_op42 {x1 x2 x3 x4 x5 : Int} (h1 : -2147483648 ≤ x1 ∧ x1 ≤ 2147483647) (h2 : -2147483648 ≤ x2 ∧ x2 ≤ 2147483647) (h3 : -2147483648 ≤ x3 ∧ x3 ≤ 2147483647) (h4 : -2147483648 ≤ x4 ∧ x4 ≤ 2147483647) (h5 : -2147483648 ≤ x5 ∧ x5 ≤ 2147483647) : rt_in 42 x1 x2 x3 x4 x5 := by
  exact ⟨(-2147483648), 2147483647, (-2147483648), 2147483647, (-2147483648), 2147483647, (-2147483648), 2147483647, (-2147483648), 2147483647, rt_f158, by omega, by omega, by omega, by omega, by omega⟩
theorem rt_op43 {x1 x2 x3 x4 x5 : Int} (h1 : -2147483648 ≤ x1 ∧ x1 ≤ 2147483647) (h2 : -2147483648 ≤ x2 ∧ x2 ≤ 2147483647) (h3 : -2147483648 ≤ x3 ∧ x3 ≤ 2147483647) (h4 : -2147483648 ≤ x4 ∧ x4 ≤ 2147483647) (h5 : -2147483648 ≤ x5 ∧ x5 ≤ 2147483647) : rt_in 43 x1 x2 x3 x4 x5 := by
  exact ⟨(-2147483648), 2147483647, (-2147483648), 2147483647, (-2147483648), 2147483647, (-2147483648), 2147483647, (-2147483648), 2147483647, rt_f159, by omega, by omega, by omega, by omega, by omega⟩
theorem rt_op44 {x1 x2 x3 x4 x5 : Int} (h1 : -2147483648 ≤ x1 ∧ x1 ≤ 2147483647) (h2 : -2147483648 ≤ x2 ∧ x2 ≤ 2147483647) (h3 : -2147483648 ≤ x3 ∧ x3 ≤ 2147483647) (h4 : -2147483648 ≤ x4 ∧ x4 ≤ 2147483647) (h5 : -2147483648 ≤ x5 ∧ x5 ≤ 2147483647) : rt_in 44 x1 x2 x3 x4 x5 := by
  exact ⟨(-2147483648), 2147483647, (-2147483648), 2147483647, (-2147483648), 2147483647, (-2147483648), 2147483647, (-2147483648), 2147483647, rt_f160, by omega, by omega, by omega, by omega, by omega⟩
theorem rt_op45 {x1 x2 x3 x4 x5 : Int} (h1 : -2147483648 ≤ x1 ∧ x1 ≤ 2147483647) (h2 : -2147483648 ≤ x2 ∧ x2 ≤ 2147483647) (h3 : -2147483648 ≤ x3 ∧ x3 ≤ 2147483647) (h4 : -2147483648 ≤ x4 ∧ x4 ≤ 2147483647) (h5 : -2147483648 ≤ x5 ∧ x5 ≤ 2147483647) : rt_in 45 x1 x2 x3 x4 x5 := by
  rcases Int.lt_or_le x1 0 with g | g
  ·
    exact ⟨(-2147483648), (-1), (-2147483648), 2147483647, (-2147483648), 2147483647, (-2147483648), 2147483647, (-2147483648), 2147483647, rt_f162, by omega, by omega, by omega, by omega, by omega⟩
  ·
    exact ⟨0, 2147483647, (-2147483648), 2147483647, (-2147483648), 2147483647, (-2147483648), 2147483647, (-2147483648), 2147483647, rt_f161, by omega, by omega, by omega, by omega, by omega⟩
theorem rt_op46 {x1 x2 x3 x4 x5 : Int} (h1 : -2147483648 ≤ x1 ∧ x1 ≤ 2147483647) (h2 : -2147483648 ≤ x2 ∧ x2 ≤ 2147483647) (h3 : -2147483648 ≤ x3 ∧ x3 ≤ 2147483647) (h4 : -2147483648 ≤ x4 ∧ x4 ≤ 2147483647) (h5 : -2147483648 ≤ x5 ∧ x5 ≤ 2147483647) : rt_in 46 x1 x2 x3 x4 x5 := by
  rcases Int.lt_or_le x1 0 with g | g
  ·
    rcases Int.lt_or_le x2 0 with g | g
    ·
      exact ⟨(-2147483648), (-1), (-2147483648), (-1), (-2147483648), 2147483647, (-2147483648), 2147483647, (-2147483648), 2147483647, rt_f163, by omega, by omega, by omega, by omega, by omega⟩
    ·
      rcases Int.lt_or_le x2 1 with g | g
      ·
        exact ⟨(-2147483648), (-1), 0, 0, (-2147483648), 2147483647, (-2147483648), 2147483647, (-2147483648), 2147483647, rt_f164, by omega, by omega, by omega, by omega, by omega⟩
      ·
        rcases Int.lt_or_le x2 2 with g | g
        ·
          exact ⟨(-2147483648), (-1), 1, 1, (-2147483648), 2147483647, (-2147483648), 2147483647, (-2147483648), 2147483647, rt_f165, by omega, by omega, by omega, by omega, by omega⟩
        ·
          rcases Int.lt_or_le x2 256 with g | g
          ·
            exact ⟨(-2147483648), (-1), 2, 255, (-2147483648), 2147483647, (-2147483648), 2147483647, (-2147483648), 2147483647, rt_f166, by omega, by omega, by omega, by omega, by omega⟩
          ·
            exact ⟨(-2147483648), (-1), 256, 2147483647, (-2147483648), 2147483647, (-2147483648), 2147483647, (-2147483648), 2147483647, rt_f167, by omega, by omega, by omega, by omega, by omega⟩
  ·
    rcases Int.lt_or_le x1 1 with g | g
    ·
      rcases Int.lt_or_le x2 0 with g | g
      ·
        exact ⟨0, 0, (-2147483648), (-1), (-2147483648), 2147483647, (-2147483648), 2147483647, (-2147483648), 2147483647, rt_f168, by omega, by omega, by omega, by omega, by omega⟩
      ·
        rcases Int.lt_or_le x2 1 with g | g
        ·
          exact ⟨0, 0, 0, 0, (-2147483648), 2147483647, (-2147483648), 2147483647, (-2147483648), 2147483647, rt_f169, by omega, by omega, by omega, by omega, by omega⟩
        ·
          rcases Int.lt_or_le x2 2 with g | g
          ·
            exact ⟨0, 0, 1, 1, (-2147483648), 2147483647, (-2147483648), 2147483647, (-2147483648), 2147483647, rt_f170, by omega, by omega, by omega, by omega, by omega⟩
          ·
            rcases Int.lt_or_le x2 256 with g | g
            ·
              exact ⟨0, 0, 2, 255, (-2147483648), 2147483647, (-2147483648), 2147483647, (-2147483648), 2147483647, rt_f171, by omega, by omega, by omega, by omega, by omega⟩
            ·
              exact ⟨0, 0, 256, 2147483647, (-2147483648), 2147483647, (-2147483648), 2147483647, (-2147483648), 2147483647, rt_f172, by omega, by omega, by omega, by omega, by omega⟩
    ·
      rcases Int.lt_or_le x1 2 with g | g
      ·
        rcases Int.lt_or_le x2 0 with g | g
        ·
          exact ⟨1, 1, (-2147483648), (-1), (-2147483648), 2147483647, (-2147483648), 2147483647, (-2147483648), 2147483647, rt_f173, by omega, by omega, by omega, by omega, by omega⟩
        ·
          rcases Int.lt_or_le x2 1 with g | g
          ·
            exact ⟨1, 1, 0, 0, (-2147483648), 2147483647, (-2147483648), 2147483647, (-2147483648), 2147483647, rt_f174, by omega, by omega, by omega, by omega, by omega⟩
          ·
            rcases Int.lt_or_le x2 2 with g | g
            ·
              exact ⟨1, 1, 1, 1, (-2147483648), 2147483647, (-2147483648), 2147483647, (-2147483648), 2147483647, rt_f175, by omega, by omega, by omega, by omega, by omega⟩
            ·
              rcases Int.lt_or_le x2 256 with g | g
              ·
                exact ⟨1, 1, 2, 255, (-2147483648), 2147483647, (-2147483648), 2147483647, (-2147483648), 2147483647, rt_f176, by omega, by omega, by omega, by omega, by omega⟩
              ·
                exact ⟨1, 1, 256, 2147483647, (-2147483648), 2147483647, (-2147483648), 2147483647, (-2147483648), 2147483647, rt_f177, by omega, by omega, by omega, by omega, by omega⟩
      ·
        rcases Int.lt_or_le x1 60 with g | g
        ·
          rcases Int.lt_or_le x2 0 with g | g
          ·
            exact ⟨2, 59, (-2147483648), (-1), (-2147483648), 2147483647, (-2147483648), 2147483647, (-2147483648), 2147483647, rt_f178, by omega, by omega, by omega, by omega, by omega⟩
          ·
            rcases Int.lt_or_le x2 1 with g | g
            ·
              exact ⟨2, 59, 0, 0, (-2147483648), 2147483647, (-2147483648), 2147483647, (-2147483648), 2147483647, rt_f179, by omega, by omega, by omega, by omega, by omega⟩
            ·
              rcases Int.lt_or_le x2 2 with g | g
              ·
                exact ⟨2, 59, 1, 1, (-2147483648), 2147483647, (-2147483648), 2147483647, (-2147483648), 2147483647, rt_f180, by omega, by omega, by omega, by omega, by omega⟩
              ·
                rcases Int.lt_or_le x2 256 with g | g
                ·
                  exact ⟨2, 59, 2, 255, (-2147483648), 2147483647, (-2147483648), 2147483647, (-2147483648), 2147483647, rt_f181, by omega, by omega, by omega, by omega, by omega⟩
                ·
                  exact ⟨2, 59, 256, 2147483647, (-2147483648), 2147483647, (-2147483648), 2147483647, (-2147483648), 2147483647, rt_f182, by omega, by omega, by omega, by omega, by omega⟩
        ·
          rcases Int.lt_or_le x2 0 with g | g
          ·
            exact ⟨60, 2147483647, (-2147483648), (-1), (-2147483648), 2147483647, (-2147483648), 2147483647, (-2147483648), 2147483647, rt_f183, by omega, by omega, by omega, by omega, by omega⟩
          ·
            rcases Int.lt_or_le x2 1 with g | g
            ·
              exact ⟨60, 2147483647, 0, 0, (-2147483648), 2147483647, (-2147483648), 2147483647, (-2147483648), 2147483647, rt_f184, by omega, by omega, by omega, by omega, by omega⟩
            ·
              rcases Int.lt_or_le x2 2 with g | g
              ·
                exact ⟨60, 2147483647, 1, 1, (-2147483648), 2147483647, (-2147483648), 2147483647, (-2147483648), 2147483647, rt_f185, by omega, by omega, by omega, by omega, by omega⟩
              ·
                rcases Int.lt_or_le x2 256 with g | g
                ·
                  exact ⟨60, 2147483647, 2, 255, (-2147483648), 2147483647, (-2147483648), 2147483647, (-2147483648), 2147483647, rt_f186, by omega, by omega, by omega, by omega, by omega⟩
                ·
                  exact ⟨60, 2147483647, 256, 2147483647, (-2147483648), 2147483647, (-2147483648), 2147483647, (-2147483648), 2147483647, rt_f187, by omega, by omega, by omega, by omega, by omega⟩
theorem rt_op47 {x1 x2 x3 x4 x5 : Int} (h1 : -2147483648 ≤ x1 ∧ x1 ≤ 2147483647) (h2 : -2147483648 ≤ x2 ∧ x2 ≤ 2147483647) (h3 : -2147483648 ≤ x3 ∧ x3 ≤ 2147483647) (h4 : -2147483648 ≤ x4 ∧ x4 ≤ 2147483647) (h5 : -2147483648 ≤ x5 ∧ x5 ≤ 2147483647) : rt_in 47 x1 x2 x3 x4 x5 := by
  exact ⟨(-2147483648), 2147483647, (-2147483648), 2147483647, (-2147483648), 2147483647, (-2147483648), 2147483647, (-2147483648), 2147483647, rt_f188, by omega, by omega, by omega, by omega, by omega⟩
theorem rt_op48 {x1 x2 x3 x4 x5 : Int} (h1 : -2147483648 ≤ x1 ∧ x1 ≤ 2147483647) (h2 : -2147483648 ≤ x2 ∧ x2 ≤ 2147483647) (h3 : -2147483648 ≤ x3 ∧ x3 ≤ 2147483647) (h4 : -2147483648 ≤ x4 ∧ x4 ≤ 2147483647) (h5 : -2147483648 ≤ x5 ∧ x5 ≤ 2147483647) : rt_in 48 x1 x2 x3 x4 x5 := by
  exact ⟨(-2147483648), 2147483647, (-2147483648), 2147483647, (-2147483648), 2147483647, (-2147483648), 2147483647, (-2147483648), 2147483647, rt_f189, by omega, by omega, by omega, by omega, by omega⟩
theorem rt_op49 {x1 x2 x3 x4 x5 : Int} (h1 : -2147483648 ≤ x1 ∧ x1 ≤ 2147483647) (h2 : -2147483648 ≤ x2 ∧ x2 ≤ 2147483647) (h3 : -2147483648 ≤ x3 ∧ x3 ≤ 2147483647) (h4 : -2147483648 ≤ x4 ∧ x4 ≤ 2147483647) (h5 : -2147483648 ≤ x5 ∧ x5 ≤ 2147483647) : rt_in 49 x1 x2 x3 x4 x5 := by
  exact ⟨(-2147483648), 2147483647, (-2147483648), 2147483647, (-2147483648), 2147483647, (-2147483648), 2147483647, (-2147483648), 2147483647, rt_f190, by omega, by omega, by omega, by omega, by omega⟩
theorem rt_op50 {x1 x2 x3 x4 x5 : Int} (h1 : -2147483648 ≤ x1 ∧ x1 ≤ 2147483647) (h2 : -2147483648 ≤ x2 ∧ x2 ≤ 2147483647) (h3 : -2147483648 ≤ x3 ∧ x3 ≤ 2147483647) (h4 : -2147483648 ≤ x4 ∧ x4 ≤ 2147483647) (h5 : -2147483648 ≤ x5 ∧ x5 ≤ 2147483647) : rt_in 50 x1 x2 x3 x4 x5 := by
  exact ⟨(-2147483648), 2147483647, (-2147483648), 2147483647, (-2147483648), 2147483647, (-2147483648), 2147483647, (-2147483648), 2147483647, rt_f191, by omega, by omega, by omega, by omega, by omega⟩
theorem rt_op51 {x1 x2 x3 x4 x5 : Int} (h1 : -2147483648 ≤ x1 ∧ x1 ≤ 2147483647) (h2 : -2147483648 ≤ x2 ∧ x2 ≤ 2147483647) (h3 : -2147483648 ≤ x3 ∧ x3 ≤ 2147483647) (h4 : -2147483648 ≤ x4 ∧ x4 ≤ 2147483647) (h5 : -2147483648 ≤ x5 ∧ x5 ≤ 2147483647) : rt_in 51 x1 x2 x3 x4 x5 := by
  exact ⟨(-2147483648), 2147483647, (-2147483648), 2147483647, (-2147483648), 2147483647, (-2147483648), 2147483647, (-2147483648), 2147483647, rt_f192, by omega, by omega, by omega, by omega, by omega⟩
theorem rt_op52 {x1 x2 x3 x4 x5 : Int} (h1 : -2147483648 ≤ x1 ∧ x1 ≤ 2147483647) (h2 : -2147483648 ≤ x2 ∧ x2 ≤ 2147483647) (h3 : -2147483648 ≤ x3 ∧ x3 ≤ 2147483647) (h4 : -2147483648 ≤ x4 ∧ x4 ≤ 2147483647) (h5 : -2147483648 ≤ x5 ∧ x5 ≤ 2147483647) : rt_in 52 x1 x2 x3 x4 x5 := by
  exact ⟨(-2147483648), 2147483647, (-2147483648), 2147483647, (-2147483648), 2147483647, (-2147483648), 2147483647, (-2147483648), 2147483647, rt_f193, by omega, by omega, by omega, by omega, by omega⟩
theorem rt_op53 {x1 x2 x3 x4 x5 : Int} (h1 : -2147483648 ≤ x1 ∧ x1 ≤ 2147483647) (h2 : -2147483648 ≤ x2 ∧ x2 ≤ 2147483647) (h3 : -2147483648 ≤ x3 ∧ x3 ≤ 2147483647) (h4 : -2147483648 ≤ x4 ∧ x4 ≤ 2147483647) (h5 : -2147483648 ≤ x5 ∧ x5 ≤ 2147483647) : rt_in 53 x1 x2 x3 x4 x5 := by
  exact ⟨(-2147483648), 2147483647, (-2147483648), 2147483647, (-2147483648), 2147483647, (-2147483648), 2147483647, (-2147483648), 2147483647, rt_f194, by omega, by omega, by omega, by omega, by omega⟩
theorem rt_op54 {x1 x2 x3 x4 x5 : Int} (h1 : -2147483648 ≤ x1 ∧ x1 ≤ 2147483647) (h2 : -2147483648 ≤ x2 ∧ x2 ≤ 2147483647) (h3 : -2147483648 ≤ x3 ∧ x3 ≤ 2147483647) (h4 : -2147483648 ≤ x4 ∧ x4 ≤ 2147483647) (h5 : -2147483648 ≤ x5 ∧ x5 ≤ 2147483647) : rt_in 54 x1 x2 x3 x4 x5 := by
  exact ⟨(-2147483648), 2147483647, (-2147483648), 2147483647, (-2147483648), 2147483647, (-2147483648), 2147483647, (-2147483648), 2147483647, rt_f195, by omega, by omega, by omega, by omega, by omega⟩
theorem rt_op55 {x1 x2 x3 x4 x5 : Int} (h1 : -2147483648 ≤ x1 ∧ x1 ≤ 2147483647) (h2 : -2147483648 ≤ x2 ∧ x2 ≤ 2147483647) (h3 : -2147483648 ≤ x3 ∧ x3 ≤ 2147483647) (h4 : -2147483648 ≤ x4 ∧ x4 ≤ 2147483647) (h5 : -2147483648 ≤ x5 ∧ x5 ≤ 2147483647) : rt_in 55 x1 x2 x3 x4 x5 := by
  exact ⟨(-2147483648), 2147483647, (-2147483648), 2147483647, (-2147483648), 2147483647, (-2147483648), 2147483647, (-2147483648), 2147483647, rt_f196, by omega, by omega, by omega, by omega, by omega⟩
theorem rt_op56 {x1 x2 x3 x4 x5 : Int} (h1 : -2147483648 ≤ x1 ∧ x1 ≤ 2147483647) (h2 : -2147483648 ≤ x2 ∧ x2 ≤ 2147483647) (h3 : -2147483648 ≤ x3 ∧ x3 ≤ 2147483647) (h4 : -2147483648 ≤ x4 ∧ x4 ≤ 2147483647) (h5 : -2147483648 ≤ x5 ∧ x5 ≤ 2147483647) : rt_in 56 x1 x2 x3 x4 x5 := by
  exact ⟨(-2147483648), 2147483647, (-2147483648), 2147483647, (-2147483648), 2147483647, (-2147483648), 2147483647, (-2147483648), 2147483647, rt_f197, by omega, by omega, by omega, by omega, by omega⟩
theorem rt_op57 {x1 x2 x3 x4 x5 : Int} (h1 : -2147483648 ≤ x1 ∧ x1 ≤ 2147483647) (h2 : -2147483648 ≤ x2 ∧ x2 ≤ 2147483647) (h3 : -2147483648 ≤ x3 ∧ x3 ≤ 2147483647) (h4 : -2147483648 ≤ x4 ∧ x4 ≤ 2147483647) (h5 : -2147483648 ≤ x5 ∧ x5 ≤ 2147483647) : rt_in 57 x1 x2 x3 x4 x5 := by
  exact ⟨(-2147483648), 2147483647, (-2147483648), 2147483647, (-2147483648), 2147483647, (-2147483648), 2147483647, (-2147483648), 2147483647, rt_f198, by omega, by omega, by omega, by omega, by omega⟩
theorem rt_op58 {x1 x2 x3 x4 x5 : Int} (h1 : -2147483648 ≤ x1 ∧ x1 ≤ 2147483647) (h2 : -2147483648 ≤ x2 ∧ x2 ≤ 2147483647) (h3 : -2147483648 ≤ x3 ∧ x3 ≤ 2147483647) (h4 : -2147483648 ≤ x4 ∧ x4 ≤ 2147483647) (h5 : -2147483648 ≤ x5 ∧ x5 ≤ 2147483647) : rt_in 58 x1 x2 x3 x4 x5 := by
  exact ⟨(-2147483648), 2147483647, (-2147483648), 2147483647, (-2147483648), 2147483647, (-2147483648), 2147483647, (-2147483648), 2147483647, rt_f199, by omega, by omega, by omega, by omega, by omega⟩
theorem rt_op59 {x1 x2 x3 x4 x5 : Int} (h1 : -2147483648 ≤ x1 ∧ x1 ≤ 2147483647) (h2 : -2147483648 ≤ x2 ∧ x2 ≤ 2147483647) (h3 : -2147483648 ≤ x3 ∧ x3 ≤ 2147483647) (h4 : -2147483648 ≤ x4 ∧ x4 ≤ 2147483647) (h5 : -2147483648 ≤ x5 ∧ x5 ≤ 2147483647) : rt_in 59 x1 x2 x3 x4 x5 := by
  exact ⟨(-2147483648), 2147483647, (-2147483648), 2147483647, (-2147483648), 2147483647, (-2147483648), 2147483647, (-2147483648), 2147483647, rt_f200, by omega, by omega, by omega, by omega, by omega⟩
theorem rt_op60 {x1 x2 x3 x4 x5 : Int} (h1 : -2147483648 ≤ x1 ∧ x1 ≤ 2147483647) (h2 : -2147483648 ≤ x2 ∧ x2 ≤ 2147483647) (h3 : -2147483648 ≤ x3 ∧ x3 ≤ 2147483647) (h4 : -2147483648 ≤ x4 ∧ x4 ≤ 2147483647) (h5 : -2147483648 ≤ x5 ∧ x5 ≤ 2147483647) : rt_in 60 x1 x2 x3 x4 x5 := by
  exact ⟨(-2147483648), 2147483647, (-2147483648), 2147483647, (-2147483648), 2147483647, (-2147483648), 2147483647, (-2147483648), 2147483647, rt_f201, by omega, by omega, by omega, by omega, by omega⟩
theorem rt_op61 {x1 x2 x3 x4 x5 : Int} (h1 : -2147483648 ≤ x1 ∧ x1 ≤ 2147483647) (h2 : -2147483648 ≤ x2 ∧ x2 ≤ 2147483647) (h3 : -2147483648 ≤ x3 ∧ x3 ≤ 2147483647) (h4 : -2147483648 ≤ x4 ∧ x4 ≤ 2147483647) (h5 : -2147483648 ≤ x5 ∧ x5 ≤ 2147483647) : rt_in 61 x1 x2 x3 x4 x5 := by
  exact ⟨(-2147483648), 2147483647, (-2147483648), 2147483647, (-2147483648), 2147483647, (-2147483648), 2147483647, (-2147483648), 2147483647, rt_f202, by omega, by omega, by omega, by omega, by omega⟩
theorem rt_op62 {x1 x2 x3 x4 x5 : Int} (h1 : -2147483648 ≤ x1 ∧ x1 ≤ 2147483647) (h2 : -2147483648 ≤ x2 ∧ x2 ≤ 2147483647) (h3 : -2147483648 ≤ x3 ∧ x3 ≤ 2147483647) (h4 : -2147483648 ≤ x4 ∧ x4 ≤ 2147483647) (h5 : -2147483648 ≤ x5 ∧ x5 ≤ 2147483647) : rt_in 62 x1 x2 x3 x4 x5 := by
  exact ⟨(-2147483648), 2147483647, (-2147483648), 2147483647, (-2147483648), 2147483647, (-2147483648), 2147483647, (-2147483648), 2147483647, rt_f203, by omega, by omega, by omega, by omega, by omega⟩
theorem rt_op63 {x1 x2 x3 x4 x5 : Int} (h1 : -2147483648 ≤ x1 ∧ x1 ≤ 2147483647) (h2 : -2147483648 ≤ x2 ∧ x2 ≤ 2147483647) (h3 : -2147483648 ≤ x3 ∧ x3 ≤ 2147483647) (h4 : -2147483648 ≤ x4 ∧ x4 ≤ 2147483647) (h5 : -2147483648 ≤ x5 ∧ x5 ≤ 2147483647) : rt_in 63 x1 x2 x3 x4 x5 := by
  exact ⟨(-2147483648), 2147483647, (-2147483648), 2147483647, (-2147483648), 2147483647, (-2147483648), 2147483647, (-2147483648), 2147483647, rt_f204, by omega, by omega, by omega, by omega, by omega⟩
theorem rt_ops {x1 x2 x3 x4 x5 : Int} (h1 : -2147483648 ≤ x1 ∧ x1 ≤ 2147483647) (h2 : -2147483648 ≤ x2 ∧ x2 ≤ 2147483647) (h3 : -2147483648 ≤ x3 ∧ x3 ≤ 2147483647) (h4 : -2147483648 ≤ x4 ∧ x4 ≤ 2147483647) (h5 : -2147483648 ≤ x5 ∧ x5 ≤ 2147483647) : ∀ op : Nat, op < 64 → rt_in op x1 x2 x3 x4 x5
  | 0, _ => rt_op0 h1 h2 h3 h4 h5
  | 1, _ => rt_op1 h1 h2 h3 h4 h5
  | 2, _ => rt_op2 h1 h2 h3 h4 h5
  | 3, _ => rt_op3 h1 h2 h3 h4 h5
  | 4, _ => rt_op4 h1 h2 h3 h4 h5
  | 5, _ => rt_op5 h1 h2 h3 h4 h5
  | 6, _ => rt_op6 h1 h2 h3 h4 h5
  | 7, _ => rt_op7 h1 h2 h3 h4 h5
  | 8, _ => rt_op8 h1 h2 h3 h4 h5
  | 9, _ => rt_op9 h1 h2 h3 h4 h5
  | 10, _ => rt_op10 h1 h2 h3 h4 h5
  | 11, _ => rt_op11 h1 h2 h3 h4 h5
  | 12, _ => rt_op12 h1 h2 h3 h4 h5
  | 13, _ => rt_op13 h1 h2 h3 h4 h5
  | 14, _ => rt_op14 h1 h2 h3 h4 h5
  | 15, _ => rt_op15 h1 h2 h3 h4 h5
  | 16, _ => rt_op16 h1 h2 h3 h4 h5
  | 17, _ => rt_op17 h1 h2 h3 h4 h5
  | 18, _ => rt_op18 h1 h2 h3 h4 h5
  | 19, _ => rt_op19 h1 h2 h3 h4 h5
  | 20, _ => rt_op20 h1 h2 h3 h4 h5
  | 21, _ => rt_op21 h1 h2 h3 h4 h5
  | 22, _ => rt_op22 h1 h2 h3 h4 h5
  | 23, _ => rt_op23 h1 h2 h3 h4 h5
  | 24, _ => rt_op24 h1 h2 h3 h4 h5
  | 25, _ => rt_op25 h1 h2 h3 h4 h5
  | 26, _ => rt_op26 h1 h2 h3 h4 h5
  | 27, _ => rt_op27 h1 h2 h3 h4 h5
  | 28, _ => rt_op28 h1 h2 h3 h4 h5
  | 29, _ => rt_op29 h1 h2 h3 h4 h5
  | 30, _ => rt_op30 h1 h2 h3 h4 h5
  | 31, _ => rt_op31 h1 h2 h3 h4 h5
  | 32, _ => rt_op32 h1 h2 h3 h4 h5
  | 33, _ => rt_op33 h1 h2 h3 h4 h5
  | 34, _ => rt_op34 h1 h2 h3 h4 h5
  | 35, _ => rt_op35 h1 h2 h3 h4 h5
  | 36, _ => rt_op36 h1 h2 h3 h4 h5
  | 37, _ => rt_op37 h1 h2 h3 h4 h5
  | 38, _ => rt_op38 h1 h2 h3 h4 h5
  | 39, _ => rt_op39 h1 h2 h3 h4 h5
  | 40, _ => rt_op40 h1 h2 h3 h4 h5
  | 41, _ => rt_op41 h1 h2 h3 h4 h5
  | 42, _ => rt_op42 h1 h2 h3 h4 h5
  | 43, _ => rt_op43 h1 h2 h3 h4 h5
  | 44, _ => rt_op44 h1 h2 h3 h4 h5
  | 45, _ => rt_op45 h1 h2 h3 h4 h5
  | 46, _ => rt_op46 h1 h2 h3 h4 h5
  | 47, _ => rt_op47 h1 h2 h3 h4 h5
  | 48, _ => rt_op48 h1 h2 h3 h4 h5
  | 49, _ => rt_op49 h1 h2 h3 h4 h5
  | 50, _ => rt_op50 h1 h2 h3 h4 h5
  | 51, _ => rt_op51 h1 h2 h3 h4 h5
  | 52, _ => rt_op52 h1 h2 h3 h4 h5
  | 53, _ => rt_op53 h1 h2 h3 h4 h5
  | 54, _ => rt_op54 h1 h2 h3 h4 h5
  | 55, _ => rt_op55 h1 h2 h3 h4 h5
  | 56, _ => rt_op56 h1 h2 h3 h4 h5
  | 57, _ => rt_op57 h1 h2 h3 h4 h5
  | 58, _ => rt_op58 h1 h2 h3 h4 h5
  | 59, _ => rt_op59 h1 h2 h3 h4 h5
  | 60, _ => rt_op60 h1 h2 h3 h4 h5
  | 61, _ => rt_op61 h1 h2 h3 h4 h5
  | 62, _ => rt_op62 h1 h2 h3 h4 h5
  | 63, _ => rt_op63 h1 h2 h3 h4 h5
  | n + 64, h => absurd h (by omega)
theorem rt_len : ∀ n : Nat, n < 6 → rt_ok n []
  | 0, _ => rt_f0
  | 1, _ => rt_f1
  | 2, _ => rt_f2
  | 3, _ => rt_f3
  | 4, _ => rt_f4
  | 5, _ => rt_f5
  | n + 6, h => absurd h (by omega)
end RTX
