section RTZ
set_option maxRecDepth 100000
theorem rt_n0 {C : String} {T : u_T} : ∀ w ∈ u_ws C T 0, w ∈ re_tbl := fun w hw => absurd (show w ∈ ([] : List Cond) from hw) List.not_mem_nil
theorem rt_kn {s : State} {args : Array Value} {C : String} {T : u_T} {N n : Nat} (hts : ∀ w ∈ lw_tbl, w.before args s = true) (hin : ∀ w ∈ u_ws C T N, w ∈ re_tbl) (hi : (Cond.instantiable C n).before args s = true) : ∃ d : ClassId × (Nat → Nat), u_Kn s C T N d.1 d.2 := by
  obtain ⟨cC, iS, h⟩ := u_known hts (fun w hw => re_lw (hin w hw)) hi
  exact ⟨(cC, iS), h⟩
theorem rt_KD {s : State} {args : Array Value} (hts : ∀ w ∈ lw_tbl, w.before args s = true) : ∃ D : va_G, ∀ (c : Nat) (q : vw_C), vwCl[c]? = some q → u_Kn s q.1 q.2.1 q.2.2 (D.1 c) (D.2 c) := by
  have h : ∀ q ∈ vwCl, ∃ d : ClassId × (Nat → Nat), u_Kn s q.1 q.2.1 q.2.2 d.1 d.2 := rt_c (rt_kn hts reJ0 (hts _ (re_t21 _ (List.mem_of_getElem? (i := 221) rfl)))) (rt_c (rt_kn hts rt_n0 (hts _ (re_t21 _ (List.mem_of_getElem? (i := 91) rfl)))) (rt_c (rt_kn hts rt_n0 (hts _ (re_t22 _ (List.mem_of_getElem? (i := 36) rfl)))) (rt_c (rt_kn hts reJx4a65c (hts _ (re_t2 _ (List.mem_of_getElem? (i := 42) rfl)))) (rt_c (rt_kn hts reX0 (hts _ (re_t4 _ (List.mem_of_getElem? (i := 192) rfl)))) (rt_c (rt_kn hts reX1 (hts _ (re_t2 _ (List.mem_of_getElem? (i := 187) rfl)))) (rt_c (rt_kn hts reX2 (hts _ (re_t2 _ (List.mem_of_getElem? (i := 194) rfl)))) (rt_c (rt_kn hts reX3 (hts _ (re_t1 _ (List.mem_of_getElem? (i := 53) rfl)))) (rt_c (rt_kn hts reX4 (hts _ (re_t6 _ (List.mem_of_getElem? (i := 87) rfl)))) (rt_c (rt_kn hts reX5 (hts _ (re_t1 _ (List.mem_of_getElem? (i := 176) rfl)))) (rt_c (rt_kn hts reX6 (hts _ (re_t4 _ (List.mem_of_getElem? (i := 132) rfl)))) (rt_c (rt_kn hts reX7 (hts _ (re_t2 _ (List.mem_of_getElem? (i := 202) rfl)))) (rt_c (rt_kn hts reX8 (hts _ (re_t3 _ (List.mem_of_getElem? (i := 82) rfl)))) (rt_c (rt_kn hts reX9 (hts _ (re_t1 _ (List.mem_of_getElem? (i := 182) rfl)))) (rt_c (rt_kn hts reX10 (hts _ (re_t1 _ (List.mem_of_getElem? (i := 132) rfl)))) (rt_c (rt_kn hts reX11 (hts _ (re_t3 _ (List.mem_of_getElem? (i := 89) rfl)))) (rt_c (rt_kn hts reX12 (hts _ (re_t1 _ (List.mem_of_getElem? (i := 43) rfl)))) (rt_c (rt_kn hts rt_n0 (hts _ (re_t17 _ (List.mem_of_getElem? (i := 181) rfl)))) (rt_c (rt_kn hts reX14 (hts _ (re_t14 _ (List.mem_of_getElem? (i := 202) rfl)))) (rt_n)))))))))))))))))))
  have h0 : ∀ c : Nat, ∃ d : ClassId × (Nat → Nat), ∀ q, vwCl[c]? = some q → u_Kn s q.1 q.2.1 q.2.2 d.1 d.2 := fun c => by
    cases hc : vwCl[c]? with
    | none => exact ⟨(0, fun _ => 0), fun q hq => by cases hq⟩
    | some q =>
      obtain ⟨d, hd⟩ := h q (List.mem_of_getElem? hc)
      exact ⟨d, fun q' hq' => by cases hq'; exact hd⟩
  obtain ⟨d, hd⟩ := Classical.axiomOfChoice h0
  exact ⟨(fun c => (d c).1, fun c => (d c).2), hd⟩
theorem rt_dcl_in : ∀ y ∈ rt_dcl, Cond.declares y ∈ lw_tbl := rt_c (re_t7 _ (List.mem_of_getElem? (i := 31) rfl)) (rt_c (re_t7 _ (List.mem_of_getElem? (i := 32) rfl)) (rt_c (re_t7 _ (List.mem_of_getElem? (i := 33) rfl)) (rt_c (re_t7 _ (List.mem_of_getElem? (i := 34) rfl)) (rt_c (re_t7 _ (List.mem_of_getElem? (i := 35) rfl)) (rt_c (re_t7 _ (List.mem_of_getElem? (i := 36) rfl)) (rt_n))))))
theorem rt_Zf0 {s : State} {args : Array Value} (hts : ∀ w ∈ lw_tbl, w.before args s = true) (hs : ∀ w ∈ flatC (Jvm.Cond.and given_1 narrow_1), w.before args s = true) : rt_Zf (fun q => s.heap.size ≤ q) s s.heap :=
  ⟨vx_Zqof (hts _ (re_t7 _ (List.mem_of_getElem? (i := 55) rfl))) (hts _ (re_t1 _ (List.mem_of_getElem? (i := 23) rfl))) (hs _ (by decide +kernel)) (fun a h => Nat.not_le.mpr h), vx_Zqof (hts _ (re_t7 _ (List.mem_of_getElem? (i := 57) rfl))) (hts _ (re_t1 _ (List.mem_of_getElem? (i := 23) rfl))) (hs _ (by decide +kernel)) (fun a h => Nat.not_le.mpr h), fun y hy => va_Nw.of rfl (hts _ (rt_dcl_in y hy))⟩
theorem rt_nsf_in : ∀ q ∈ ra_nsf, Cond.fieldLinkNest q.1 q.2.1 q.2.2.1 q.2.2.2.1 q.2.2.2.2.1 q.2.2.2.2.2 ∈ lw_tbl := rt_c (re_t3 _ (List.mem_of_getElem? (i := 94) rfl)) (rt_c (re_t4 _ (List.mem_of_getElem? (i := 197) rfl)) (rt_c (re_t5 _ (List.mem_of_getElem? (i := 186) rfl)) (rt_n)))
theorem rt_nsm_in : ∀ q ∈ ra_nsm, Cond.methodLinkNest q.1 q.2.1 q.2.2.1 q.2.2.2 ∈ lw_tbl := rt_c (re_t1 _ (List.mem_of_getElem? (i := 133) rfl)) (rt_c (re_t1 _ (List.mem_of_getElem? (i := 183) rfl)) (rt_c (re_t2 _ (List.mem_of_getElem? (i := 195) rfl)) (rt_c (re_t2 _ (List.mem_of_getElem? (i := 203) rfl)) (rt_c (re_t3 _ (List.mem_of_getElem? (i := 90) rfl)) (rt_c (re_t4 _ (List.mem_of_getElem? (i := 140) rfl)) (rt_c (re_t4 _ (List.mem_of_getElem? (i := 199) rfl)) (rt_c (re_t5 _ (List.mem_of_getElem? (i := 13) rfl)) (rt_c (re_t6 _ (List.mem_of_getElem? (i := 88) rfl)) (rt_c (re_t6 _ (List.mem_of_getElem? (i := 93) rfl)) (rt_c (re_t17 _ (List.mem_of_getElem? (i := 189) rfl)) (rt_n)))))))))))
theorem rt_msg_in : ∀ q ∈ ra_msg, Cond.stringRef q.1 q.2.1 q.2.2 ∈ lw_tbl := rt_c (re_t10 _ (List.mem_of_getElem? (i := 6) rfl)) (rt_c (re_t10 _ (List.mem_of_getElem? (i := 34) rfl)) (rt_c (re_t10 _ (List.mem_of_getElem? (i := 161) rfl)) (rt_c (re_t10 _ (List.mem_of_getElem? (i := 205) rfl)) (rt_c (re_t13 _ (List.mem_of_getElem? (i := 190) rfl)) (rt_c (re_t13 _ (List.mem_of_getElem? (i := 213) rfl)) (rt_c (re_t14 _ (List.mem_of_getElem? (i := 48) rfl)) (rt_c (re_t14 _ (List.mem_of_getElem? (i := 67) rfl)) (rt_c (re_t14 _ (List.mem_of_getElem? (i := 148) rfl)) (rt_c (re_t14 _ (List.mem_of_getElem? (i := 153) rfl)) (rt_c (re_t14 _ (List.mem_of_getElem? (i := 166) rfl)) (rt_n)))))))))))
theorem rt_msg_ex : ∀ q ∈ ra_msg, Cond.exactly (.string q.1 q.2.1) "java/lang/String" ∈ flatC (Jvm.Cond.and given_1 narrow_1) := rt_c (by decide +kernel) (rt_c (by decide +kernel) (rt_c (by decide +kernel) (rt_c (by decide +kernel) (rt_c (by decide +kernel) (rt_c (by decide +kernel) (rt_c (by decide +kernel) (rt_c (by decide +kernel) (rt_c (by decide +kernel) (rt_c (by decide +kernel) (rt_c (by decide +kernel) (rt_n)))))))))))
theorem rt_aov_in : ∀ t ∈ ra_aov, Cond.arrayOver t ∈ lw_tbl := rt_c (re_t14 _ (List.mem_of_getElem? (i := 212) rfl)) (rt_c (re_t14 _ (List.mem_of_getElem? (i := 210) rfl)) (rt_c (re_t2 _ (List.mem_of_getElem? (i := 193) rfl)) (rt_c (re_t2 _ (List.mem_of_getElem? (i := 200) rfl)) (rt_c (re_t1 _ (List.mem_of_getElem? (i := 51) rfl)) (rt_c (re_t7 _ (List.mem_of_getElem? (i := 13) rfl)) (rt_n))))))
theorem rt_yes_in : ∀ q ∈ ra_yes, Cond.castable q.1 q.2 ∈ lw_tbl := rt_c (re_t7 _ (List.mem_of_getElem? (i := 30) rfl)) (rt_c (re_t10 _ (List.mem_of_getElem? (i := 27) rfl)) (rt_c (re_t9 _ (List.mem_of_getElem? (i := 239) rfl)) (rt_c (re_t17 _ (List.mem_of_getElem? (i := 182) rfl)) (rt_c (re_t23 _ (List.mem_of_getElem? (i := 155) rfl)) (rt_c (re_t23 _ (List.mem_of_getElem? (i := 164) rfl)) (rt_n))))))
theorem rt_no_in : ∀ q ∈ ra_no, Cond.not (.castable q.1 q.2) ∈ flatC (Jvm.Cond.and given_1 narrow_1) := rt_c (by decide +kernel) (rt_c (by decide +kernel) (rt_c (by decide +kernel) (rt_c (by decide +kernel) (rt_n))))
theorem rt_yc {args : Array Value} {s : State} {C T : String} (h : (Cond.castable C T).before args s = true) : ra_Yc C T s := by
  simp only [Cond.before, Cond.holds, Cond.value] at h
  cases h1 : s.vm.findClass C with
  | none => simp [h1] at h
  | some c =>
    cases h2 : s.vm.findClass T with
    | none => simp [h1, h2] at h
    | some t =>
      simp [h1, h2] at h
      exact ⟨c, t, h1, h2, h⟩
theorem rt_msg1 {args : Array Value} {s : State} {own tx : String} {k : Nat} (h1 : (Cond.stringRef own k tx).before args s = true) (h2 : (Cond.exactly (.string own k) "java/lang/String").before args s = true) : ∃ a, vk_R own k tx a s := by
  obtain ⟨a, c, cA, kA, q1, -⟩ := Cond.exactly_spec (args := args) (first := s) (o := none) (s := s) (idx := []) (t := .string own k) (cls := "java/lang/String") h2
  exact ⟨a, vk_R.of h1 q1⟩
theorem rt_sio {s : State} {args : Array Value} {sa : List Nat} {C n d : String} {A : Nat → Prop} (h : va_Zq C n d A s s.heap) : ∃ v, va_Z C n d v A s s.heap ∧ ra_R sa (8, 0, 0) v := by
  rcases h with h | ⟨t, h⟩
  · exact ⟨.null, h, Or.inl rfl⟩
  · exact ⟨.ref t, h, Or.inr ⟨t, rfl⟩⟩
/-- the cells that are only read, with their addresses -/
def rt_WS (a0 a1 a2 b L : Nat) (cI cB cO cS : ClassId) (ad9 : Nat → Nat × Nat) (xs : Nat → Int32) : va_W := (a0, .inl (cB, 0, .inl (fun _ => 0))) :: (a1, .inl (cO, 0, .inr (.inr (.inr (.inr (fun _ => none)))))) :: (a2, .inl (cS, 67, .inr (.inr (.inr (.inr (fun j => some (ad9 (j + 1)).1)))))) :: (rt_Wx (fun i => (ad9 i).1) (fun i => (ad9 i).2) cB 0 rt_tx9 ++ [(b, .inl (cI, L, .inl xs))])
section WS
variable {a0 a1 a2 b L : Nat} {cI cB cO cS : ClassId} {ad9 : Nat → Nat × Nat} {xs : Nat → Int32}
theorem rt_WS_map : (rt_WS a0 a1 a2 b L cI cB cO cS ad9 xs).map (fun q => q.1) = a0 :: a1 :: a2 :: ((rt_Wx (fun i => (ad9 i).1) (fun i => (ad9 i).2) cB 0 rt_tx9).map (fun q => q.1) ++ [b]) := by
  unfold rt_WS
  rw [List.map_cons, List.map_cons, List.map_cons, List.map_append]
  all_goals rfl
theorem rt_WS_ad {j : Nat} (hj : j < 68) : ((rt_WS a0 a1 a2 b L cI cB cO cS ad9 xs).map (fun q => q.1))[3 + 2 * j]? = some (ad9 j).1 ∧ ((rt_WS a0 a1 a2 b L cI cB cO cS ad9 xs).map (fun q => q.1))[4 + 2 * j]? = some (ad9 j).2 := by
  have h := rt_Wx_ad (aK := fun i => (ad9 i).1) (aV := fun i => (ad9 i).2) (cB := cB) rt_tx9 0 j (by rw [rt_tx_len]; exact hj)
  rw [Nat.zero_add] at h
  have hl : ((rt_Wx (fun i => (ad9 i).1) (fun i => (ad9 i).2) cB 0 rt_tx9).map (fun q => q.1)).length = 136 := by rw [List.length_map, rt_Wx_len, rt_tx_len]
  rw [rt_WS_map]
  refine ⟨?_, ?_⟩
  · rw [show 3 + 2 * j = 2 * j + 1 + 1 + 1 by omega, List.getElem?_cons_succ, List.getElem?_cons_succ, List.getElem?_cons_succ, List.getElem?_append_left (by omega)]
    exact h.1
  · rw [show 4 + 2 * j = 2 * j + 1 + 1 + 1 + 1 by omega, List.getElem?_cons_succ, List.getElem?_cons_succ, List.getElem?_cons_succ, List.getElem?_append_left (by omega)]
    exact h.2
theorem rt_WS_b : ((rt_WS a0 a1 a2 b L cI cB cO cS ad9 xs).map (fun q => q.1))[139]? = some b := by
  have hl : ((rt_Wx (fun i => (ad9 i).1) (fun i => (ad9 i).2) cB 0 rt_tx9).map (fun q => q.1)).length = 136 := by rw [List.length_map, rt_Wx_len, rt_tx_len]
  rw [rt_WS_map, show 139 = 136 + 1 + 1 + 1 by rfl, List.getElem?_cons_succ, List.getElem?_cons_succ, List.getElem?_cons_succ, List.getElem?_append_right (by omega), hl]
  all_goals rfl
theorem rt_WS_len : (rt_WS a0 a1 a2 b L cI cB cO cS ad9 xs).length = ra_S0 := by
  unfold rt_WS
  rw [List.length_cons, List.length_cons, List.length_cons, List.length_append, rt_Wx_len, rt_tx_len]
  all_goals rfl
end WS
theorem rt_world {args : Array Value} {s : State} {b L : Nat} {xs : Nat → Int32} (hts : ∀ w ∈ lw_tbl, w.before args s = true) (hs : ∀ w ∈ flatC (Jvm.Cond.and given_1 narrow_1), w.before args s = true) (hX : va_X b L xs s s.heap) :
    ∃ (D : va_G) (tys : List (ClassId × FieldType)) (wS : va_W), va_K D vwCl tys s ∧ ra_Sw D (fun q => s.heap.size ≤ q) s s.heap wS ∧ (∀ ex, (∀ j, j < L → ∀ ad, ra_R ad (ra_at (0, Int.negSucc 2147483647, Int.ofNat 2147483647) ex j) (.int (xs j))) → ra_G (rt_Aw ++ [(1, 0, L, (0, Int.negSucc 2147483647, Int.ofNat 2147483647), ex, [])]) rt_ta (wS.map (fun q => q.1)) tys wS) ∧ (wS.map (fun q => q.1))[139]? = some b := by
  obtain ⟨D, hKc⟩ := rt_KD hts
  obtain ⟨cI, hI, nI⟩ := rt_cP (hts _ (re_t1 _ (List.mem_of_getElem? (i := 128) rfl)))
  obtain ⟨cB, hB, nB⟩ := rt_cP (hts _ (re_t1 _ (List.mem_of_getElem? (i := 127) rfl)))
  obtain ⟨cO, hO, rO⟩ := rt_cO (hts _ (re_t7 _ (List.mem_of_getElem? (i := 13) rfl)))
  obtain ⟨cS, hS, rS⟩ := rt_cO (hts _ (re_t24 _ (List.mem_of_getElem? (i := 19) rfl)))
  have hAn : ∀ a : Nat, a < s.heap.size → ¬ (s.heap.size ≤ a) := fun a h => Nat.not_le.mpr h
  have hw : ∀ w ∈ rt_wds, w.before args s = true := fun w h => hs w (rt_wds_in w h)
  have ht0 : ∀ i : Nat, ∃ q : Nat × Nat, ∀ z, rt_tx9[i]? = some z → rt_Tq args s (rt_tm z) z.2.2 q := fun i => by
    cases hc : rt_tx9[i]? with
    | none => exact ⟨(0, 0), fun z hz => by cases hz⟩
    | some z =>
      obtain ⟨q, hq⟩ := rt_tx (rt_tm z) z.2.2 (rt_tx_ok z (List.mem_of_getElem? hc)).1 (fun w h => hw w (List.mem_append_right _ (List.mem_flatMap.mpr ⟨z, List.mem_of_getElem? hc, h⟩)))
      exact ⟨q, fun z' hz' => by cases hz'; exact hq⟩
  obtain ⟨ad9, h9⟩ := Classical.axiomOfChoice ht0
  obtain ⟨a0, e0, T0⟩ := va_Tof (args := args) (s := s) (tm := .static "SqlStore" "NO_BYTES" "[B") (ty := .byte) (N := 0) (f := fun j => .int ((fun _ => (0 : Int32)) j)) (A := fun z => s.heap.size ≤ z) (by decide) (hs _ (by decide +kernel)) (va_eqt (hs _ (by decide +kernel))) (fun j hj => absurd hj (Nat.not_lt_zero j)) hAn
  obtain ⟨a1, e1, T1⟩ := va_Tof (args := args) (s := s) (tm := .static "java/util/ArrayList" "DEFAULTCAPACITY_EMPTY_ELEMENTDATA" "[Ljava/lang/Object;") (ty := .object "java/lang/Object") (N := 0) (f := fun j => va_rf ((fun _ => (none : Option Nat)) j)) (A := fun z => s.heap.size ≤ z) (by decide) (hs _ (by decide +kernel)) (va_eqt (hs _ (by decide +kernel))) (fun j hj => absurd hj (Nat.not_lt_zero j)) hAn
  have hz2 : ∀ j, j < 67 → ∃ z, rt_tx9[j + 1]? = some z := fun j hj => ⟨_, List.getElem?_eq_getElem (by rw [rt_tx_len]; omega)⟩
  obtain ⟨a2, e2, T2⟩ := va_Tof (args := args) (s := s) (tm := rt_tW) (ty := .object "java/lang/String") (N := 67) (f := fun j => va_rf ((fun i => some (ad9 (i + 1)).1) j)) (A := fun z => s.heap.size ≤ z) (by decide) (hs _ (by decide +kernel)) (va_eqt (hs _ (by decide +kernel))) (fun j hj => by
    obtain ⟨z, hz⟩ := hz2 j hj
    have h1 := rt_we_in (L := rt_tx9.tail) (j0 := 0) (j := j) (z := z) (by rw [List.getElem?_tail]; exact hz)
    rw [Nat.zero_add] at h1
    exact va_eqv (hw _ (List.mem_append_left _ h1)) (h9 (j + 1) z hz).1) hAn
  have hall : ∀ q ∈ rt_WS a0 a1 a2 b L cI cB cO cS ad9 xs, ra_qt D vwCl s q s.heap := by
    unfold rt_WS
    refine rt_c (rt_qV T0 hB) (rt_c (rt_qR T1 hO) (rt_c (rt_qR T2 hS) (fun q hq => ?_)))
    rcases List.mem_append.mp hq with hq | hq
    · refine rt_Wx_all (P := fun q => ra_qt D vwCl s q s.heap) rt_tx9 0 (fun j z hz => ?_) q hq
      rw [Nat.zero_add]
      obtain ⟨g0, g1, g2, g3, g4⟩ := h9 j z hz
      exact ⟨rt_qS g1 g2 g3 hKc, rt_qV g4 hB⟩
    · rw [List.mem_singleton] at hq
      subst hq
      obtain ⟨scr, h1, h2, h3, h4, h5⟩ := hX
      refine ⟨scr, .int, h1, hI, h2, h3, (by show L ≤ _; omega), (by rw [h4]; all_goals rfl), fun j hj => ?_⟩
      rw [h5 j hj]
      exact (arrV_read cI (fun j => Value.int (xs j)) hj).symm
  refine ⟨D, [(cI, .int), (cB, .byte), (cI, .int), (cI, .int), (cI, .int), (cI, .int), (cI, .int), (cO, .object "java/lang/Object"), (cS, .object "java/lang/String")], rt_WS a0 a1 a2 b L cI cB cO cS ad9 xs, ⟨hKc, ?_⟩, ⟨fun k q hq => hall q (List.mem_of_getElem? hq), fun k q hq => hAn _ (hall q (List.mem_of_getElem? hq)).lt, rt_WS_len, ?_⟩, ?_, rt_WS_b⟩
  · intro k q hk
    have h : ∀ q ∈ [((cI, .int) : ClassId × FieldType), (cB, .byte), (cI, .int), (cI, .int), (cI, .int), (cI, .int), (cI, .int), (cO, .object "java/lang/Object"), (cS, .object "java/lang/String")], ArrOfT s q.1 q.2 ∧ va_RA s q.1 q.2 := rt_c ⟨hI, nI⟩ (rt_c ⟨hB, nB⟩ (rt_c ⟨hI, nI⟩ (rt_c ⟨hI, nI⟩ (rt_c ⟨hI, nI⟩ (rt_c ⟨hI, nI⟩ (rt_c ⟨hI, nI⟩ (rt_c ⟨hO, rO⟩ (rt_c ⟨hS, rS⟩ rt_n))))))))
    exact h q (List.mem_of_getElem? hk)
  · have s0 : ∃ v, va_Z "SqlStore" "NO_BYTES" "[B" v (fun q => s.heap.size ≤ q) s s.heap ∧ ra_R ((rt_WS a0 a1 a2 b L cI cB cO cS ad9 xs).map (fun q => q.1)) (3, 0, 0) v := ⟨.ref a0, va_Zof (hts _ (re_t3 _ (List.mem_of_getElem? (i := 95) rfl))) (hts _ (re_t1 _ (List.mem_of_getElem? (i := 1) rfl))) e0 hAn, a0, rfl, rfl⟩
    have s1 : ∃ v, va_Z "java/util/ArrayList" "DEFAULTCAPACITY_EMPTY_ELEMENTDATA" "[Ljava/lang/Object;" v (fun q => s.heap.size ≤ q) s s.heap ∧ ra_R ((rt_WS a0 a1 a2 b L cI cB cO cS ad9 xs).map (fun q => q.1)) (3, 1, 0) v := ⟨.ref a1, va_Zof (hts _ (re_t2 _ (List.mem_of_getElem? (i := 54) rfl))) (hts _ (re_t1 _ (List.mem_of_getElem? (i := 9) rfl))) e1 hAn, a1, rfl, rfl⟩
    have s2 : ∃ v, va_Z "SqlStoreModel" "WORDS" "[Ljava/lang/String;" v (fun q => s.heap.size ≤ q) s s.heap ∧ ra_R ((rt_WS a0 a1 a2 b L cI cB cO cS ad9 xs).map (fun q => q.1)) (3, 2, 0) v := ⟨.ref a2, va_Zof (hts _ (re_t14 _ (List.mem_of_getElem? (i := 208) rfl))) (hts _ (re_t1 _ (List.mem_of_getElem? (i := 21) rfl))) e2 hAn, a2, rfl, rfl⟩
    have s3 : ∃ v, va_Z "java/lang/String" "COMPACT_STRINGS" "Z" v (fun q => s.heap.size ≤ q) s s.heap ∧ ra_R ((rt_WS a0 a1 a2 b L cI cB cO cS ad9 xs).map (fun q => q.1)) (0, 1, 1) v := ⟨.int 1, va_Zof (hts _ (re_t2 _ (List.mem_of_getElem? (i := 77) rfl))) (hts _ (re_t1 _ (List.mem_of_getElem? (i := 10) rfl))) (va_eqi (hs _ (by decide +kernel))) hAn, 1, rfl, by decide, by decide⟩
    have s4 : ∃ v, va_Z "jdk/internal/util/Preconditions" "SIOOBE_FORMATTER" "Ljava/util/function/BiFunction;" v (fun q => s.heap.size ≤ q) s s.heap ∧ ra_R ((rt_WS a0 a1 a2 b L cI cB cO cS ad9 xs).map (fun q => q.1)) (8, 0, 0) v := rt_sio (args := args) (va_Zqof (hts _ (re_t2 _ (List.mem_of_getElem? (i := 93) rfl))) (hts _ (re_t1 _ (List.mem_of_getElem? (i := 12) rfl))) (hs _ (by decide +kernel)) hAn)
    obtain ⟨z0, hz0⟩ : ∃ z, rt_tx9[0]? = some z := ⟨_, List.getElem?_eq_getElem (by rw [rt_tx_len]; omega)⟩
    have hz1 : rt_tm z0 = .string "SqlStore$Parser" 52 := by
      have h : rt_tx9[0]?.map rt_tm = some (.string "SqlStore$Parser" 52) := rfl
      rw [hz0] at h
      exact Option.some.inj h
    have r0 := (h9 0 z0 hz0).1
    rw [hz1] at r0
    exact ⟨rt_c s0 (rt_c s1 (rt_c s2 (rt_c s3 (rt_c s4 rt_n)))), rt_c ⟨(ad9 0).1, vk_R.of (hts _ (re_t2 _ (List.mem_of_getElem? (i := 67) rfl))) r0, (rt_WS_ad (j := 0) (by decide)).1⟩ rt_n,
      fun q hq => va_Nw.of rfl (hts _ (rt_nsf_in q hq)), fun q hq => va_Nw.of rfl (hts _ (rt_nsm_in q hq)), fun q hq => rt_yc (hts _ (rt_yes_in q hq)), fun q hq => va_Nc.of (hs _ (rt_no_in q hq)), fun q hq => rt_msg1 (hts _ (rt_msg_in q hq)) (hs _ (rt_msg_ex q hq)), fun t ht => hts _ (rt_aov_in t ht)⟩
  · intro ex hex
    refine ⟨rfl, rfl, ?_⟩
    have had := fun (j : Nat) (hj : j < 68) => rt_WS_ad (a0 := a0) (a1 := a1) (a2 := a2) (b := b) (L := L) (cI := cI) (cB := cB) (cO := cO) (cS := cS) (ad9 := ad9) (xs := xs) hj
    generalize (rt_WS a0 a1 a2 b L cI cB cO cS ad9 xs).map (fun q => q.1) = sa at had ⊢
    refine ⟨⟨cB, fun _ => 0, .byte, rfl, rfl, fun _ j hj => absurd hj (Nat.not_lt_zero j), fun j hj => absurd hj (Nat.not_lt_zero j)⟩, ⟨cO, fun _ => none, .object "java/lang/Object", rfl, rfl, fun j hj => absurd hj (Nat.not_lt_zero j)⟩, ⟨cS, fun j => some (ad9 (j + 1)).1, .object "java/lang/String", rfl, rfl, fun j hj => ?_⟩, ra_Ws_app (rt_Ws_ok rfl rt_tx9 0 (fun j hj => ?_) (fun q hq => (rt_tx_ok q hq).2)) ⟨cI, xs, .int, rfl, rfl, (fun h => by cases h), fun j hj => hex j hj _⟩⟩
    · rw [rt_wx_at (Nat.zero_le j) (by omega)]
      have h := (had (j + 1) (by omega)).1
      rw [show 3 + 2 * (j + 1) = 5 + 2 * j by omega] at h
      exact ⟨_, h, rfl⟩
    · rw [Nat.zero_add]
      exact (had j (by rw [rt_tx_len] at hj; exact hj)).2
end RTZ
