section RAD
variable {cd : ra_Cd} {P : List ra_Mt} {Zf : (Nat → Prop) → State → Heap → Prop}
theorem ra_acc_le (a b : ra_A) (n : Nat) : ra_le a (ra_acc a b n) := ⟨Nat.le_add_right _ _, Nat.le_add_right _ _, Nat.le_max_left _ _, Nat.le_max_left _ _⟩
/-- a call out of a frame -/
theorem ra_cal_W {n : Nat} (hg : ra_Good cd P Zf n) (hZ : ra_Zok Zf) (hall : ∀ M ∈ P, ra_Mall cd P Zf M) {M M' : ra_Mt} (hMP : M ∈ P) {kd : Nat} {as st st' : List ra_V} {ah : List ra_E} {ta : List FieldType} {rb : ra_Rs} {a : ra_A} {ig : Instr} {len : Nat}
    {p : Program} {l : Launch} {e : Env} {R : Room} {s : State} {m : MethodId} {args : Array Value} {below : List Frame} {meth : Method} {c : Code} {H : Heap} {locs : List Loc} {Q : State → Prop} {pc : Nat} {ls : Array Slot} {D : va_G} {A : Nat → Prop} {ad : List Nat} {tys : List (ClassId × FieldType)} {wS ws : va_W} {x : Cond} {vs : List Value}
    (h0 : ra_At p s m args meth c H s.heap locs ls D A ah ta ad tys wS ws M x st vs) (hlt : l.stackTraces = false) (hZs : Zf A s s.heap) (hdg : decode (ra_Mc M) pc = .ok (ig, len)) (h : ra_cal P M ah ig len st = some (kd, M', as, st')) (hb : ra_run cd P n M' 0 (ra_args 0 as) [] ah ta (0, 0, 0, 0) = some rb) (hR : ra_fits (ra_acc a rb.2.2.2 (ra_Mn M')) R) (hkd : kd = 3 → ¬ rb.1.1 = 2)
    (kx : rb.1.1 = 2 → ∀ (ce : Cell) (q9 : Addr) (t : State) (H1 : Heap) (locs1 : List Loc) (rest : List Value), t.heap = H1 → s.vm.Alike t.vm → ra_U D wS (va_A ws H.size) ad tys rb (fun _ => True) t → va_S A s.heap H1 locs1 → H1[q9]? = some ce → ce.vm = .none → s.vm.findClass rb.1.2.2 = some ce.cls → vx_W p l e R s m args below meth c H1 locs1 (a.1 + rb.2.2.2.1) (a.2.1 + rb.2.2.2.2.1) Q (F0 m pc ls rest) q9)
    (kk : ∀ (v : Option Value) (t : State) (H1 : Heap) (locs1 : List Loc) (rest : List Value), t.heap = H1 → s.vm.Alike t.vm → ra_U D wS (va_A ws H.size) ad tys rb (ra_vOk rb v) t → va_S A s.heap H1 locs1 → ra_S ad st' rest → W p l e R s m args below meth c H1 locs1 (a.1 + rb.2.2.2.1) (a.2.1 + rb.2.2.2.2.1) Q (F0 m (pc + 3) ls (v.toList ++ rest))) :
    W p l e R s m args below meth c H locs a.1 a.2.1 Q (F0 m pc ls vs) := by
  obtain ⟨hx, hbc, hml, hnm, hts, hown, hA, hK, hP, hD, hV, hW, hG, hS⟩ := id h0
  have hM := hall M hMP
  have hfree : ∀ q, va_A ws H.size q → A q := fun q hq => hq.elim (fun ⟨k, e9, hk⟩ => hD.2 k _ hk) (fun hq => hA q (Nat.le_trans hV.1 hq))
  have hZ1 : ∀ U : State, U.heap = H → s.WarmedH U.vm → Zf (va_A ws H.size) U U.heap := fun U hU hW => by
    rw [hU]
    exact hZ A _ s U s.heap H hZs hW.alike (fun q h1 h2 => hV.2.1 q h1 h2) hfree
  have hSw : ∀ U : State, s.WarmedH U.vm → ra_Sw D (va_A ws H.size) U H wS := fun U hU => ⟨fun k q hq => ((hW.1 k q hq).kept (hV.2.1 _ (hW.1 k q hq).lt (hW.2.1 k q hq))).moved hU.alike, fun k q hq h => hW.2.1 k q hq (hfree _ h), hW.2.2.1, ra_Sx_call hW.2.2.2 hU (fun q h1 h2 => hV.2.1 q h1 h2) hfree⟩
  have hrm1 : rb.2.2.2.2.2.1 + 1 ≤ R.frames := Nat.le_trans (Nat.le_max_right _ _) hR.2.2.1
  have hrm2 : 8 + (ra_Mn M' + 11) + rb.2.2.2.2.2.2 ≤ R.locals := Nat.le_trans (Nat.le_max_right _ _) hR.2.2.2
  have hroom : a.1 + rb.2.2.2.1 ≤ R.cells ∧ a.2.1 + rb.2.2.2.2.1 ≤ R.slots := ⟨hR.1, hR.2.1⟩
  have pre : ∀ (avs : List Value), ∀ U : State, U.heap = H → s.WarmedH U.vm → ra_Pc D wS Zf avs ws tys H.size avs.toArray U := fun avs U hU hW2 => ⟨rfl, by rw [hU], by rw [hU]; exact hP, va_K.moved hW2.alike hK, hD.weaken (fun _ _ _ _ => trivial), hZ1 U hU hW2, by rw [hU]; exact hSw U hW2⟩
  have xk : ∀ (avs rest : List Value), ra_S ad st' rest → vx_Run p l e R s m args below meth c H locs a.1 a.2.1 rb.2.2.2.1 rb.2.2.2.2.1 (F0 m pc ls vs) rest (ra_Qc D wS (va_A ws H.size) ad tys rb avs.toArray) (ra_XC D wS (va_A ws H.size) ad tys rb) (va_A ws H.size) → W p l e R s m args below meth c H locs a.1 a.2.1 Q (F0 m pc ls vs) := fun avs rest hrest hr =>
    ra_callX hr hV (fun q _ h => hfree q h) hfree (fun h2 ce q9 t H1 locs1 g1 g2 g3 g4 g5 g6 g7 => kx h2 ce q9 t H1 locs1 rest g1 g2 g3 g4 g5 g6 g7) (fun v t H1 locs1 g1 g2 g3 g4 => kk v t H1 locs1 rest g1 g2 g3 g4 hrest)
  unfold ra_cal at h
  split at h
  · split at h
    · next k t hf =>
      split at h
      · next M2 hP2 =>
        split at h
        · next q =>
          obtain ⟨q1, q2, q3, q4, q5⟩ := q
          cases h
          have hM'P : M' ∈ P := List.mem_of_getElem? hP2
          have hM' := hall M' hM'P
          obtain ⟨w1, w2, w3, w4, w5, w6, w7⟩ := hM.2.2.1 _ (ra_find_in hf) M' hP2 (Or.inl q1)
          have ha := ra_S_rev (ra_S_take (k / 8 + 1) hS)
          have hr := ra_S_drop (k / 8 + 1) hS
          have hmet := ra_Met (D := D) hg hM'P hM' hb (by rw [ra_sum_rev]; exact q4) l hlt H.size hG ha
          -- the receiver
          have hlen := ra_S_len (ra_S_take (k / 8 + 1) hS)
          unfold ra_rec at q3
          split at q3
          · next k9 j9 as9 hrev =>
            split at q3
            · next hc9 =>
              have q3 := of_decide_eq_true q3
              rw [hrev] at ha
              obtain ⟨v9, vs9, hvs9, hv9, hS9⟩ := ra_S_cons ha
              obtain ⟨b9, en9, rfl, hw9, hH9⟩ := ra_cell hG hv9 hc9
              obtain ⟨fs9, rfl, -⟩ := hH9
              rw [hvs9] at hmet
              obtain ⟨r9, hr9, hr9n⟩ := Option.map_eq_some_iff.mp q3
              have hrecv := rz_recv hK (ra_Pall hW hV hP) hr9 hw9
              rw [hr9n] at hrecv
              have hst : vs = vs9.reverse ++ .ref b9 :: vs.drop (k / 8 + 1) := by
                have e1 : vs.take (k / 8 + 1) = (Value.ref b9 :: vs9).reverse := by rw [← hvs9, List.reverse_reverse]
                conv => lhs; rw [← List.take_append_drop (k / 8 + 1) vs, e1]
                simp
              have hn9 : vs9.length = k / 8 := by
                have e1 := congrArg List.length hvs9
                rw [List.length_reverse, ← hlen, q2] at e1
                simpa using e1.symm
              by_cases hq : ra_Mq M' = []
              · have hcw : ra_cw M' = Cond.code (ra_My M') (ra_Mc M') (ra_Mn M') (ra_Mr M') := if_pos hq
                have hcd := w7
                rw [hcw] at hmet hcd
                exact xk (Value.ref b9 :: vs9) (vs.drop (k / 8 + 1)) hr (vx_runV (own := (ra_My M).cls) (nL := ls.size) (Ts := re_ws x) (C := (ra_My M').cls) (As := vs9) ⟨hx, hbc, hml, hown, hts⟩ hmet (cwV (k / 8) hts (re_gg (re_a (w1.1 (fun z => by have z2 : k % 8 = 4 := z; omega)) (re_a (w3 q1).1 (re_a (w3 q1).2 (re_a w2 (re_c hcd)))))) rfl rfl rfl ⟨rfl, w6⟩ ⟨hrm1, hrm2⟩) ⟨ra_blind hZ, hrecv, pre _⟩ rfl hn9 rfl hst (lv_room (by rw [ra_S_sum hr]; exact q5)) hdg hroom)
              · have hcw : ra_cw M' = Cond.codeWith (ra_My M') (ra_Mc M') (ra_Mn M') (ra_Mr M') (ra_tab M') := if_neg hq
                have hcd := w7
                rw [hcw] at hmet hcd
                exact xk (Value.ref b9 :: vs9) (vs.drop (k / 8 + 1)) hr (vx_runVX (own := (ra_My M).cls) (nL := ls.size) (Ts := re_ws x) (C := (ra_My M').cls) (As := vs9) ⟨hx, hbc, hml, hown, hts⟩ hmet (vx_cwVW (k / 8) hts (re_gg (re_a (w1.1 (fun z => by have z2 : k % 8 = 4 := z; omega)) (re_a (w3 q1).1 (re_a (w3 q1).2 (re_a w2 (re_c hcd)))))) rfl rfl rfl ⟨rfl, w6⟩ ⟨hrm1, hrm2⟩) ⟨ra_blind hZ, hrecv, pre _⟩ rfl hn9 rfl hst (lv_room (by rw [ra_S_sum hr]; exact q5)) hdg hroom)
            · cases q3
          · cases q3
        · cases h
      · cases h
    · cases h
  · split at h
    · next k t hf =>
      split at h
      · next M2 hP2 =>
        split at h
        · next q =>
          obtain ⟨q1, q2, q4, q5⟩ := q
          cases h
          have hM'P : M' ∈ P := List.mem_of_getElem? hP2
          have hM' := hall M' hM'P
          obtain ⟨w1, w2, w3, w4, w5, w6, w7⟩ := hM.2.2.1 _ (ra_find_in hf) M' hP2 (Or.inr (Or.inl q1))
          have ha := ra_S_rev (ra_S_take (k / 8) hS)
          have hr := ra_S_drop (k / 8) hS
          have hmet := ra_Met (D := D) hg hM'P hM' hb (by rw [ra_sum_rev]; exact q4) l hlt H.size hG ha
          have hlen := ra_S_len (ra_S_take (k / 8) hS)
          have hst : vs = (vs.take (k / 8)).reverse.reverse ++ vs.drop (k / 8) := by rw [List.reverse_reverse, List.take_append_drop]
          have hn9 : (vs.take (k / 8)).reverse.length = k / 8 := by rw [List.length_reverse, ← hlen, q2]
          by_cases hq : ra_Mq M' = []
          · have hcw : ra_cw M' = Cond.code (ra_My M') (ra_Mc M') (ra_Mn M') (ra_Mr M') := if_pos hq
            have hcd := w7
            rw [hcw] at hmet hcd
            have hcb : CallB R s args (ra_My M).cls _ (ra_My M') (ra_Mc M') (ra_Mn M') (ra_Mr M') (re_ws (Cond.code (ra_My M') (ra_Mc M') (ra_Mn M') (ra_Mr M'))) ({ frames := rb.2.2.2.2.2.1, cells := rb.2.2.2.1, slots := rb.2.2.2.2.1, locals := rb.2.2.2.2.2.2 }) rb.2.2.2.1 rb.2.2.2.2.1 (k / 8) :=
              callB_of (k / 8) hts (re_gg (re_c hcd)) rfl rfl rfl (re_hts w2 hts) (re_hts (w1.1 (fun z => by have z2 : k % 8 = 4 := z; omega)) hts) w6 ⟨hrm1, hrm2⟩
            exact xk (vs.take (k / 8)).reverse (vs.drop (k / 8)) hr (vx_runS (own := (ra_My M).cls) (nL := ls.size) (Ts := re_ws x) (As := (vs.take (k / 8)).reverse) ⟨hx, hbc, hml, hown, hts⟩ hmet ⟨hcb, re_hts (w4 q1) hts⟩ ⟨ra_blind hZ, pre _⟩ rfl hn9 rfl hst (lv_room (by rw [ra_S_sum hr]; exact q5)) hdg hroom)
          · have hcw : ra_cw M' = Cond.codeWith (ra_My M') (ra_Mc M') (ra_Mn M') (ra_Mr M') (ra_tab M') := if_neg hq
            have hcd := w7
            rw [hcw] at hmet hcd
            exact xk (vs.take (k / 8)).reverse (vs.drop (k / 8)) hr (vx_runSX (own := (ra_My M).cls) (nL := ls.size) (Ts := re_ws x) (As := (vs.take (k / 8)).reverse) ⟨hx, hbc, hml, hown, hts⟩ hmet (vx_cwSW (k / 8) hts (re_gg (re_a (w1.1 (fun z => by have z2 : k % 8 = 4 := z; omega)) (re_a (w4 q1) (re_a w2 (re_c hcd))))) rfl rfl rfl w6 ⟨hrm1, hrm2⟩) ⟨ra_blind hZ, pre _⟩ rfl hn9 rfl hst (lv_room (by rw [ra_S_sum hr]; exact q5)) hdg hroom)
        · cases h
      · cases h
    · cases h
  · split at h
    · next k t hf =>
      split at h
      · next M2 hP2 =>
        split at h
        · next q =>
          obtain ⟨q1, q2, q3, q4, q5⟩ := q
          cases h
          have hM'P : M' ∈ P := List.mem_of_getElem? hP2
          have hM' := hall M' hM'P
          obtain ⟨w1, w2, w3, w4, w5, w6, w7⟩ := hM.2.2.1 _ (ra_find_in hf) M' hP2 (Or.inr (Or.inr q1))
          have ha := ra_S_rev (ra_S_take (k / 8 + 1) hS)
          have hr := ra_S_drop (k / 8 + 1) hS
          have hmet := ra_Met (D := D) hg hM'P hM' hb (by rw [ra_sum_rev]; exact q4) l hlt H.size hG ha
          have hlen := ra_S_len (ra_S_take (k / 8 + 1) hS)
          have hcw := w7
          have hcw0 : ra_cw M' = Cond.code (ra_My M') (ra_Mc M') (ra_Mn M') (ra_Mr M') := if_pos (w5 q1).2.2.2
          rw [hcw0] at hmet hcw
          rw [(w5 q1).2.2.1] at hmet hcw
          unfold ra_ref at q3
          split at q3
          · next k9 j9 as9 hrev =>
            rw [hrev] at ha
            obtain ⟨v9, vs9, hvs9, hv9, hS9⟩ := ra_S_cons ha
            obtain ⟨b9, -, rfl⟩ := hv9
            rw [hvs9] at hmet
            have hst : vs = vs9.reverse ++ .ref b9 :: vs.drop (k / 8 + 1) := by
              have e1 : vs.take (k / 8 + 1) = (Value.ref b9 :: vs9).reverse := by rw [← hvs9, List.reverse_reverse]
              conv => lhs; rw [← List.take_append_drop (k / 8 + 1) vs, e1]
              simp
            have hn9 : vs9.length = k / 8 := by
              have e1 := congrArg List.length hvs9
              rw [List.length_reverse, ← hlen, q2] at e1
              simpa using e1.symm
            rcases q1 with q1 | q1
            · exact xk (Value.ref b9 :: vs9) (vs.drop (k / 8 + 1)) hr (ra_runX (va_runI (own := (ra_My M).cls) (nL := ls.size) (Ts := re_ws x) (As := vs9) ⟨hx, hbc, hml, hown, hts⟩ (ra_Met0 hmet (hkd rfl)) (cwI (k / 8) hts (re_gg (re_c hcw)) rfl rfl rfl (re_hts w2 hts) (re_hts (w1.1 (fun z => by have z2 : k % 8 = 4 := z; omega)) hts) (re_hts (w5 (Or.inl q1)).1 hts) (w5 (Or.inl q1)).2.1 w6 ⟨hrm1, hrm2⟩) ⟨ra_blind hZ, pre _⟩ rfl hn9 rfl hst (lv_room (by rw [ra_S_sum hr]; exact q5)) hdg hroom))
            · obtain ⟨host, wn⟩ := w1.2 q1
              exact xk (Value.ref b9 :: vs9) (vs.drop (k / 8 + 1)) hr (ra_runX (va_runIN (own := (ra_My M).cls) (host := host) (nL := ls.size) (Ts := re_ws x) (As := vs9) ⟨hx, hbc, hml, hown, hts⟩ (ra_Met0 hmet (hkd rfl)) ⟨va_cnB (k / 8) hts (re_gg (re_c hcw)) rfl rfl rfl (hW.2.2.2.2.2.2.1 _ wn) (re_hts w2 hts) w6 ⟨hrm1, hrm2⟩, (w5 (Or.inr q1)).2.1, re_hts (w5 (Or.inr q1)).1 hts⟩ ⟨ra_blind hZ, pre _⟩ rfl hn9 rfl hst (lv_room (by rw [ra_S_sum hr]; exact q5)) hdg hroom))
          · cases q3
        · cases h
      · cases h
    · cases h
  · cases h
theorem ra_ct_none {pc : Nat} {E : String} : ∀ {L : List (Nat × Nat × Nat × Nat × String)}, ra_ct pc E L = some none → ∀ q ∈ L, ¬ (q.1 ≤ pc ∧ pc < q.2.1) ∨ (E, q.2.2.2.2) ∈ ra_no
  | [], _, q, hq => by cases hq
  | (f, t, h, ct, nm) :: L, hc, q, hq => by
    unfold ra_ct at hc
    split at hc
    · split at hc
      · cases hc
      · split at hc
        · next h2 =>
          rcases List.mem_cons.mp hq with rfl | hq
          · exact Or.inr h2
          · exact ra_ct_none hc q hq
        · cases hc
    · next h1 =>
      rcases List.mem_cons.mp hq with rfl | hq
      · exact Or.inl h1
      · exact ra_ct_none hc q hq
theorem ra_ct_some {pc : Nat} {E : String} {hp : Nat} : ∀ {L : List (Nat × Nat × Nat × Nat × String)}, ra_ct pc E L = some (some hp) → ∃ (pre : List (Nat × Nat × Nat × Nat × String)) (x : Nat × Nat × Nat × Nat × String) (suf : List (Nat × Nat × Nat × Nat × String)), L = pre ++ x :: suf ∧ (∀ q ∈ pre, ¬ (q.1 ≤ pc ∧ pc < q.2.1) ∨ (E, q.2.2.2.2) ∈ ra_no) ∧ (x.1 ≤ pc ∧ pc < x.2.1) ∧ (E, x.2.2.2.2) ∈ ra_yes ∧ x.2.2.1 = hp
  | [], hc => by cases hc
  | (f, t, h, ct, nm) :: L, hc => by
    unfold ra_ct at hc
    split at hc
    · next h1 =>
      split at hc
      · next h2 => cases hc; exact ⟨[], (f, t, _, ct, nm), L, rfl, (fun q hq => by cases hq), h1, h2, rfl⟩
      · split at hc
        · next h2 =>
          obtain ⟨pre, x, suf, rfl, e2, e3⟩ := ra_ct_some hc
          refine ⟨(f, t, h, ct, nm) :: pre, x, suf, rfl, fun q hq => ?_, e3⟩
          rcases List.mem_cons.mp hq with rfl | hq
          · exact Or.inr h2
          · exact e2 q hq
        · cases hc
    · next h1 =>
      obtain ⟨pre, x, suf, rfl, e2, e3⟩ := ra_ct_some hc
      refine ⟨(f, t, h, ct, nm) :: pre, x, suf, rfl, fun q hq => ?_, e3⟩
      rcases List.mem_cons.mp hq with rfl | hq
      · exact Or.inl h1
      · exact e2 q hq
theorem ra_cov {pc : Nat} {x : ExceptionTableEntry} (h : ¬ (x.startPc ≤ pc ∧ pc < x.endPc)) : covers x pc = false := by
  show (decide (x.startPc ≤ pc) && decide (pc < x.endPc)) = false
  rw [← Bool.decide_and]
  exact decide_eq_false h
section Out
variable {p : Program} {l : Launch} {e : Env} {R : Room} {s : State} {m : MethodId} {args : Array Value} {below : List Frame} {meth : Method} {c : Code} {H H0 : Heap} {locs : List Loc} {cells slots mc ms : Nat} {pc : Nat} {ls : Array Slot} {rest : List Value} {free : Addr → Prop}
variable {A : Nat → Prop} {sa : List Nat} {M : ra_Mt} {x : Cond} {E : String} {q : Addr} {ce : Cell}
theorem ra_pass (hh : ra_hok M) (hts : ∀ w ∈ re_ws x, w.before args s = true) (hX : ra_Sx A s H0 sa) {L : List (Nat × Nat × Nat × Nat × String)} (hL : ∀ q ∈ L, q ∈ ra_Mq M) (h : ∀ q ∈ L, ¬ (q.1 ≤ pc ∧ pc < q.2.1) ∨ (E, q.2.2.2.2) ∈ ra_no) : ∀ z ∈ tableOf (L.map (fun q => (q.1, q.2.1, q.2.2.1, q.2.2.2.1))), covers z pc = false ∨ (z.catchType ≠ 0 ∧ ∃ nm : String, (Cond.classLink (ra_My M).cls z.catchType nm).before args s = true ∧ va_Nc E nm s) := by
  intro z hz
  unfold tableOf at hz
  rw [List.map_map] at hz
  obtain ⟨q, hq, rfl⟩ := List.mem_map.mp hz
  rcases h q hq with h1 | h1
  · exact Or.inl (ra_cov h1)
  · obtain ⟨h2, h3⟩ := hh q (hL q hq)
    exact Or.inr ⟨h2, q.2.2.2.2, re_hts h3 hts, hX.2.2.2.2.2.1 _ h1⟩
theorem ra_out {Qc : Array Value → State → Outcome → State → Prop} {XC : String → State → State → Prop} (hh : ra_hok M) (hts : ∀ w ∈ re_ws x, w.before args s = true) (hX : ra_Sx A s H0 sa) (hown : s.vm.findClass (ra_My M).cls = some m.cls) (hct : ra_ct pc E (ra_Mq M) = some none) (hlocks : meth.locks = false) (htab : c.exceptionTable.toList = tableOf (ra_tab M))
    (g1 : H[q]? = some ce) (g2 : ce.vm = .none) (g3 : s.vm.findClass E = some ce.cls) (hx : ∀ t : State, t.heap = H → s.vm.Alike t.vm → XC E s t) (hf : ∀ z ∈ locs, free z.base) :
    vx_W p l e R s m args below meth c H locs cells slots (vx_MQ below Qc XC args s cells slots free) (F0 m pc ls rest) q := by
  refine vx_outP hown hlocks ?_ g1 g2 g3 hx hf (Nat.le_refl _) (Nat.le_refl _)
  rw [htab]
  exact ra_pass hh hts hX (fun q hq => hq) (ra_ct_none hct)
theorem ra_caught {Q : State → Prop} {h : Nat} (hh : ra_hok M) (hts : ∀ w ∈ re_ws x, w.before args s = true) (hX : ra_Sx A s H0 sa) (hown : s.vm.findClass (ra_My M).cls = some m.cls) (hct : ra_ct pc E (ra_Mq M) = some (some h)) (htab : c.exceptionTable.toList = tableOf (ra_tab M))
    (g1 : H[q]? = some ce) (g2 : ce.vm = .none) (g3 : s.vm.findClass E = some ce.cls) (kk : W p l e R s m args below meth c H locs cells slots Q (F0 m h ls [.ref q])) :
    vx_W p l e R s m args below meth c H locs cells slots Q (F0 m pc ls rest) q := by
  obtain ⟨pre, x9, suf, e1, e2, e3, e4, rfl⟩ := ra_ct_some hct
  obtain ⟨h2, h3⟩ := hh x9 (by rw [e1]; simp)
  refine vx_catch (name := x9.2.2.2.2) hown (tableOf (pre.map (fun q => (q.1, q.2.1, q.2.2.1, q.2.2.2.1)))) ⟨x9.1, x9.2.1, x9.2.2.1, x9.2.2.2.1⟩ (tableOf (suf.map (fun q => (q.1, q.2.1, q.2.2.1, q.2.2.2.1)))) ?_ (ra_pass hh hts hX (fun q hq => by rw [e1]; exact List.mem_append_left _ hq) e2) ?_ h2 (re_hts h3 hts) (ra_Yc.use (hX.2.2.2.2.1 _ e4)) g1 g2 g3 kk
  · rw [htab]; unfold ra_tab tableOf; rw [e1]; simp
  · show (decide (x9.1 ≤ pc) && decide (pc < x9.2.1)) = true
    rw [decide_eq_true e3.1, decide_eq_true e3.2]; rfl
theorem ra_recv2 {s : State} {H : Heap} {D : va_G} {cl : List vw_C} {a q0 ci : Nat} {q : vw_C} {fs : List Value} {ws : va_W} {tys : List (ClassId × FieldType)} (hK : va_K D cl tys s) (hP : va_P D cl ws H) (hc : cl[ci]? = some q) (he : ws[q0]? = some (a, .inr (ci, fs))) : ∃ cell : Cell, H[a]? = some cell ∧ cell.vm = .none ∧ s.vm.findClass q.1 = some cell.cls := by
  obtain ⟨q', h1, cell, g1, g2, g3, -⟩ := hP q0 _ he
  exact ⟨cell, g1, g3, by rw [g2]; exact (hK.1 ci q hc).2.1⟩
end Out
end RAD
