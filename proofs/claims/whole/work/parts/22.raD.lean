section RAD
variable {cd : ra_Cd} {P : List ra_Mt} {Zf : (Nat → Prop) → State → Heap → Prop}
theorem ra_acc_le (a b : ra_A) (n : Nat) : ra_le a (ra_acc a b n) := ⟨Nat.le_add_right _ _, Nat.le_add_right _ _, Nat.le_max_left _ _, Nat.le_max_left _ _⟩
/-- a call out of a frame -/
theorem ra_cal_W {n : Nat} (hg : ra_Good cd P Zf n) (hZ : ra_Zok Zf) (hall : ∀ M ∈ P, ra_Mall cd P Zf M) {M M' : ra_Mt} (hMP : M ∈ P) {kd : Nat} {as st st' : List ra_V} {ah : List ra_E} {ta : List FieldType} {rb : ra_Rs} {a : ra_A} {ig : Instr} {len : Nat}
    {p : Program} {l : Launch} {e : Env} {R : Room} {s : State} {m : MethodId} {args : Array Value} {below : List Frame} {meth : Method} {c : Code} {H : Heap} {locs : List Loc} {Q : State → Prop} {pc : Nat} {ls : Array Slot} {D : va_G} {A : Nat → Prop} {ad : List Nat} {tys : List (ClassId × FieldType)} {wS ws : va_W} {x : Cond} {vs : List Value}
    (h0 : ra_At p s m args meth c H s.heap locs ls D A ah ta ad tys wS ws M x st vs) (hlt : l.stackTraces = false) (hZs : Zf A s s.heap) (hd : ra_find (ra_Mi M) pc = some (ig, len)) (h : ra_cal P M ah ig len st = some (kd, M', as, st')) (hb : ra_run cd P n M' 0 (ra_args 0 as) [] ah ta (0, 0, 0, 0) = some rb) (hR : ra_fits (ra_acc a rb.2.2.2 (ra_Mn M')) R) (hkd : kd = 3 → ¬ rb.1.1 = 2)
    (kx : rb.1.1 = 2 → ∀ (ce : Cell) (q9 : Addr) (t : State) (H1 : Heap) (locs1 : List Loc) (rest : List Value), t.heap = H1 → s.vm.Alike t.vm → ra_U D wS (va_A ws H.size) ad tys rb (fun _ => True) t → va_S A s.heap H1 locs1 → H1[q9]? = some ce → ce.vm = .none → s.vm.findClass rb.1.2.2 = some ce.cls → vx_W p l e R s m args below meth c H1 locs1 (a.1 + rb.2.2.2.1) (a.2.1 + rb.2.2.2.2.1) Q (F0 m pc ls rest) q9)
    (kk : ∀ (v : Option Value) (t : State) (H1 : Heap) (locs1 : List Loc) (rest : List Value), t.heap = H1 → s.vm.Alike t.vm → ra_U D wS (va_A ws H.size) ad tys rb (ra_vOk rb v) t → va_S A s.heap H1 locs1 → ra_S ad st' rest → W p l e R s m args below meth c H1 locs1 (a.1 + rb.2.2.2.1) (a.2.1 + rb.2.2.2.2.1) Q (F0 m (pc + 3) ls (v.toList ++ rest))) :
    W p l e R s m args below meth c H locs a.1 a.2.1 Q (F0 m pc ls vs) := by
  obtain ⟨hx, hbc, hml, hnm, hts, hown, hA, hK, hP, hD, hV, hW, hG, hS⟩ := id h0
  have hM := hall M hMP
  have hdg : decode (ra_Mc M) pc = .ok (ig, len) := hM.1.1 (pc, ig, len) (ra_find_in hd)
  have hfree : ∀ q, va_A ws H.size q → A q := fun q hq => hq.elim (fun ⟨k, e9, hk⟩ => hD.2 k _ hk) (fun hq => hA q (Nat.le_trans hV.1 hq))
  have hZ1 : ∀ U : State, U.heap = H → s.WarmedH U.vm → Zf (va_A ws H.size) U U.heap := fun U hU hW => by
    rw [hU]
    exact hZ A _ s U s.heap H hZs hW.alike (fun q h1 h2 => hV.2.1 q h1 h2) hfree
  have hSw : ∀ U : State, s.WarmedH U.vm → ra_Sw D (va_A ws H.size) U H wS := fun U hU => ⟨fun k q hq => ra_Pall (ws := []) hW hV (fun k q hq => by simp at hq) k q (by rw [List.append_nil]; exact hq), fun k q hq h => hW.2.1 k q hq (hfree _ h), hW.2.2.1, ra_Sx_call hW.2.2.2 hU (fun q h1 h2 => hV.2.1 q h1 h2) hfree⟩
  have hrm1 : rb.2.2.2.2.2.1 + 1 ≤ R.frames := Nat.le_trans (Nat.le_max_right _ _) hR.2.2.1
  have hrm2 : 8 + (ra_Mn M' + 11) + rb.2.2.2.2.2.2 ≤ R.locals := Nat.le_trans (Nat.le_max_right _ _) hR.2.2.2
  have hroom : a.1 + rb.2.2.2.1 ≤ R.cells ∧ a.2.1 + rb.2.2.2.2.1 ≤ R.slots := ⟨hR.1, hR.2.1⟩
  have pre : ∀ (avs : List Value), ∀ U : State, U.heap = H → s.WarmedH U.vm → ra_Pc D wS Zf avs ws tys H.size avs.toArray U := fun avs U hU hW2 => ⟨rfl, by rw [hU], by rw [hU]; exact hP, va_K.moved hW2.alike hK, hD.weaken (fun _ _ _ _ => trivial), hZ1 U hU hW2, by rw [hU]; exact hSw U hW2⟩
  have xk : ∀ (avs rest : List Value), ra_S ad st' rest → vx_Run p l e R s m args below meth c H locs a.1 a.2.1 rb.2.2.2.1 rb.2.2.2.2.1 (F0 m pc ls vs) rest (ra_Qc D wS (va_A ws H.size) ad tys rb avs.toArray) (ra_XC D wS (va_A ws H.size) ad tys rb) (va_A ws H.size) → W p l e R s m args below meth c H locs a.1 a.2.1 Q (F0 m pc ls vs) := fun avs rest hrest hr =>
    ra_callX hr hV (fun q _ h => hfree q h) hfree (fun h2 ce q9 t H1 locs1 g1 g2 g3 g4 g5 g6 g7 => kx h2 ce q9 t H1 locs1 rest g1 g2 g3 g4 g5 g6 g7) (fun v t H1 locs1 g1 g2 g3 g4 => kk v t H1 locs1 rest g1 g2 g3 g4 hrest)
  unfold ra_cal at h
  split at h
  · split at h
    · next k t hf =>
      split at h
      · next M2 hP2 =>
        split at h
        · next q =>
          obtain ⟨q1, q2, q3, q4, q5⟩ := q
          cases h
          have hM'P : M' ∈ P := List.mem_of_getElem? hP2
          have hM' := hall M' hM'P
          obtain ⟨w1, w2, w3, w4, w5, w6⟩ := hM.2.2.1 _ (ra_find_in hf) M' hP2 (Or.inl q1)
          have ha := ra_S_rev (ra_S_take (k / 8 + 1) hS)
          have hr := ra_S_drop (k / 8 + 1) hS
          have hmet := ra_Met (D := D) hg hM'P hM' hb (by rw [ra_sum_rev]; exact q4) l hlt H.size hG ha
          -- the receiver
          have hlen := ra_S_len (ra_S_take (k / 8 + 1) hS)
          unfold ra_rec at q3
          split at q3
          · next k9 j9 as9 hrev =>
            split at q3
            · next hc9 =>
              have q3 := of_decide_eq_true q3
              rw [hrev] at ha
              obtain ⟨v9, vs9, hvs9, hv9, hS9⟩ := ra_S_cons ha
              obtain ⟨b9, en9, rfl, hw9, hH9⟩ := ra_cell hG hv9 hc9
              obtain ⟨fs9, rfl, -⟩ := hH9
              rw [hvs9] at hmet
              obtain ⟨r9, hr9, hr9n⟩ := Option.map_eq_some_iff.mp q3
              have hrecv := va_recv hK (ra_Pall hW hV hP) hr9 hw9
              rw [hr9n] at hrecv
              have hst : vs = vs9.reverse ++ .ref b9 :: vs.drop (k / 8 + 1) := by
                have e1 : vs.take (k / 8 + 1) = (Value.ref b9 :: vs9).reverse := by rw [← hvs9, List.reverse_reverse]
                conv => lhs; rw [← List.take_append_drop (k / 8 + 1) vs, e1]
                simp
              have hn9 : vs9.length = k / 8 := by
                have e1 := congrArg List.length hvs9
                rw [List.length_reverse, ← hlen, q2] at e1
                simpa using e1.symm
              refine xk (Value.ref b9 :: vs9) (vs.drop (k / 8 + 1)) hr (vx_runV (own := (ra_My M).cls) (nL := ls.size) (Ts := re_ws x) (C := (ra_My M').cls) (As := vs9) ⟨hx, hbc, hml, hown, hts⟩ hmet (cwV (k / 8) hts (re_gg (re_a (w1.1 (fun z => by have z2 : k % 8 = 4 := z; omega)) (re_a (w3 q1).1 (re_a (w3 q1).2 (re_a w2 (re_c hM'.2.2.2.2.1)))))) rfl rfl rfl ⟨rfl, w6⟩ ⟨hrm1, hrm2⟩) ⟨ra_blind hZ, hrecv, pre _⟩ rfl hn9 rfl hst (lv_room (by rw [ra_S_sum hr]; exact q5)) hdg hroom)
            · cases q3
          · cases q3
        · cases h
      · cases h
    · cases h
  · split at h
    · next k t hf =>
      split at h
      · next M2 hP2 =>
        split at h
        · next q =>
          obtain ⟨q1, q2, q4, q5⟩ := q
          cases h
          have hM'P : M' ∈ P := List.mem_of_getElem? hP2
          have hM' := hall M' hM'P
          obtain ⟨w1, w2, w3, w4, w5, w6⟩ := hM.2.2.1 _ (ra_find_in hf) M' hP2 (Or.inr (Or.inl q1))
          have ha := ra_S_rev (ra_S_take (k / 8) hS)
          have hr := ra_S_drop (k / 8) hS
          have hmet := ra_Met (D := D) hg hM'P hM' hb (by rw [ra_sum_rev]; exact q4) l hlt H.size hG ha
          have hlen := ra_S_len (ra_S_take (k / 8) hS)
          have hst : vs = (vs.take (k / 8)).reverse.reverse ++ vs.drop (k / 8) := by rw [List.reverse_reverse, List.take_append_drop]
          have hn9 : (vs.take (k / 8)).reverse.length = k / 8 := by rw [List.length_reverse, ← hlen, q2]
          have hcb : CallB R s args (ra_My M).cls _ (ra_My M') (ra_Mc M') (ra_Mn M') (ra_Mr M') (re_ws (Cond.code (ra_My M') (ra_Mc M') (ra_Mn M') (ra_Mr M'))) ({ frames := rb.2.2.2.2.2.1, cells := rb.2.2.2.1, slots := rb.2.2.2.2.1, locals := rb.2.2.2.2.2.2 }) rb.2.2.2.1 rb.2.2.2.2.1 (k / 8) :=
            callB_of (k / 8) hts (re_gg (re_c hM'.2.2.2.2.1)) rfl rfl rfl (re_hts w2 hts) (re_hts (w1.1 (fun z => by have z2 : k % 8 = 4 := z; omega)) hts) w6 ⟨hrm1, hrm2⟩
          exact xk (vs.take (k / 8)).reverse (vs.drop (k / 8)) hr (vx_runS (own := (ra_My M).cls) (nL := ls.size) (Ts := re_ws x) (As := (vs.take (k / 8)).reverse) ⟨hx, hbc, hml, hown, hts⟩ hmet ⟨hcb, re_hts (w4 q1) hts⟩ ⟨ra_blind hZ, pre _⟩ rfl hn9 rfl hst (lv_room (by rw [ra_S_sum hr]; exact q5)) hdg hroom)
        · cases h
      · cases h
    · cases h
  · split at h
    · next k t hf =>
      split at h
      · next M2 hP2 =>
        split at h
        · next q =>
          obtain ⟨q1, q2, q3, q4, q5⟩ := q
          cases h
          have hM'P : M' ∈ P := List.mem_of_getElem? hP2
          have hM' := hall M' hM'P
          obtain ⟨w1, w2, w3, w4, w5, w6⟩ := hM.2.2.1 _ (ra_find_in hf) M' hP2 (Or.inr (Or.inr q1))
          have ha := ra_S_rev (ra_S_take (k / 8 + 1) hS)
          have hr := ra_S_drop (k / 8 + 1) hS
          have hmet := ra_Met (D := D) hg hM'P hM' hb (by rw [ra_sum_rev]; exact q4) l hlt H.size hG ha
          have hlen := ra_S_len (ra_S_take (k / 8 + 1) hS)
          have hcw := hM'.2.2.2.2.1
          rw [(w5 q1).2.2] at hmet hcw
          unfold ra_ref at q3
          split at q3
          · next k9 j9 as9 hrev =>
            rw [hrev] at ha
            obtain ⟨v9, vs9, hvs9, hv9, hS9⟩ := ra_S_cons ha
            obtain ⟨b9, -, rfl⟩ := hv9
            rw [hvs9] at hmet
            have hst : vs = vs9.reverse ++ .ref b9 :: vs.drop (k / 8 + 1) := by
              have e1 : vs.take (k / 8 + 1) = (Value.ref b9 :: vs9).reverse := by rw [← hvs9, List.reverse_reverse]
              conv => lhs; rw [← List.take_append_drop (k / 8 + 1) vs, e1]
              simp
            have hn9 : vs9.length = k / 8 := by
              have e1 := congrArg List.length hvs9
              rw [List.length_reverse, ← hlen, q2] at e1
              simpa using e1.symm
            rcases q1 with q1 | q1
            · exact xk (Value.ref b9 :: vs9) (vs.drop (k / 8 + 1)) hr (ra_runX (va_runI (own := (ra_My M).cls) (nL := ls.size) (Ts := re_ws x) (As := vs9) ⟨hx, hbc, hml, hown, hts⟩ (ra_Met0 hmet (hkd rfl)) (cwI (k / 8) hts (re_gg (re_c hcw)) rfl rfl rfl (re_hts w2 hts) (re_hts (w1.1 (fun z => by have z2 : k % 8 = 4 := z; omega)) hts) (re_hts (w5 (Or.inl q1)).1 hts) (w5 (Or.inl q1)).2.1 w6 ⟨hrm1, hrm2⟩) ⟨ra_blind hZ, pre _⟩ rfl hn9 rfl hst (lv_room (by rw [ra_S_sum hr]; exact q5)) hdg hroom))
            · obtain ⟨host, wn⟩ := w1.2 q1
              exact xk (Value.ref b9 :: vs9) (vs.drop (k / 8 + 1)) hr (ra_runX (va_runIN (own := (ra_My M).cls) (host := host) (nL := ls.size) (Ts := re_ws x) (As := vs9) ⟨hx, hbc, hml, hown, hts⟩ (ra_Met0 hmet (hkd rfl)) ⟨va_cnB (k / 8) hts (re_gg (re_c hcw)) rfl rfl rfl (hW.2.2.2.2.2.2 _ wn) (re_hts w2 hts) w6 ⟨hrm1, hrm2⟩, (w5 (Or.inr q1)).2.1, re_hts (w5 (Or.inr q1)).1 hts⟩ ⟨ra_blind hZ, pre _⟩ rfl hn9 rfl hst (lv_room (by rw [ra_S_sum hr]; exact q5)) hdg hroom))
          · cases q3
        · cases h
      · cases h
    · cases h
  · cases h
end RAD
