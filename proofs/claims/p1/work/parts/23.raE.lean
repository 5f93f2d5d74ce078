section RAE
variable {cd : ra_Cd} {P : List ra_Mt} {Zf : (Nat → Prop) → State → Heap → Prop}
theorem ra_vOk_0 {r : ra_Rs} {v : Option Value} {ad : List Nat} (h : ra_vOk r v ad) (h2 : r.1.1 = 0) : v = none := by
  rcases h with ⟨-, h⟩ | ⟨h, -⟩
  · exact h
  · rw [h2] at h; cases h
theorem ra_vOk_1 {r : ra_Rs} {v : Option Value} {ad : List Nat} (h : ra_vOk r v ad) (h2 : r.1.1 = 1) : ∃ w, v = some w ∧ ra_R ad r.1.2.1 w := by
  rcases h with ⟨h, -⟩ | ⟨-, h⟩
  · rw [h2] at h; cases h
  · exact h
theorem ra_thr_i {ah : List ra_E} {ig : Instr} {len : Nat} {st : List ra_V} {E : String} (h : ra_thr ah ig len st = some E) : ∃ (k j : Int) (st' : List ra_V) (ci n : Nat) (d : ra_V) (ex : List (Nat × ra_V)) (fs : List ra_V) (r : vw_C), ig = .athrow ∧ len = 1 ∧ st = (3, k, j) :: st' ∧ ra_hw ah k.toNat = some (0, ci, n, d, ex, fs) ∧ vwCl[ci]? = some r ∧ r.1 = E := by
  unfold ra_thr at h
  split at h
  · split at h
    · next hc =>
      obtain ⟨r, h1, h2⟩ := Option.map_eq_some_iff.mp h
      exact ⟨_, _, _, _, _, _, _, _, r, rfl, rfl, rfl, hc, h1, h2⟩
    · cases h
  · cases h
set_option maxHeartbeats 4000000 in
theorem ra_good (hZ : ra_Zok Zf) (hall : ∀ M ∈ P, ra_Mall cd P Zf M) : ∀ n : Nat, ra_Good cd P Zf n
  | 0 => fun M hMP pc al st ah ta a r h => by cases h
  | n + 1 => fun M hMP pc al st ah ta a r h => by
    have ih := ra_good hZ hall n
    have hM := hall M hMP
    unfold ra_run ra_F at h
    split at h
    · -- something is made and thrown
      next E fr lo hth =>
      split at h
      · next hq0 =>
        cases h
        refine ⟨⟨Nat.le_succ _, Nat.le_add_right _ _, Nat.le_max_left _ _, Nat.le_max_left _ _⟩, ?_⟩
        intro p l e R s m args below meth c H locs ls D A ad0 z tys0 tz wS ws x lv vs h0 hl hL hlt hlocks hret htab hZs hR
        obtain ⟨hx, hb, hml, hnm, hts, hown, hA, hK, hP, hD, hV, hW, hG, hS⟩ := id h0
        have t1 := (hM.2.2.2.2.2 _ (ra_find_in hth)).1 rfl
        refine t1 p l e R s m args below meth c H locs a.1 a.2.1 ls vs D A wS _ _ A x hx hb hlt hown hts hZs hW hV hml.symm (by rw [htab]; unfold ra_tab; rw [hq0]; intro x hx; cases hx) hlocks (Nat.le_trans (Nat.le_max_right _ _) hR.2.2.1) ?_ hR.1 hR.2.1 ?_ hV.2.2
        · rw [ra_S_sum hS]; exact Nat.le_trans (Nat.le_max_right _ _) hR.2.2.2
        · intro t ht hz hk
          have hk2 : ∀ (k : Nat) (q : Nat × va_E), ws[k]? = some q → t.heap[q.1]? = H[q.1]? := fun k q hq => hk _ (ra_inH hP hq)
          refine ⟨⟨rfl, rfl, z, tz, ws, va_K.moved ht hK, hP.kept hk2, hD, hG, trivial⟩, Nat.le_trans hV.1 hz, fun q h1 h2 => ?_⟩
          rw [hk q (Nat.lt_of_lt_of_le h1 hV.1)]
          exact hV.2.1 q h1 h2
      · cases h
    · -- an exception's object is made
      next ci E fr lo hth =>
      unfold ra_mk at h
      dsimp only at h
      obtain ⟨i1, i2⟩ := ih M hMP _ _ _ _ _ _ r h
      refine ⟨ra_le_t ⟨Nat.le_succ _, Nat.le_add_right _ _, Nat.le_max_left _ _, Nat.le_max_left _ _⟩ i1, ?_⟩
      intro p l e R s m args below meth c H locs ls D A ad0 z tys0 tz wS ws x lv vs h0 hl hL hlt hlocks hret htab hZs hR
      obtain ⟨hx, hb, hml, hnm, hts, hown, hA, hK, hP, hD, hV, hW, hG, hS⟩ := id h0
      have t1 := (hM.2.2.2.2.2 _ (ra_find_in hth)).2 ci rfl
      have hR1 := ra_le_f i1 hR
      refine t1 p l e R s m args below meth c H locs a.1 a.2.1 _ ls vs D A (tys0 ++ tz) wS ws x hx hb hlt hown hts hZs hK hP hD hV hW hA hml.symm (Nat.le_trans (Nat.le_max_right _ _) hR1.2.2.1) ?_ hR1.1 hR1.2.1 ?_
      · rw [ra_S_sum hS]; exact Nat.le_trans (Nat.le_max_right _ _) hR1.2.2.2
      · intro a9 H1 g1 g2 g3
        have hG1 := ra_G_newW hG (q := a9) (en := .inr (ci, [])) (e := (0, ci, 0, (0, 0, 0), [], [])) [] ⟨[], rfl, trivial⟩
        simp only [List.map_nil, List.append_nil] at hG1
        rw [List.append_assoc] at hG1
        refine i2 p l e R s m args below meth c H1 locs ls D A ad0 (z ++ [a9]) tys0 tz wS (ws ++ [(a9, .inr (ci, []))]) x lv (.ref a9 :: vs) ⟨hx, hb, hml, hnm, hts, hown, hA, hK, g1, g2, g3, hW, hG1, ⟨?_, by rw [← List.append_assoc]; exact ra_S_app hS⟩⟩ hl (by rw [← List.append_assoc]; exact ra_L_app hL) hlt hlocks hret htab hZs hR
        rw [← List.append_assoc, ra_G_len hG]
        exact ra_new_R _ a9 0
    · split at h
      · next ig len hdg =>
        split at h
        · -- one step
          next pc' al' st' ah' ta' a' hpre =>
          obtain ⟨i1, i2⟩ := ih M hMP pc' al' st' ah' ta' a' r h
          have hle := ra_pre_le hpre
          refine ⟨ra_le_t hle i1, ?_⟩
          intro p l e R s m args below meth c H locs ls D A ad0 z tys0 tz wS ws x lv vs h0 hl hL hlt hlocks hret htab hZs hR
          obtain ⟨hx, hb, hml, hnm, hts, hown, hA, hK, hP, hD, hV, hW, hG, hS⟩ := id h0
          refine ra_pre_W hM.1 h0 hl hL hdg hpre (ra_le_f i1 hR) ?_
          intro H1 locs1 z1 tz1 ws1 ls1 lv1 vs1 g1 g2 g3 g4 g5 g6 g7 g8
          rw [List.append_assoc] at g1 g5 g7 g8
          rw [List.append_assoc] at g5
          exact i2 p l e R s m args below meth c H1 locs1 ls1 D A ad0 (z ++ z1) tys0 (tz ++ tz1) wS ws1 x lv1 vs1 ⟨hx, hb, by rw [g6.1]; rw [hl.1] at hml; exact hml, hnm, hts, hown, hA, g1, g2, g3, g4, hW, g5, g8⟩ g6 g7 hlt hlocks hret htab hZs hR
        · split at h
          · -- an end
            next q hq =>
            cases h
            refine ⟨ra_le_r a, ?_⟩
            intro p l e R s m args below meth c H locs ls D A ad0 z tys0 tz wS ws x lv vs h0 hl hL hlt hlocks hret htab hZs hR
            obtain ⟨hx, hb, hml, hnm, hts, hown, hA, hK, hP, hD, hV, hW, hG, hS⟩ := id h0
            refine vx_ret ?_
            unfold ra_ret at hq
            split at hq
            · split at hq
              · next e9 =>
                cases hq
                rw [ra_S_nil hS]
                exact W.vret hx hb (hret.trans e9) (fun t ht hW => ⟨⟨none, rfl, z, tz, ws, va_K.moved hW.alike hK, by rw [ht]; exact hP, hD, hG, Or.inl ⟨rfl, rfl⟩⟩, hV.F ht⟩) hV.2.2 hdg hlocks
              · cases hq
            · obtain ⟨v, vs1, rfl, h1, h2⟩ := ra_S_cons hS
              rw [ra_S_nil h2]
              split at hq
              · next e9 =>
                cases hq
                obtain ⟨y, rfl, -⟩ := id h1
                exact W.iret hx hb (hret.trans e9) (fun t ht hW => ⟨⟨some (.int y), rfl, z, tz, ws, va_K.moved hW.alike hK, by rw [ht]; exact hP, hD, hG, Or.inr ⟨rfl, _, rfl, h1⟩⟩, hV.F ht⟩) hV.2.2 hdg hlocks
              · split at hq
                · next e9 =>
                  cases hq
                  obtain ⟨y, rfl, -⟩ := id h1
                  exact W.zret hx hb (hret.trans e9.1) (ra_fit_R (ty := .boolean) (by exact decide_eq_true e9.2) h1).1 (fun t ht hW => ⟨⟨some (.int y), rfl, z, tz, ws, va_K.moved hW.alike hK, by rw [ht]; exact hP, hD, hG, Or.inr ⟨rfl, _, rfl, h1⟩⟩, hV.F ht⟩) hV.2.2 hdg hlocks
                · split at hq
                  · next e9 =>
                    cases hq
                    obtain ⟨y, rfl, y1, y2⟩ := id h1
                    exact W.zret hx hb (hret.trans e9.1) (ra_nbyte y (by omega) (by omega)) (fun t ht hW => ⟨⟨some (.int y), rfl, z, tz, ws, va_K.moved hW.alike hK, by rw [ht]; exact hP, hD, hG, Or.inr ⟨rfl, _, rfl, h1⟩⟩, hV.F ht⟩) hV.2.2 hdg hlocks
                  · split at hq
                    · next e9 =>
                      cases hq
                      obtain ⟨y, rfl, y1, y2⟩ := id h1
                      exact W.zret hx hb (hret.trans e9.1) (ra_nchar y (by omega) (by omega)) (fun t ht hW => ⟨⟨some (.int y), rfl, z, tz, ws, va_K.moved hW.alike hK, by rw [ht]; exact hP, hD, hG, Or.inr ⟨rfl, _, rfl, h1⟩⟩, hV.F ht⟩) hV.2.2 hdg hlocks
                    · cases hq
            · obtain ⟨v, vs1, rfl, h1, h2⟩ := ra_S_cons hS
              rw [ra_S_nil h2]
              split at hq
              · next e9 =>
                cases hq
                obtain ⟨y, rfl⟩ := ra_l1_R e9.2 h1
                exact W.lret hx hb (hret.trans e9.1) (fun t ht hW => ⟨⟨some (.long y), rfl, z, tz, ws, va_K.moved hW.alike hK, by rw [ht]; exact hP, hD, hG, Or.inr ⟨rfl, _, rfl, h1⟩⟩, hV.F ht⟩) hV.2.2 hdg hlocks
              · cases hq
            · obtain ⟨v, vs1, rfl, h1, h2⟩ := ra_S_cons hS
              rw [ra_S_nil h2]
              split at hq
              · next e9 =>
                cases hq
                have e8 : v = .double _ := h1
                subst e8
                exact W.dret hx hb (hret.trans e9) (fun t ht hW => ⟨⟨some _, rfl, z, tz, ws, va_K.moved hW.alike hK, by rw [ht]; exact hP, hD, hG, Or.inr ⟨rfl, _, rfl, h1⟩⟩, hV.F ht⟩) hV.2.2 hdg hlocks
              · cases hq
            · obtain ⟨v, vs1, rfl, h1, h2⟩ := ra_S_cons hS
              rw [ra_S_nil h2]
              have h9 : v = .null ∨ ∃ a, v = .ref a := by obtain ⟨y, -, rfl⟩ := id h1; exact Or.inr ⟨y, rfl⟩
              split at hq
              · next e9 =>
                cases hq
                exact W.aret hx hb (hret.trans e9) (Or.inl ⟨_, rfl⟩) h9 (fun t ht hW => ⟨⟨some v, rfl, z, tz, ws, va_K.moved hW.alike hK, by rw [ht]; exact hP, hD, hG, Or.inr ⟨rfl, _, rfl, h1⟩⟩, hV.F ht⟩) hV.2.2 hdg hlocks
              · next e9 =>
                cases hq
                exact W.aret hx hb (hret.trans e9) (Or.inr ⟨_, rfl⟩) h9 (fun t ht hW => ⟨⟨some v, rfl, z, tz, ws, va_K.moved hW.alike hK, by rw [ht]; exact hP, hD, hG, Or.inr ⟨rfl, _, rfl, h1⟩⟩, hV.F ht⟩) hV.2.2 hdg hlocks
              · cases hq
            · obtain ⟨v, vs1, rfl, h1, h2⟩ := ra_S_cons hS
              rw [ra_S_nil h2]
              have h9 : v = .null ∨ ∃ a, v = .ref a := Or.inl h1
              split at hq
              · next e9 =>
                cases hq
                exact W.aret hx hb (hret.trans e9) (Or.inl ⟨_, rfl⟩) h9 (fun t ht hW => ⟨⟨some v, rfl, z, tz, ws, va_K.moved hW.alike hK, by rw [ht]; exact hP, hD, hG, Or.inr ⟨rfl, _, rfl, h1⟩⟩, hV.F ht⟩) hV.2.2 hdg hlocks
              · next e9 =>
                cases hq
                exact W.aret hx hb (hret.trans e9) (Or.inr ⟨_, rfl⟩) h9 (fun t ht hW => ⟨⟨some v, rfl, z, tz, ws, va_K.moved hW.alike hK, by rw [ht]; exact hP, hD, hG, Or.inr ⟨rfl, _, rfl, h1⟩⟩, hV.F ht⟩) hV.2.2 hdg hlocks
              · cases hq
            · cases hq
          · split at h
            · -- athrow
              next E hthr =>
              obtain ⟨k9, j9, st9, ci9, n9, d9, ex9, fs9, r9, rfl, rfl, rfl, hcell, hr9, hr9n⟩ := ra_thr_i hthr
              have main : ∀ {p : Program} {l : Launch} {e : Env} {R : Room} {s : State} {m : MethodId} {args : Array Value} {below : List Frame} {meth : Method} {c : Code} {H : Heap} {locs : List Loc} {ls : Array Slot} {D : va_G} {A : Nat → Prop} {ad : List Nat} {tys : List (ClassId × FieldType)} {wS ws : va_W} {x : Cond} {vs : List Value} {Q : State → Prop}, ra_At p s m args meth c H s.heap locs ls D A ah ta ad tys wS ws M x ((3, k9, j9) :: st9) vs →
                  (∀ (q9 : Nat) (ce : Cell) (rest : List Value), H[q9]? = some ce → ce.vm = .none → s.vm.findClass E = some ce.cls → vx_W p l e R s m args below meth c H locs a.1 a.2.1 Q (F0 m pc ls rest) q9) → W p l e R s m args below meth c H locs a.1 a.2.1 Q (F0 m pc ls vs) := by
                intro p l e R s m args below meth c H locs ls D A ad tys wS ws x vs Q h0 k9
                obtain ⟨hx, hb, hml, hnm, hts, hown, hA, hK, hP, hD, hV, hW, hG, hS⟩ := id h0
                obtain ⟨v, vs1, rfl, h1, hS1⟩ := ra_S_cons hS
                obtain ⟨q9, en, rfl, hw, hle, hH⟩ := ra_cellW hW.2.2.1 hG h1 hcell
                obtain ⟨fs8, rfl, -⟩ := hH
                obtain ⟨ce, c1, c2, c3⟩ := ra_recv2 hK hP hr9 hw
                exact vx_athrow hx hb hdg (k9 q9 ce vs1 c1 c2 (by rw [← hr9n]; exact c3))
              unfold ra_thx at h
              split at h
              · next hct =>
                cases h
                refine ⟨ra_le_r a, ?_⟩
                intro p l e R s m args below meth c H locs ls D A ad0 z tys0 tz wS ws x lv vs h0 hl hL hlt hlocks hret htab hZs hR
                obtain ⟨hx, hb, hml, hnm, hts, hown, hA, hK, hP, hD, hV, hW, hG, hS⟩ := id h0
                refine main h0 (fun q9 ce rest g1 g2 g3 => ?_)
                exact ra_out hM.2.1 hts hW.2.2.2 hown hct hlocks htab g1 g2 g3 (fun t2 ht2 hW2 => ⟨⟨rfl, rfl, z, tz, ws, va_K.moved hW2 hK, by rw [ht2]; exact hP, hD, hG, trivial⟩, hV.F ht2⟩) hV.2.2
              · next h9 hct =>
                obtain ⟨i1, i2⟩ := ih M hMP _ _ _ _ _ _ r h
                refine ⟨i1, ?_⟩
                intro p l e R s m args below meth c H locs ls D A ad0 z tys0 tz wS ws x lv vs h0 hl hL hlt hlocks hret htab hZs hR
                obtain ⟨hx, hb, hml, hnm, hts, hown, hA, hK, hP, hD, hV, hW, hG, hS⟩ := id h0
                refine main h0 (fun q9 ce rest g1 g2 g3 => ?_)
                exact ra_caught hM.2.1 hts hW.2.2.2 hown hct htab g1 g2 g3 (i2 p l e R s m args below meth c H locs ls D A ad0 z tys0 tz wS ws x lv [.ref q9] ⟨hx, hb, hml, hnm, hts, hown, hA, hK, hP, hD, hV, hW, hG, ⟨Or.inr ⟨q9, rfl⟩, trivial⟩⟩ hl hL hlt hlocks hret htab hZs hR)
              · cases h
            · split at h
              · cases h
              · -- a call
                next kd M' as st' hcal =>
                split at h
                · cases h
                · next rs hrb =>
                  unfold ra_back at h
                  split at h
                  · -- back with nothing
                    next v9 e9 ah' ta' b =>
                    obtain ⟨i1, i2⟩ := ih M hMP (pc + 3) al st' ah' ta' (ra_acc a b (ra_Mn M')) r h
                    refine ⟨ra_le_t (ra_acc_le a b _) i1, ?_⟩
                    intro p l e R s m args below meth c H locs ls D A ad0 z tys0 tz wS ws x lv vs h0 hl hL hlt hlocks hret htab hZs hR
                    obtain ⟨hx, hb, hml, hnm, hts, hown, hA, hK, hP, hD, hV, hW, hG, hS⟩ := id h0
                    have hfree : ∀ q, va_A ws H.size q → A q := fun q hq => hq.elim (fun ⟨k, e9, hk⟩ => hD.2 k _ hk) (fun hq => hA q (Nat.le_trans hV.1 hq))
                    refine ra_cal_W ih hZ hall hMP h0 hlt hZs hdg hcal hrb (ra_le_f i1 hR) (fun _ z9 => by cases z9) (fun z9 => by cases z9) ?_
                    intro v t H1 locs1 rest g1 g2 g3 g4 g5
                    obtain ⟨z1, tz1, ws1, u1, u2, u3, u4, u5⟩ := g3
                    rw [ra_vOk_0 u5 rfl]
                    rw [List.append_assoc] at u1 u4
                    rw [List.append_assoc] at u4
                    rw [g1] at u2
                    exact i2 p l e R s m args below meth c H1 locs1 ls D A ad0 (z ++ z1) tys0 (tz ++ tz1) wS ws1 x lv rest ⟨hx, hb, hml, hnm, hts, hown, hA, va_K.moved g2.symm u1, u2, u3.weaken (fun _ _ _ h => hfree _ h), g4, hW, u4, by rw [← List.append_assoc]; exact ra_S_app g5⟩ hl (by rw [← List.append_assoc]; exact ra_L_app hL) hlt hlocks hret htab hZs hR
                  · -- back with a value
                    next v9 e9 ah' ta' b =>
                    obtain ⟨i1, i2⟩ := ih M hMP (pc + 3) al (v9 :: st') ah' ta' (ra_acc a b (ra_Mn M')) r h
                    refine ⟨ra_le_t (ra_acc_le a b _) i1, ?_⟩
                    intro p l e R s m args below meth c H locs ls D A ad0 z tys0 tz wS ws x lv vs h0 hl hL hlt hlocks hret htab hZs hR
                    obtain ⟨hx, hb, hml, hnm, hts, hown, hA, hK, hP, hD, hV, hW, hG, hS⟩ := id h0
                    have hfree : ∀ q, va_A ws H.size q → A q := fun q hq => hq.elim (fun ⟨k, e9, hk⟩ => hD.2 k _ hk) (fun hq => hA q (Nat.le_trans hV.1 hq))
                    refine ra_cal_W ih hZ hall hMP h0 hlt hZs hdg hcal hrb (ra_le_f i1 hR) (fun _ z9 => by cases z9) (fun z9 => by cases z9) ?_
                    intro v t H1 locs1 rest g1 g2 g3 g4 g5
                    obtain ⟨z1, tz1, ws1, u1, u2, u3, u4, u5⟩ := g3
                    obtain ⟨w, rfl, u6⟩ := ra_vOk_1 u5 rfl
                    rw [List.append_assoc] at u1 u4 u6
                    rw [List.append_assoc] at u4
                    rw [g1] at u2
                    exact i2 p l e R s m args below meth c H1 locs1 ls D A ad0 (z ++ z1) tys0 (tz ++ tz1) wS ws1 x lv (w :: rest) ⟨hx, hb, hml, hnm, hts, hown, hA, va_K.moved g2.symm u1, u2, u3.weaken (fun _ _ _ h => hfree _ h), g4, hW, u4, u6, by rw [← List.append_assoc]; exact ra_S_app g5⟩ hl (by rw [← List.append_assoc]; exact ra_L_app hL) hlt hlocks hret htab hZs hR
                  · -- thrown
                    next k9 v9 e9 ah' ta' b _ _ =>
                    split at h
                    · next hk9 =>
                      obtain ⟨rfl, hk9⟩ := hk9
                      unfold ra_thx at h
                      split at h
                      · next hct =>
                        cases h
                        refine ⟨ra_acc_le a b _, ?_⟩
                        intro p l e R s m args below meth c H locs ls D A ad0 z tys0 tz wS ws x lv vs h0 hl hL hlt hlocks hret htab hZs hR
                        obtain ⟨hx, hb, hml, hnm, hts, hown, hA, hK, hP, hD, hV, hW, hG, hS⟩ := id h0
                        have hfree : ∀ q, va_A ws H.size q → A q := fun q hq => hq.elim (fun ⟨k, e9, hk⟩ => hD.2 k _ hk) (fun hq => hA q (Nat.le_trans hV.1 hq))
                        refine ra_cal_W ih hZ hall hMP h0 hlt hZs hdg hcal hrb hR (fun z9 => absurd z9 hk9) ?_ (fun v t H1 locs1 rest g1 g2 g3 g4 g5 => ?_)
                        · intro _ ce q9 t H1 locs1 rest g1 g2 g3 g4 g5 g6 g7
                          obtain ⟨z1, tz1, ws1, u1, u2, u3, u4, u5⟩ := g3
                          rw [List.append_assoc] at u1 u4
                          rw [List.append_assoc] at u4
                          rw [g1] at u2
                          exact ra_out hM.2.1 hts hW.2.2.2 hown hct hlocks htab g5 g6 g7 (fun t2 ht2 hW2 => ⟨⟨rfl, rfl, z ++ z1, tz ++ tz1, ws1, va_K.moved (g2.symm.trans hW2) u1, by rw [ht2]; exact u2, u3.weaken (fun _ _ _ h => hfree _ h), u4, trivial⟩, g4.F ht2⟩) g4.2.2
                        · obtain ⟨z1, tz1, ws1, u1, u2, u3, u4, u5⟩ := g3
                          rcases u5 with ⟨u5, -⟩ | ⟨u5, -⟩ <;> cases u5
                      · next h9 hct =>
                        obtain ⟨i1, i2⟩ := ih M hMP _ _ _ _ _ _ r h
                        refine ⟨ra_le_t (ra_acc_le a b _) i1, ?_⟩
                        intro p l e R s m args below meth c H locs ls D A ad0 z tys0 tz wS ws x lv vs h0 hl hL hlt hlocks hret htab hZs hR
                        obtain ⟨hx, hb, hml, hnm, hts, hown, hA, hK, hP, hD, hV, hW, hG, hS⟩ := id h0
                        have hfree : ∀ q, va_A ws H.size q → A q := fun q hq => hq.elim (fun ⟨k, e9, hk⟩ => hD.2 k _ hk) (fun hq => hA q (Nat.le_trans hV.1 hq))
                        refine ra_cal_W ih hZ hall hMP h0 hlt hZs hdg hcal hrb (ra_le_f i1 hR) (fun z9 => absurd z9 hk9) ?_ (fun v t H1 locs1 rest g1 g2 g3 g4 g5 => ?_)
                        · intro _ ce q9 t H1 locs1 rest g1 g2 g3 g4 g5 g6 g7
                          obtain ⟨z1, tz1, ws1, u1, u2, u3, u4, u5⟩ := g3
                          rw [List.append_assoc] at u1 u4
                          rw [List.append_assoc] at u4
                          rw [g1] at u2
                          exact ra_caught hM.2.1 hts hW.2.2.2 hown hct htab g5 g6 g7 (i2 p l e R s m args below meth c H1 locs1 ls D A ad0 (z ++ z1) tys0 (tz ++ tz1) wS ws1 x lv [.ref q9] ⟨hx, hb, hml, hnm, hts, hown, hA, va_K.moved g2.symm u1, u2, u3.weaken (fun _ _ _ h => hfree _ h), g4, hW, u4, ⟨Or.inr ⟨q9, rfl⟩, trivial⟩⟩ hl (by rw [← List.append_assoc]; exact ra_L_app hL) hlt hlocks hret htab hZs hR)
                        · obtain ⟨z1, tz1, ws1, u1, u2, u3, u4, u5⟩ := g3
                          rcases u5 with ⟨u5, -⟩ | ⟨u5, -⟩ <;> cases u5
                      · cases h
                    · cases h
      · cases h
end RAE
