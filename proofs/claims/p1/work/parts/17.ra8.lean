section RA8
variable {p : Program} {l : Launch} {e : Env} {R : Room} {s : State} {m : MethodId} {args : Array Value} {below : List Frame} {meth : Method} {c : Code} {H H0 : Heap} {locs : List Loc} {cells slots : Nat} {Q : State → Prop} {cc : ByteArray} {pc : Nat} {ls : Array Slot} {rest : List Value}
variable {D : va_G} {A : Nat → Prop} {ah : List ra_E} {ta : List FieldType} {ad : List Nat} {tys : List (ClassId × FieldType)} {ws : va_W}
theorem ra_at_app {d : ra_V} : ∀ {l1 l2 : List (Nat × ra_V)} {j : Nat}, ra_at d (l1 ++ l2) j = ra_at (ra_at d l2 j) l1 j
  | [], _, _ => rfl
  | (i, a) :: l1, l2, j => by
    show (if i = j then a else ra_at d (l1 ++ l2) j) = if i = j then a else ra_at (ra_at d l2 j) l1 j
    split
    · rfl
    · exact ra_at_app
theorem ra_at_none {d : ra_V} : ∀ {ex : List (Nat × ra_V)} {j : Nat}, (∀ q ∈ ex, q.1 ≠ j) → ra_at d ex j = d
  | [], _, _ => rfl
  | (i, a) :: ex, j, h => by
    unfold ra_at
    rw [if_neg (h (i, a) List.mem_cons_self)]
    exact ra_at_none (fun q hq => h q (List.mem_cons_of_mem _ hq))
def ra_shift (ex : List (Nat × ra_V)) (sp dp n : Nat) : List (Nat × ra_V) := (ex.filter (fun q => decide (sp ≤ q.1 ∧ q.1 < sp + n))).map (fun q => (q.1 - sp + dp, q.2))
def ra_outs (ex : List (Nat × ra_V)) (dp n : Nat) : List (Nat × ra_V) := ex.filter (fun q => decide (¬ (dp ≤ q.1 ∧ q.1 < dp + n)))
theorem ra_at_shift {d : ra_V} {sp dp n : Nat} : ∀ {ex : List (Nat × ra_V)} {j : Nat}, dp ≤ j → j < dp + n → ra_at d (ra_shift ex sp dp n) j = ra_at d ex (sp + (j - dp))
  | [], _, _, _ => rfl
  | (i, a) :: ex, j, h1, h2 => by
    unfold ra_shift
    rw [List.filter_cons]
    split
    · next q =>
      have q := of_decide_eq_true q
      dsimp only at q
      rw [List.map_cons]
      unfold ra_at
      dsimp only
      split
      · rw [if_pos (by omega)]
      · rw [if_neg (by omega)]; exact ra_at_shift h1 h2
    · next q =>
      have q : ¬ (sp ≤ i ∧ i < sp + n) := fun z => q (decide_eq_true z)
      conv => rhs; unfold ra_at
      rw [if_neg (by omega)]
      exact ra_at_shift h1 h2
theorem ra_at_outs {d : ra_V} {dp n : Nat} : ∀ {ex : List (Nat × ra_V)} {j : Nat}, ¬ (dp ≤ j ∧ j < dp + n) → ra_at d (ra_outs ex dp n) j = ra_at d ex j
  | [], _, _ => rfl
  | (i, a) :: ex, j, h1 => by
    unfold ra_outs
    rw [List.filter_cons]
    split
    · next q =>
      unfold ra_at
      split
      · rfl
      · exact ra_at_outs h1
    · next q =>
      have q : (dp ≤ i ∧ i < dp + n) := by simpa using q
      conv => rhs; unfold ra_at
      rw [if_neg (by intro z; subst z; exact h1 q)]
      exact ra_at_outs h1
theorem ra_at_cpy {d : ra_V} {ex1 ex2 : List (Nat × ra_V)} {sp dp n j : Nat} : ra_at d (ra_shift ex1 sp dp n ++ ra_outs ex2 dp n) j = if dp ≤ j ∧ j < dp + n then ra_at d ex1 (sp + (j - dp)) else ra_at d ex2 j := by
  rw [ra_at_app]
  split
  · next h =>
    rw [ra_at_none (ex := ra_outs ex2 dp n) (by
      intro q hq z
      have := (List.mem_filter.mp hq).2
      have := of_decide_eq_true this
      rw [z] at this
      exact this h)]
    exact ra_at_shift h.1 h.2
  · next h =>
    rw [ra_at_none (ex := ra_shift ex1 sp dp n) (by
      intro q hq z
      obtain ⟨q', hq', rfl⟩ := List.mem_map.mp hq
      have := of_decide_eq_true (List.mem_filter.mp hq').2
      dsimp only at z
      exact h (by omega))]
    exact ra_at_outs h
/-- System.arraycopy of bytes and ints -/
def ra_copy (ah : List ra_E) (ta : List FieldType) : List ra_V → Option (List ra_E × List ra_V)
  | n :: dp :: (3, k2, _) :: sp :: (3, k1, _) :: st => match ra_hw ah k1.toNat, ra_hw ah k2.toNat, ra_cix n, ra_cix dp, ra_cix sp with
    | some (1, t1, n1, d1, ex1, _), some (1, t2, n2, d2, ex2, f2), some n0, some dp0, some sp0 =>
      if ra_inb n (n1 + 1) = true ∧ ra_inb dp (n2 + 1) = true ∧ ra_inb sp (n1 + 1) = true ∧ ra_i1 n = true ∧ ra_i1 dp = true ∧ ra_i1 sp = true ∧ d1 = d2 ∧ sp0 + n0 ≤ n1 ∧ dp0 + n0 ≤ n2 ∧ ta[t1]? = ta[t2]? ∧ (ta[t1]? = some .byte ∨ ta[t1]? = some .int) then
        some (ah.set k2.toNat (1, t2, n2, d2, ra_shift ex1 sp0 dp0 n0 ++ ra_outs ex2 dp0 n0, f2), st) else none
    | _, _, _, _, _ => none
  | _ => none
theorem ra_copy_W {wS : va_W} {x : Cond} {own : String} {index : Nat} {ah' : List ra_E} {st st' : List ra_V} {vs : List Value} (hx : p.tables.exec = Jvm.exec) (hb : c.code = cc) (hml : c.maxLocals = ls.size) (hts : ∀ w ∈ re_ws x, w.before args s = true) (hown : s.vm.findClass own = some m.cls) (hK : va_K D vwCl tys s) (hP : va_P D vwCl ws H) (hD : va_D A ws) (hV : va_S A H0 H locs) (hS0 : wS.length = ra_S0) (hG : ra_G ah ta ad tys (wS ++ ws)) (hS : ra_S ad st vs)
    (h1 : Cond.methodLink own index arraycopyName ∈ re_tbl) (h2 : Cond.native arraycopyName ∈ re_tbl) (h3 : Cond.static arraycopyName ∈ re_tbl) (h4 : Cond.initialized "java/lang/System" ∈ re_tbl) (hfr : 1 ≤ R.frames) (hlo : (st'.map ra_c).sum + (nativeFrameWords "java/lang/System" "arraycopy" 5 + 11) ≤ R.locals) (hdg : decode cc pc = .ok (.invokestatic index, 3)) (h : ra_copy ah ta st = some (ah', st'))
    (kk : ∀ (H1 : Heap) (locs1 : List Loc) (ws' : va_W) (vs' : List Value), va_P D vwCl ws' H1 → va_D A ws' → va_S A H0 H1 locs1 → ra_G ah' ta ad tys (wS ++ ws') → ra_S ad st' vs' → W p l e R s m args below meth c H1 locs1 cells slots Q (F0 m (pc + 3) ls vs')) : W p l e R s m args below meth c H locs cells slots Q (F0 m pc ls vs) := by
  unfold ra_copy at h
  split at h
  · split at h
    · next hk1 hk2 hn hdp hsp =>
      split at h
      · next q =>
        obtain ⟨q1, q2, q3, q4, q5, q6, rfl, q8, q9, q10, q11⟩ := q
        cases h
        obtain ⟨v1, vs1, rfl, r1, hS1⟩ := ra_S_cons hS
        obtain ⟨v2, vs2, rfl, r2, hS2⟩ := ra_S_cons hS1
        obtain ⟨v3, vs3, rfl, r3, hS3⟩ := ra_S_cons hS2
        obtain ⟨v4, vs4, rfl, r4, hS4⟩ := ra_S_cons hS3
        obtain ⟨v5, vs5, rfl, r5, hS5⟩ := ra_S_cons hS4
        obtain ⟨n, rfl⟩ := ra_i1_R q4 r1
        obtain ⟨dp, rfl⟩ := ra_i1_R q5 r2
        obtain ⟨sp, rfl⟩ := ra_i1_R q6 r4
        obtain ⟨a2, en2, rfl, hw2, hle2, hH2⟩ := ra_cellW hS0 hG r3 hk2
        obtain ⟨a1, en1, rfl, hw1, hle1, hH1⟩ := ra_cellW hS0 hG r5 hk1
        obtain ⟨c1, f, ty1, rfl, ht1, hb1, hf⟩ := hH1
        obtain ⟨c2, g, ty2, rfl, ht2, hb2, hg⟩ := hH2
        have in1 := ra_inb_R q1 r1
        have in2 := ra_inb_R q2 r2
        have in3 := ra_inb_R q3 r4
        have e1 := ra_cix_R hn r1 in1
        have e2 := ra_cix_R hdp r2 in2
        have e3 := ra_cix_R hsp r4 in3
        have z1 := vp_in_iff.mp in1
        have z2 := vp_in_iff.mp in2
        have z3 := vp_in_iff.mp in3
        have ety : ty2 = ty1 := by
          rcases q11 with q | q
          · rw [ra_G_ty hG ht1 q, ra_G_ty hG ht2 (q10.symm.trans q)]
          · rw [ra_G_ty hG ht1 q, ra_G_ty hG ht2 (q10.symm.trans q)]
        subst ety
        have hty : ty2 = .byte ∨ ty2 = .int := by
          rcases q11 with q | q
          · exact Or.inl (ra_G_ty hG ht1 q)
          · exact Or.inr (ra_G_ty hG ht1 q)
        refine va_copyi hx hb hml hown (re_hts h1 hts) (re_hts h2 hts) (re_hts h3 hts) (re_hts h4 hts) hK hP hD hV _ _ _ _ hw1 hw2 ht1 ht2 (by rcases hty with rfl | rfl <;> rfl)
          (fun z => by have := Int32.lt_iff_toInt_lt.mp z; have e9 : (0 : Int32).toInt = 0 := rfl; omega) (fun z => by have := Int32.lt_iff_toInt_lt.mp z; have e9 : (0 : Int32).toInt = 0 := rfl; omega) (fun z => by have := Int32.lt_iff_toInt_lt.mp z; have e9 : (0 : Int32).toInt = 0 := rfl; omega)
          (by rw [e1, e3]; exact q8) (by rw [e1, e2]; exact q9) ?_ hfr (by rw [ra_S_sum hS5]; exact hlo) hdg
          (fun H1 locs1 hP1 hD1 hV1 => kk H1 locs1 _ _ hP1 hD1 hV1 (ra_G_setW hG hle2 hw2 ?_) hS5)
        · intro i hi
          rw [e1] at hi
          rw [e3]
          rcases hty with rfl | rfl
          · exact hb1 rfl _ (by omega)
          · rfl
        · refine ⟨c2, _, ty2, rfl, ht2, ?_, ?_⟩
          · intro z j hj
            unfold va_cpy
            split
            · next w => exact hb1 z _ (by rw [e1, e2] at w; rw [e2, e3]; omega)
            · exact hb2 z j hj
          · intro j hj
            rw [ra_at_cpy]
            unfold va_cpy
            rw [e1, e2, e3]
            split
            · exact hf _ (by omega)
            · exact hg j hj
      · cases h
    · cases h
  · cases h
/-- classes of which one may stand for the other (exceptions and their handlers, cells of rows), and such as may not -/
def ra_yes : List (String × String) := [("java/lang/IllegalStateException", "java/lang/IllegalStateException"), ("java/lang/IndexOutOfBoundsException", "java/lang/IndexOutOfBoundsException"), ("java/lang/IllegalArgumentException", "java/lang/IllegalArgumentException"), ("SqlStoreModel$Stop", "SqlStoreModel$Stop"), ("SqlStore$Node", "java/lang/Object"), ("SqlStore$Select", "java/lang/Object")]
def ra_no : List (String × String) := [("java/lang/IllegalStateException", "java/lang/IndexOutOfBoundsException"), ("java/lang/IndexOutOfBoundsException", "java/lang/IllegalStateException"), ("java/lang/IllegalArgumentException", "java/lang/IllegalStateException"), ("java/lang/IllegalArgumentException", "java/lang/IndexOutOfBoundsException")]
def ra_Yc (C T : String) (U : State) : Prop := ∃ c t : ClassId, U.vm.findClass C = some c ∧ U.vm.findClass T = some t ∧ U.vm.assignable c t = true
theorem ra_Yc.moved {C T : String} {u U : State} (hvm : u.vm.Alike U.vm) (h : ra_Yc C T u) : ra_Yc C T U := by
  obtain ⟨c, t, h1, h2, h3⟩ := h
  exact ⟨c, t, by rw [hvm.findClass]; exact h1, by rw [hvm.findClass]; exact h2, by rw [hvm.assignable]; exact h3⟩
theorem ra_Yc.use {C T : String} {u : State} {args : Array Value} (h : ra_Yc C T u) : (Cond.castable C T).before args u = true := by
  obtain ⟨c, t, h1, h2, h3⟩ := h
  show (Cond.castable C T).holds args u none u [] = true
  simp only [Cond.holds, Cond.value, h1, h2, h3]
  rfl
/-- a reference into a row -/
def ra_aas (ah : List ra_E) (ta : List FieldType) : List ra_V → Option (List ra_E × List ra_V)
  | (3, kx, j) :: i :: (3, k, _) :: st => match ra_hw ah k.toNat, ra_hw ah kx.toNat with
    | some (3, t0, n, d, ex, fs), some (0, ci, _, _, _, _) => match vwCl[ci]? with
      | some r => (match ta[t0]? with
      | some (.object E) => if (E = r.1 ∨ (r.1, E) ∈ ra_yes) ∧ ra_inb i n = true ∧ ra_i1 i = true then (match ra_cix i with
        | some i0 => some (ah.set k.toNat (3, t0, n, d, (i0, (3, kx, j)) :: ex.filter (fun q => !(q.1 == i0)), fs), st)
        | none => none) else none
      | _ => none)
      | none => none
    | _, _ => none
  | _ => none
theorem ra_aas_W {wS : va_W} {ah' : List ra_E} {st st' : List ra_V} {vs : List Value} (hY : ∀ q ∈ ra_yes, ra_Yc q.1 q.2 s) (hx : p.tables.exec = Jvm.exec) (hb : c.code = cc) (hK : va_K D vwCl tys s) (hP : va_P D vwCl ws H) (hD : va_D A ws) (hV : va_S A H0 H locs) (hS0 : wS.length = ra_S0) (hG : ra_G ah ta ad tys (wS ++ ws)) (hS : ra_S ad st vs) (hdg : decode cc pc = .ok (.aastore, 1)) (h : ra_aas ah ta st = some (ah', st'))
    (kk : ∀ (H1 : Heap) (locs1 : List Loc) (ws' : va_W) (vs' : List Value), va_P D vwCl ws' H1 → va_D A ws' → va_S A H0 H1 locs1 → ra_G ah' ta ad tys (wS ++ ws') → ra_S ad st' vs' → W p l e R s m args below meth c H1 locs1 cells slots Q (F0 m (pc + 1) ls vs')) : W p l e R s m args below meth c H locs cells slots Q (F0 m pc ls vs) := by
  unfold ra_aas at h
  split at h
  · split at h
    · next hk hkx =>
      split at h
      · next r hr =>
       split at h
       · next E hE =>
        split at h
        · next q =>
          split at h
          · next i0 hi0 =>
            cases h
            obtain ⟨v1, vs1, rfl, r1, hS1⟩ := ra_S_cons hS
            obtain ⟨v2, vs2, rfl, r2, hS2⟩ := ra_S_cons hS1
            obtain ⟨v3, vs3, rfl, r3, hS3⟩ := ra_S_cons hS2
            obtain ⟨i, rfl⟩ := ra_i1_R q.2.2 r2
            obtain ⟨a2, en2, rfl, hw2, hle2, hH2⟩ := ra_cellW hS0 hG r1 hkx
            obtain ⟨a1, en1, rfl, hw1, hle1, hH1⟩ := ra_cellW hS0 hG r3 hk
            obtain ⟨c1, f, ty1, rfl, ht1, hf⟩ := hH1
            obtain ⟨fs, rfl, -⟩ := hH2
            have e2 := ra_G_ty hG ht1 hE
            subst e2
            have hi := ra_inb_R q.2.1 r2
            have e3 := ra_cix_R hi0 r2 hi
            have hany : va_Any E s H a2 := va_rAny hK hP hw2 hr (fun comp c0 g1 g2 => by
              rcases q.1 with rfl | q1
              · have hcls := (hK.1 _ r hr).2
                cases hcls.1.symm.trans g1
                cases hcls.1.symm.trans g2
                exact va_assign hcls
              · obtain ⟨c9, t9, f1, f2, f3⟩ := hY _ q1
                cases f1.symm.trans g2
                cases f2.symm.trans g1
                exact f3)
            refine va_astqM hx hb hK hP hD hV _ _ hw1 ht1 hany hi hdg (fun H1 locs1 hP1 hD1 hV1 => kk H1 locs1 _ _ hP1 hD1 hV1 (ra_G_setW hG hle1 hw1 ?_) hS3)
            refine ⟨c1, _, _, rfl, ht1, fun j hj => ?_⟩
            unfold ra_at va_up
            rw [e3]
            split
            · next z => rw [if_pos z.symm]; exact r1
            · next z => rw [if_neg (fun y => z y.symm), ra_at_filter z]; exact hf j hj
          · cases h
        · cases h
       · cases h
      · cases h
    · cases h
  · cases h
end RA8
