section RTS
set_option maxRecDepth 100000
/-- a text's letters, as a term -/
def rt_tV (t : Term) : Term := .field t "java/lang/String" "value" "[B"
def rt_txe (t : Term) : Nat → List Int32 → List Cond
  | _, [] => []
  | j, x :: bs => .eq (.elem (rt_tV t) (.int (Int32.ofNat j))) (.int x) :: rt_txe t (j + 1) bs
/-- the words that say a text -/
def rt_txw (t : Term) (bs : List Int32) : List Cond := .exactly t "java/lang/String" :: .eq (.field t "java/lang/String" "coder" "B") (.int 0) :: .arrayOf (rt_tV t) .byte :: .eq (.length (rt_tV t)) (.int (Int32.ofNat bs.length)) :: rt_txe t 0 bs
theorem rt_txe_in {t : Term} : ∀ {bs : List Int32} {j0 j : Nat}, j < bs.length → Cond.eq (.elem (rt_tV t) (.int (Int32.ofNat (j0 + j)))) (.int (bs.getD j 0)) ∈ rt_txe t j0 bs
  | [], _, _, h => absurd h (Nat.not_lt_zero _)
  | x :: bs, j0, 0, _ => List.mem_cons_self
  | x :: bs, j0, j + 1, h => by
    have h1 := rt_txe_in (t := t) (bs := bs) (j0 := j0 + 1) (j := j) (Nat.lt_of_succ_lt_succ h)
    rw [show j0 + 1 + j = j0 + (j + 1) by omega] at h1
    exact List.mem_cons_of_mem _ h1
/-- what stands at the start where a text's object is, and its letters -/
def rt_Tq (args : Array Value) (s : State) (t : Term) (bs : List Int32) (q : Nat × Nat) : Prop := t.eval args s none [] s = some (.ref q.1) ∧ va_O "java/lang/String" q.1 (fun z => s.heap.size ≤ z) s s.heap ∧ va_OF "java/lang/String" "coder" "B" (.int 0) q.1 (fun z => s.heap.size ≤ z) s s.heap ∧ va_OF "java/lang/String" "value" "[B" (.ref q.2) q.1 (fun z => s.heap.size ≤ z) s s.heap ∧ va_T .byte q.2 bs.length (fun j => .int (bs.getD j 0)) (fun z => s.heap.size ≤ z) s s.heap
theorem rt_tx {args : Array Value} {s : State} (t : Term) (bs : List Int32) (hlen : bs.length < 2 ^ 31) (h : ∀ w ∈ rt_txw t bs, w.before args s = true) : ∃ q : Nat × Nat, rt_Tq args s t bs q := by
  have w0 := h _ List.mem_cons_self
  have w1 := h _ (List.mem_cons_of_mem _ List.mem_cons_self)
  have w2 := h _ (List.mem_cons_of_mem _ (List.mem_cons_of_mem _ List.mem_cons_self))
  have w3 := h _ (List.mem_cons_of_mem _ (List.mem_cons_of_mem _ (List.mem_cons_of_mem _ List.mem_cons_self)))
  have w4 : ∀ j : Nat, j < bs.length → (Cond.eq (.elem (rt_tV t) (.int (Int32.ofNat j))) (.int (bs.getD j 0))).before args s = true := fun j hj => by
    have h9 := rt_txe_in (t := t) (bs := bs) (j0 := 0) (j := j) hj
    rw [Nat.zero_add] at h9
    exact h _ (List.mem_cons_of_mem _ (List.mem_cons_of_mem _ (List.mem_cons_of_mem _ (List.mem_cons_of_mem _ h9))))
  have e0 : ∀ i : Nat, i < 1 → i = 0 := fun i hi => by omega
  obtain ⟨adK, adV, h1, h2⟩ := vk_Sof (args := args) (s := s) (N := 1) (tm := fun _ => t) (len := [bs.length]) (byt := [bs]) (A := fun z => s.heap.size ≤ z)
    (fun i hi => by rw [e0 i hi]; exact hlen) (fun _ _ => w0) (fun _ _ => w1) (fun _ _ => w2) (fun i hi => by rw [e0 i hi]; exact w3) (fun i hi j hj => by rw [e0 i hi] at hj ⊢; exact w4 j hj)
    (fun i j hi hj hij => absurd (show i = j by omega) hij) (fun a h => Nat.not_le.mpr h)
  obtain ⟨g1, g2, g3, g4⟩ := h1.1 0 (by omega)
  exact ⟨(adK 0, adV 0), h2 0 (by omega), g1, g2, g3, g4⟩
/-- the classes of rows -/
theorem rt_cP {args : Array Value} {s : State} {t : FieldType} (h : (Cond.arrayClass t).before args s = true) : ∃ cA : ClassId, ArrOfT s cA t ∧ s.vm.findClass ("[" ++ t.toString) = some cA := by
  obtain ⟨c, k, comp, h1, h2, h3⟩ := Cond.arrayClass_spec h
  exact ⟨c, fun n z => ⟨(fun q hq => by cases hq), k, h2, comp, h3⟩, h1⟩
theorem rt_cO {args : Array Value} {s : State} {C : String} (h : (Cond.arrayOver (.object C)).before args s = true) : ∃ cA : ClassId, ArrOfT s cA (.object C) ∧ va_RA s cA (.object C) := by
  obtain ⟨comp, c, k, h1, h2, h3, h4, h5⟩ := Cond.arrayOver_spec h
  exact ⟨c, fun n z => ⟨(fun q hq => by cases hq), k, h3, comp, h4⟩, k, comp, h3, h4, h1, h5⟩
/-- cells that are only read -/
theorem rt_qV {D : va_G} {cl : List vw_C} {s : State} {A : Nat → Prop} {a n : Nat} {cB : ClassId} {ty : FieldType} {f : Nat → Int32} (hT : va_T ty a n (fun j => .int (f j)) A s s.heap) (hA : ArrOfT s cB ty) : ra_qt D cl s (a, .inl (cB, n, .inl f)) s.heap := by
  obtain ⟨cell, h1, h2, h3, h4, h5, h6, h7⟩ := hT
  refine ⟨cell, ty, h1, hA, h2, h3, h4, h5, fun j hj => ?_⟩
  rw [h6 j hj]
  exact (arrV_read cB (fun j => Value.int (f j)) hj).symm
theorem rt_qR {D : va_G} {cl : List vw_C} {s : State} {A : Nat → Prop} {a n : Nat} {cB : ClassId} {ty : FieldType} {f : Nat → Option Nat} (hT : va_T ty a n (fun j => va_rf (f j)) A s s.heap) (hA : ArrOfT s cB ty) : ra_qt D cl s (a, .inl (cB, n, .inr (.inr (.inr (.inr f))))) s.heap := by
  obtain ⟨cell, h1, h2, h3, h4, h5, h6, h7⟩ := hT
  refine ⟨cell, ty, h1, hA, h2, h3, h4, h5, fun j hj => ?_⟩
  rw [h6 j hj]
  exact (arrV_read cB (fun j => va_rf (f j)) hj).symm
theorem rt_qS {D : va_G} {s : State} {A : Nat → Prop} {aK aV : Nat} (hO : va_O "java/lang/String" aK A s s.heap) (hC : va_OF "java/lang/String" "coder" "B" (.int 0) aK A s s.heap) (hV : va_OF "java/lang/String" "value" "[B" (.ref aV) aK A s s.heap) (hK : ∀ (c : Nat) (q : vw_C), vwCl[c]? = some q → u_Kn s q.1 q.2.1 q.2.2 (D.1 c) (D.2 c)) : ra_qt D vwCl s (aK, .inr (0, [.ref aV, .int 0])) s.heap := by
  obtain ⟨cell, h1, h2, h3, h4⟩ := hO
  obtain ⟨cf, k, i, f, cell1, g1, g2, g3, g4, g5, g6⟩ := hV
  obtain ⟨cf2, k2, i2, f2, cell2, e1, e2, e3, e4, e5, e6⟩ := hC
  have x1 : cell1 = cell := Option.some.inj (g3.symm.trans h1)
  have x2 : cell2 = cell := Option.some.inj (e3.symm.trans h1)
  subst x1
  subst x2
  have hs := (hK 0 _ rfl).1
  obtain ⟨_, _, _, fa, hia, ea⟩ := hs 0 (by decide)
  obtain ⟨_, _, _, fb, hib, eb⟩ := hs 1 (by decide)
  have y1 := Option.some.inj (hia.symm.trans g1)
  have y2 := Option.some.inj (hib.symm.trans e1)
  have z1 : fa = f := congrArg (fun q => q.2.2.2) y1
  have z2 : fb = f2 := congrArg (fun q => q.2.2.2) y2
  subst z1
  subst z2
  refine ⟨(RJ0, TJ0, 2), _, rfl, h1, h3, g4, h2, fun j hj => ?_⟩
  match j, hj with
  | 0, _ =>
    show _[D.2 0 0]? = _
    rw [← ea]
    exact g5
  | 1, _ =>
    show _[D.2 0 1]? = _
    rw [← eb]
    exact e5
/-- the texts' cells, of the walk and of the machine -/
def rt_ex : Nat → List Int32 → List (Nat × ra_V)
  | _, [] => []
  | j, x :: bs => (j, ra_k x) :: rt_ex (j + 1) bs
theorem rt_ex_at {d : ra_V} : ∀ {bs : List Int32} {j0 j : Nat}, j < bs.length → ra_at d (rt_ex j0 bs) (j0 + j) = ra_k (bs.getD j 0)
  | [], _, _, h => absurd h (Nat.not_lt_zero _)
  | x :: bs, j0, 0, _ => by
    unfold rt_ex ra_at
    rw [if_pos (by omega)]
    all_goals rfl
  | x :: bs, j0, j + 1, h => by
    unfold rt_ex ra_at
    rw [if_neg (by omega), show j0 + (j + 1) = j0 + 1 + j by omega, rt_ex_at (Nat.lt_of_succ_lt_succ h)]
    all_goals rfl
def rt_wx : Nat → Nat → List (Nat × ra_V)
  | _, 0 => []
  | i, n + 1 => (i, (3, ((5 + 2 * i : Nat) : Int), 0)) :: rt_wx (i + 1) n
theorem rt_wx_at {d : ra_V} : ∀ {n i j : Nat}, i ≤ j → j < i + n → ra_at d (rt_wx i n) j = (3, ((5 + 2 * j : Nat) : Int), 0)
  | 0, i, j, h1, h2 => by omega
  | n + 1, i, j, h1, h2 => by
    unfold rt_wx ra_at
    split
    · next e => subst e; rfl
    · next e => exact rt_wx_at (by omega) (by omega)
def rt_As : Nat → List (String × Nat × List Int32) → List ra_E
  | _, [] => []
  | i, q :: L => (0, 0, 0, (0, 0, 0), [], [(3, ((4 + 2 * i : Nat) : Int), 0), ra_k 0]) :: (1, 1, q.2.2.length, ra_k 0, rt_ex 0 q.2.2, []) :: rt_As (i + 1) L
def rt_Wx (aK aV : Nat → Nat) (cB : ClassId) : Nat → List (String × Nat × List Int32) → va_W
  | _, [] => []
  | i, q :: L => (aK i, .inr (0, [.ref (aV i), .int 0])) :: (aV i, .inl (cB, q.2.2.length, .inl (fun j => q.2.2.getD j 0))) :: rt_Wx aK aV cB (i + 1) L
theorem rt_Wx_len {aK aV : Nat → Nat} {cB : ClassId} : ∀ (L : List (String × Nat × List Int32)) (i : Nat), (rt_Wx aK aV cB i L).length = 2 * L.length
  | [], _ => rfl
  | q :: L, i => by
    unfold rt_Wx
    rw [List.length_cons, List.length_cons, rt_Wx_len L (i + 1), List.length_cons]
    omega
theorem rt_Wx_ad {aK aV : Nat → Nat} {cB : ClassId} : ∀ (L : List (String × Nat × List Int32)) (i j : Nat), j < L.length → ((rt_Wx aK aV cB i L).map (fun q => q.1))[2 * j]? = some (aK (i + j)) ∧ ((rt_Wx aK aV cB i L).map (fun q => q.1))[2 * j + 1]? = some (aV (i + j))
  | [], _, _, h => absurd h (Nat.not_lt_zero _)
  | q :: L, i, 0, _ => ⟨rfl, rfl⟩
  | q :: L, i, j + 1, h => by
    have h1 := rt_Wx_ad (aK := aK) (aV := aV) (cB := cB) L (i + 1) j (Nat.lt_of_succ_lt_succ h)
    rw [show i + 1 + j = i + (j + 1) by omega] at h1
    have e : (rt_Wx aK aV cB i (q :: L)).map (fun q => q.1) = aK i :: aV i :: (rt_Wx aK aV cB (i + 1) L).map (fun q => q.1) := rfl
    rw [e, show 2 * (j + 1) = 2 * j + 1 + 1 by omega]
    exact ⟨by rw [List.getElem?_cons_succ, List.getElem?_cons_succ]; exact h1.1, by rw [List.getElem?_cons_succ, List.getElem?_cons_succ]; exact h1.2⟩
theorem rt_Wx_all {aK aV : Nat → Nat} {cB : ClassId} {P : Nat × va_E → Prop} : ∀ (L : List (String × Nat × List Int32)) (i : Nat), (∀ (j : Nat) (q : String × Nat × List Int32), L[j]? = some q → P (aK (i + j), .inr (0, [.ref (aV (i + j)), .int 0])) ∧ P (aV (i + j), .inl (cB, q.2.2.length, .inl (fun k => q.2.2.getD k 0)))) → ∀ z ∈ rt_Wx aK aV cB i L, P z
  | [], _, _, z, hz => absurd (show z ∈ ([] : va_W) from hz) List.not_mem_nil
  | q :: L, i, h, z, hz => by
    unfold rt_Wx at hz
    rcases List.mem_cons.mp hz with rfl | hz
    · exact (h 0 q rfl).1
    · rcases List.mem_cons.mp hz with rfl | hz
      · exact (h 0 q rfl).2
      · refine rt_Wx_all L (i + 1) (fun j q2 hq => ?_) z hz
        rw [show i + 1 + j = i + (j + 1) by omega]
        exact h (j + 1) q2 hq
theorem rt_Ws_ok {aK aV : Nat → Nat} {cB : ClassId} {ad : List Nat} {tys : List (ClassId × FieldType)} (ht : tys[1]? = some (cB, .byte)) : ∀ (L : List (String × Nat × List Int32)) (i : Nat), (∀ j, j < L.length → ad[4 + 2 * (i + j)]? = some (aV (i + j))) → (∀ q ∈ L, ∀ x ∈ q.2.2, fits .byte (.int x) = true) → ra_Ws ad tys (rt_As i L) (rt_Wx aK aV cB i L)
  | [], _, _, _ => trivial
  | q :: L, i, h, hf => by
    have h1 := h 0 (Nat.zero_lt_succ _)
    rw [Nat.add_zero] at h1
    refine ⟨⟨[.ref (aV i), .int 0], rfl, ⟨aV i, h1, rfl⟩, ra_R_k 0, trivial⟩, ⟨cB, fun j => q.2.2.getD j 0, .byte, rfl, ht, fun _ j hj => ?_, fun j hj => ?_⟩, rt_Ws_ok ht L (i + 1) (fun j hj => ?_) (fun q2 hq => hf q2 (List.mem_cons_of_mem _ hq))⟩
    · have e : q.2.2.getD j 0 = q.2.2[j] := by first | exact List.getD_eq_getElem _ _ hj | simp [List.getD, hj]
      show fits .byte (.int (q.2.2.getD j 0)) = true
      rw [e]
      exact hf q List.mem_cons_self _ (List.getElem_mem hj)
    · have e := rt_ex_at (d := ra_k 0) (j0 := 0) hj
      rw [Nat.zero_add] at e
      rw [e]
      exact ra_R_k _
    · have h2 := h (j + 1) (Nat.succ_lt_succ hj)
      rw [show i + (j + 1) = i + 1 + j by omega] at h2
      exact h2
end RTS
