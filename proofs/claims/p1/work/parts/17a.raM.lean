section RAM
variable {p : Program} {l : Launch} {e : Env} {R : Room} {s : State} {m : MethodId} {args : Array Value} {below : List Frame} {meth : Method} {c : Code} {H H0 : Heap} {locs : List Loc} {cells slots : Nat} {Q : State → Prop} {cc : ByteArray} {pc : Nat} {ls : Array Slot}
variable {D : va_G} {A : Nat → Prop} {ah : List ra_E} {ta : List FieldType} {ad : List Nat} {tys : List (ClassId × FieldType)} {wS ws : va_W}
/-- several new cells at once -/
theorem ra_Ws_app2 {ad : List Nat} {tys : List (ClassId × FieldType)} : ∀ {ah an : List ra_E} {ws wn : va_W}, ra_Ws ad tys ah ws → ra_Ws ad tys an wn → ra_Ws ad tys (ah ++ an) (ws ++ wn)
  | [], _, [], _, _, h => h
  | [], _, _ :: _, _, hW, _ => hW.elim
  | _ :: _, _, [], _, hW, _ => hW.elim
  | _ :: _, _, _ :: _, _, hW, h => ⟨hW.1, ra_Ws_app2 hW.2 h⟩
theorem ra_G_more (h : ra_G ah ta ad tys (wS ++ ws)) {an : List ra_E} {wn : va_W} (ty : List (ClassId × FieldType)) (h2 : ra_Ws (ad ++ wn.map (fun q => q.1)) (tys ++ ty) an wn) : ra_G (ah ++ an) (ta ++ ty.map (fun q => q.2)) (ad ++ wn.map (fun q => q.1)) (tys ++ ty) (wS ++ (ws ++ wn)) := by
  refine ⟨?_, by rw [List.map_append, h.2.1], ?_⟩
  · rw [← List.append_assoc, List.map_append, h.1]
  · rw [← List.append_assoc]
    exact ra_Ws_app2 (ra_Ws_more h.2.2) h2
def ra_mex (b : Nat) : Nat → Nat → List (Nat × ra_V)
  | _, 0 => []
  | i, n + 1 => (i, (3, ((b + i : Nat) : Int), 0)) :: ra_mex b (i + 1) n
theorem ra_at_mex {d : ra_V} {b : Nat} : ∀ {n i j : Nat}, i ≤ j → j < i + n → ra_at d (ra_mex b i n) j = (3, ((b + j : Nat) : Int), 0)
  | 0, i, j, h1, h2 => by omega
  | n + 1, i, j, h1, h2 => by
    unfold ra_mex ra_at
    split
    · next e => subst e; rfl
    · next e => exact ra_at_mex (by omega) (by omega)
theorem ra_Ws_rep {ad : List Nat} {tys : List (ClassId × FieldType)} {e1 : ra_E} {x : va_E} (h : ra_H ad tys e1 x) : ∀ (L : List Nat), ra_Ws ad tys (L.map (fun _ => e1)) (L.map (fun a => (a, x)))
  | [] => trivial
  | _ :: L => ⟨h, ra_Ws_rep h L⟩
theorem ra_mna_W {x : Cond} {own : String} {index t1 : Nat} {n k : Int32} {N' K' : Nat} {st : List ra_V} {vs : List Value} (hx : p.tables.exec = Jvm.exec) (hb : c.code = cc) (hts : ∀ w ∈ re_ws x, w.before args s = true) (hown : s.vm.findClass own = some m.cls) (hK : va_K D vwCl tys s) (hP : va_P D vwCl ws H) (hD : va_D A ws) (hV : va_S A H0 H locs) (hA : ∀ q, H0.size ≤ q → A q) (hG : ra_G ah ta ad tys (wS ++ ws)) (hS : ra_S ad st vs)
    (h1 : Cond.classLink own index ("[" ++ (FieldType.array .int).toString) ∈ re_tbl) (h2 : ra_Ao (.array .int) s) (h3 : Cond.arrayClass .int ∈ re_tbl) (ht : ta[t1]? = some .int) (hn : ¬ n < 0) (hk : ¬ k < 0) (hN : n.toNatClampNeg = N') (hKk : k.toNatClampNeg = K') (hb1 : N' ≤ 1000000) (hb2 : K' ≤ 1000000) (hc1 : cells + (1 + N') ≤ R.cells) (hc2 : slots + (N' + N' * K') ≤ R.slots) (hdg : decode cc pc = .ok (.multianewarray index 2, 4))
    (kk : ∀ (z : List Nat) (cA : ClassId) (H1 : Heap) (locs1 : List Loc) (ws' : va_W) (vs' : List Value), va_K D vwCl (tys ++ [(cA, .array .int)]) s → va_P D vwCl ws' H1 → va_D A ws' → va_S A H0 H1 locs1 → ra_G (ah ++ ((3, ta.length, N', (4, 0, 0), ra_mex (ah.length + 1) 0 N', []) :: (List.range N').map (fun _ => (1, t1, K', ra_k 0, [], [])))) (ta ++ [.array .int]) (ad ++ z) (tys ++ [(cA, .array .int)]) (wS ++ ws') → ra_S (ad ++ z) ((3, (ah.length : Int), 0) :: st) vs' → W p l e R s m args below meth c H1 locs1 (cells + (1 + N')) (slots + (N' + N' * K')) Q (F0 m (pc + 4) ls vs')) : W p l e R s m args below meth c H locs cells slots Q (F0 m pc ls (.int k :: .int n :: vs)) := by
  obtain ⟨cy, hcy⟩ : ∃ cy : ClassId, tys[t1]? = some (cy, .int) := by
    rw [← hG.2.1, List.getElem?_map] at ht
    obtain ⟨⟨cy, t⟩, h9, h8⟩ := Option.map_eq_some_iff.mp ht
    exact ⟨cy, by rw [h9]; cases h8; rfl⟩
  have hfc : s.vm.findClass (FieldType.array .int).toString = some cy := (hK.2 t1 _ hcy).2
  refine va_mna (X := ws) (L := []) (f := fun _ => .inl (cy, (0, .inl (fun _ => 0)))) (ty := .int) (cy := cy) (z := (K', .inl (fun _ => 0))) hx hb hown (re_hts h1 hts) h2 (re_hts h3 hts) hfc hK (by show va_P D vwCl (ws ++ []) H; rw [List.append_nil]; exact hP) (by show va_D A (ws ++ []); rw [List.append_nil]; exact hD) hV hA hn hk hN hKk (by omega) (by show K' * 4 ≤ _; omega) (by omega) rfl rfl hc1 hc2 (fun c => by show ({ cls := c, slots := Array.replicate K' (defaultValue .int), vm := .none } : Cell) = _; rw [arrV_new]; rfl) hdg (fun q r cA H1 hinj hnot hK1 hP1 hD1 hV1 => ?_)
  have eW : ∀ (g : Nat → Option Nat), (ws ++ [((q, .inl (cA, N', .inr (.inr (.inr (.inr g))))) : Nat × va_E)]) ++ va_pl ([] ++ (List.range N').map r) (vr_up (fun _ => .inl (cy, (0, .inl (fun _ => 0)))) ((List.range N').map r) (.inl (cy, (K', .inl (fun _ => 0))))) = ws ++ ((q, .inl (cA, N', .inr (.inr (.inr (.inr g))))) :: ((List.range N').map r).map (fun a => (a, .inl (cy, (K', .inl (fun _ => 0)))))) := by
    intro g
    rw [List.append_assoc, List.singleton_append, List.nil_append]
    congr 2
    unfold va_pl
    apply List.map_congr_left
    intro a ha
    rw [vr_up_in ha]
  rw [eW] at hP1 hD1
  have hS1 : ra_S (ad ++ (q :: (List.range N').map r)) ((3, (ah.length : Int), 0) :: st) (.ref q :: vs) := by
    refine ⟨⟨q, ?_, rfl⟩, ra_S_app hS⟩
    rw [ra_G_len hG]
    simp
  have hG1 := ra_G_more hG (an := (3, ta.length, N', (4, 0, 0), ra_mex (ah.length + 1) 0 N', []) :: (List.range N').map (fun _ => (1, t1, K', ra_k 0, [], []))) (wn := (q, .inl (cA, N', .inr (.inr (.inr (.inr (fun i => if i < N' then some (r i) else none)))))) :: ((List.range N').map r).map (fun a => (a, .inl (cy, (K', .inl (fun _ => 0)))))) [(cA, .array .int)] ?_
  · have e0 : ∀ (L : List Nat) (x : va_E), (L.map (fun a => (a, x))).map (fun q => q.1) = L := by
      intro L x
      rw [List.map_map]
      exact List.map_id _
    simp only [List.map_cons, e0, List.map_nil] at hG1
    have r1 : cells + 1 + N' = cells + (1 + N') := by omega
    have r2 : slots + N' + N' * K' = slots + (N' + N' * K') := by omega
    rw [r1, r2]
    exact kk _ cA H1 locs _ _ hK1 hP1 hD1 hV1 hG1 hS1
  · refine ⟨⟨cA, _, .array .int, rfl, by rw [ra_G_nt hG]; simp, fun j hj => ?_⟩, ?_⟩
    · rw [ra_at_mex (Nat.zero_le _) (by omega), if_pos hj]
      refine ⟨r j, ?_, rfl⟩
      rw [ra_G_len hG]
      have e9 : ((ad.length + 1 + j : Nat) : Int).toNat = ad.length + (j + 1) := by omega
      rw [e9, List.getElem?_append_right (by omega), Nat.add_sub_cancel_left]
      simp [hj]
    · have e8 : (List.range N').map (fun _ => ((1, t1, K', ra_k 0, [], []) : ra_E)) = ((List.range N').map r).map (fun _ => (1, t1, K', ra_k 0, [], [])) := by rw [List.map_map]; rfl
      rw [e8]
      refine ra_Ws_rep (e1 := (1, t1, K', ra_k 0, [], [])) (x := .inl (cy, (K', .inl (fun _ => 0)))) ?_ _
      exact ⟨cy, fun _ => 0, .int, rfl, ra_gl hcy, fun z => (by cases z), fun j _ => ra_R_k 0⟩
/-- new rows of rows, all null -/
theorem ra_newr_W {x : Cond} {own : String} {ty : FieldType} {index : Nat} {n : Int32} {N' : Nat} {st : List ra_V} {vs : List Value} (hx : p.tables.exec = Jvm.exec) (hb : c.code = cc) (hts : ∀ w ∈ re_ws x, w.before args s = true) (hown : s.vm.findClass own = some m.cls) (hK : va_K D vwCl tys s) (hP : va_P D vwCl ws H) (hD : va_D A ws) (hV : va_S A H0 H locs) (hA : ∀ q, H0.size ≤ q → A q) (hG : ra_G ah ta ad tys (wS ++ ws)) (hS : ra_S ad st vs)
    (h1 : Cond.classLink own index (FieldType.array ty).toString ∈ re_tbl) (h2 : ra_Ao (.array ty) s) (hn : ¬ n < 0) (hN : n.toNatClampNeg = N') (hbytes : N' * 4 ≤ 536870912) (hc1 : cells + 1 ≤ R.cells) (hc2 : slots + N' ≤ R.slots) (hdg : decode cc pc = .ok (.anewarray index, 3))
    (kk : ∀ (q : Nat) (cA : ClassId) (H1 : Heap) (ws' : va_W) (vs' : List Value), va_K D vwCl (tys ++ [(cA, .array ty)]) s → va_P D vwCl ws' H1 → va_D A ws' → va_S A H0 H1 locs → ra_G (ah ++ [(3, ta.length, N', (4, 0, 0), [], [])]) (ta ++ [.array ty]) (ad ++ [q]) (tys ++ [(cA, .array ty)]) (wS ++ ws') → ra_S (ad ++ [q]) ((3, (ah.length : Int), 0) :: st) vs' → W p l e R s m args below meth c H1 locs (cells + 1) (slots + N') Q (F0 m (pc + 3) ls vs')) : W p l e R s m args below meth c H locs cells slots Q (F0 m pc ls (.int n :: vs)) := by
  subst hN
  refine W.anewA (t := ty) hx hb hown (re_hts h1 hts) (ra_Ao.use h2) rfl hdg rfl hn hbytes hc1 hc2 fun cA kA comp f1 f2 f3 f4 => ?_
  have hk : ∀ (k : Nat) (x : Nat × va_E), ws[k]? = some x → (H.push ({ cls := cA, slots := Array.replicate n.toNatClampNeg .null, vm := .none } : Cell))[x.1]? = H[x.1]? := fun k x hx => by
    rw [Array.getElem?_push, if_neg (Nat.ne_of_lt ((hP k x hx).lt))]
  have hAr : ArrOfT s cA (.array ty) := fun N z => ⟨(fun k h => by cases h), kA, f2, comp, f3⟩
  have hG1 := ra_G_newW hG (q := H.size) (en := .inl (cA, n.toNatClampNeg, .inr (.inr (.inr (.inr (fun _ => none)))))) (e := (3, ta.length, n.toNatClampNeg, (4, 0, 0), [], [])) [(cA, .array ty)] ⟨cA, _, .array ty, rfl, by rw [ra_G_nt hG]; simp, fun j _ => rfl⟩
  refine kk H.size cA _ _ _ ⟨hK.1, fun k x hx => ?_⟩ ((hP.kept hk).app (fun k x hx => ?_)) (hD.push hP rfl (hA _ hV.1)) ⟨Nat.le_trans hV.1 (by rw [Array.size_push]; omega), fun x g1 g2 => ?_, hV.2.2⟩ hG1 ⟨?_, ra_S_app hS⟩
  · by_cases hl : k < tys.length
    · rw [List.getElem?_append_left hl] at hx
      exact hK.2 k x hx
    · rw [List.getElem?_append_right (by omega)] at hx
      have hz : k - tys.length < 1 := (List.getElem?_eq_some_iff.mp hx).1
      rw [show k - tys.length = 0 by omega] at hx
      cases hx
      exact ⟨hAr, f1⟩
  · have hz : k < 1 := (List.getElem?_eq_some_iff.mp hx).1
    rw [show k = 0 by omega] at hx
    cases hx
    show (H.push _)[H.size]? = some (vp_cell _ _)
    rw [vp_cell_q, Array.getElem?_push_size]
    exact congrArg some (arrV_new cA n.toNatClampNeg .null)
  · rw [Array.getElem?_push, if_neg (Nat.ne_of_lt (Nat.lt_of_lt_of_le g1 hV.1))]
    exact hV.2.1 x g1 g2
  · rw [ra_G_len hG]
    exact ra_new_R ad H.size 0
end RAM
