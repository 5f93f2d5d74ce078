section RAC
theorem ra_S_take {ad : List Nat} : ∀ {st : List ra_V} {vs : List Value} (k : Nat), ra_S ad st vs → ra_S ad (st.take k) (vs.take k)
  | [], [], _, _ => by simp [ra_S]
  | [], _ :: _, _, h => h.elim
  | _ :: _, [], _, h => h.elim
  | _ :: _, _ :: _, 0, _ => trivial
  | _ :: _, _ :: _, k + 1, h => ⟨h.1, ra_S_take k h.2⟩
theorem ra_S_drop {ad : List Nat} : ∀ {st : List ra_V} {vs : List Value} (k : Nat), ra_S ad st vs → ra_S ad (st.drop k) (vs.drop k)
  | [], [], _, _ => by simp [ra_S]
  | [], _ :: _, _, h => h.elim
  | _ :: _, [], _, h => h.elim
  | _ :: _, _ :: _, 0, h => h
  | _ :: _, _ :: _, k + 1, h => ra_S_drop k h.2
theorem ra_S_rev {ad : List Nat} : ∀ {st : List ra_V} {vs : List Value}, ra_S ad st vs → ra_S ad st.reverse vs.reverse
  | [], [], _ => trivial
  | [], _ :: _, h => h.elim
  | _ :: _, [], h => h.elim
  | a :: st, v :: vs, h => by rw [List.reverse_cons, List.reverse_cons]; exact ra_S_app2 (ra_S_rev h.2) ⟨h.1, trivial⟩
theorem ra_sum_rev (st : List ra_V) : (st.reverse.map ra_c).sum = (st.map ra_c).sum := by
  rw [List.map_reverse, List.sum_reverse]
variable {p : Program} {l : Launch} {e : Env} {R : Room} {s : State} {m : MethodId} {args : Array Value} {below : List Frame} {meth : Method} {c : Code} {H H0 : Heap} {locs : List Loc} {cells slots mc ms : Nat} {Q : State → Prop} {pc : Nat} {ls : Array Slot} {rest st0 : List Value} {a : Array Value}
variable {D : va_G} {A0 A1 : Nat → Prop} {ad : List Nat} {tys : List (ClassId × FieldType)} {wS : va_W} {r : ra_Rs} {free : Addr → Prop}
theorem ra_callX (hr : vx_Run p l e R s m args below meth c H locs cells slots mc ms (F0 m pc ls st0) rest (ra_Qc D wS A1 ad tys r a) (ra_XC D wS A1 ad tys r) free) (hS : va_S A0 H0 H locs) (hA : ∀ q, q < H.size → A1 q → A0 q) (hf : ∀ q, free q → A0 q)
    (kx : r.1.1 = 2 → ∀ (ce : Cell) (q9 : Addr) (t : State) (H1 : Heap) (locs1 : List Loc), t.heap = H1 → s.vm.Alike t.vm → ra_U D wS A1 ad tys r (fun _ => True) t → va_S A0 H0 H1 locs1 → H1[q9]? = some ce → ce.vm = .none → s.vm.findClass r.1.2.2 = some ce.cls → vx_W p l e R s m args below meth c H1 locs1 (cells + mc) (slots + ms) Q (F0 m pc ls rest) q9)
    (kk : ∀ (v : Option Value) (t : State) (H1 : Heap) (locs1 : List Loc), t.heap = H1 → s.vm.Alike t.vm → ra_U D wS A1 ad tys r (ra_vOk r v) t → va_S A0 H0 H1 locs1 → W p l e R s m args below meth c H1 locs1 (cells + mc) (slots + ms) Q (F0 m (pc + 3) ls (v.toList ++ rest))) : W p l e R s m args below meth c H locs cells slots Q (F0 m pc ls st0) := by
  intro T hT X
  rcases hr T hT X with ⟨v, st₀, t, T', L, h0, X', hL, e1, e2, ⟨⟨v2, hv, hb⟩, hF⟩, st⟩ | ⟨q, st₀, t, T', L, E, ce, h0, X', hL, e1, e2, ⟨⟨rfl, h2, hb⟩, hF⟩, hce, hcv, hcl, st⟩
  · cases hv
    obtain ⟨k1, k2, k3⟩ := vx_keep h0 e1 hS hA hf hL hF
    obtain ⟨t2, a1, b1⟩ := kk v t T'.heap (locs ++ L) e1.symm (by rw [← e2]; exact X'.warmed.alike) hb k3 T' rfl X'
    exact ⟨t2, st t2 a1, b1⟩
  · obtain ⟨k1, k2, k3⟩ := vx_keep h0 e1 hS hA hf hL hF
    obtain ⟨t2, a1, b1⟩ := kx h2 ce q t T'.heap (locs ++ L) e1.symm (by rw [← e2]; exact X'.warmed.alike) hb k3 (by rw [e1]; exact hce) hcv hcl T' rfl X'
    exact ⟨t2, st.trans a1, b1⟩
/-- a contract of a call that doesn't throw -/
theorem ra_Met0 {y : MethodName} {ws : List Cond} {rm : Room} {Pc : Array Value → State → Prop} (h : vx_Met l y ws rm Pc (ra_Qc D wS A1 ad tys r) (ra_XC D wS A1 ad tys r) mc ms free) (h2 : ¬ r.1.1 = 2) : Met l y ws rm Pc (ra_Qc D wS A1 ad tys r) mc ms free := by
  intro p e g1 g2 g3 s m args below f1 f2 f3 f4
  obtain ⟨n, o, h3, h4, h5, h6⟩ := h p e g1 g2 g3 s m args below f1 f2 f3 f4
  refine ⟨n, o, h3, h4, h5, ?_⟩
  rcases h6 with h6 | ⟨q, -, E, ce, L, ⟨⟨-, h7, -⟩, -⟩, -⟩
  · exact h6
  · exact absurd h7 h2
theorem ra_runX (hr : va_Run p l e R s m args below meth c H locs cells slots mc ms (F0 m pc ls st0) rest (ra_Qc D wS A1 ad tys r a) free) : vx_Run p l e R s m args below meth c H locs cells slots mc ms (F0 m pc ls st0) rest (ra_Qc D wS A1 ad tys r a) (ra_XC D wS A1 ad tys r) free := fun T hT X => Or.inl (hr T hT X)
theorem ra_blind {Zf : (Nat → Prop) → State → Heap → Prop} (hZ : ra_Zok Zf) {vs : List Value} {ws : va_W} {sz : Nat} : FrameBlind (ra_Pc D wS Zf vs ws tys sz) := by
  intro a U g mk h
  obtain ⟨h0, h1, h2, h3, h4, h5, h6⟩ := h
  exact ⟨h0, h1, h2, va_K.moved (u := U) (U := U.calling g mk a) (Vm.Alike.refl U.vm) h3, h4, hZ _ _ U (U.calling g mk a) U.heap U.heap h5 (Vm.Alike.refl U.vm) (fun _ _ _ => rfl) (fun _ h => h), fun k q hq => (h6.1 k q hq).moved (u := U) (U := U.calling g mk a) (Vm.Alike.refl U.vm), h6.2.1, h6.2.2.1, ra_Sx_same (s := U) rfl h6.2.2.2⟩
end RAC
