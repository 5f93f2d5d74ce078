section RAA
variable {p : Program} {l : Launch} {e : Env} {R : Room} {s : State} {m : MethodId} {args : Array Value} {below : List Frame} {meth : Method} {c : Code} {H H0 : Heap} {locs : List Loc} {Q : State → Prop} {pc : Nat} {ls : Array Slot}
variable {D : va_G} {A : Nat → Prop} {ah : List ra_E} {ta : List FieldType} {ad : List Nat} {tys : List (ClassId × FieldType)} {wS ws : va_W}
abbrev ra_T : Type := Nat × List (Nat × ra_V) × List ra_V × List ra_E × List FieldType × ra_A
def ra_le (a b : ra_A) : Prop := a.1 ≤ b.1 ∧ a.2.1 ≤ b.2.1 ∧ a.2.2.1 ≤ b.2.2.1 ∧ a.2.2.2 ≤ b.2.2.2
theorem ra_le_r (a : ra_A) : ra_le a a := ⟨Nat.le_refl _, Nat.le_refl _, Nat.le_refl _, Nat.le_refl _⟩
theorem ra_le_t {a b c : ra_A} (h : ra_le a b) (h2 : ra_le b c) : ra_le a c := ⟨Nat.le_trans h.1 h2.1, Nat.le_trans h.2.1 h2.2.1, Nat.le_trans h.2.2.1 h2.2.2.1, Nat.le_trans h.2.2.2 h2.2.2.2⟩
theorem ra_le_f {a b : ra_A} {R : Room} (h : ra_le a b) (h2 : ra_fits b R) : ra_fits a R := ⟨Nat.le_trans h.1 h2.1, Nat.le_trans h.2.1 h2.2.1, Nat.le_trans h.2.2.1 h2.2.2.1, Nat.le_trans h.2.2.2 h2.2.2.2⟩
def ra_pre (cd : ra_Cd) (M : ra_Mt) (pc : Nat) (al : List (Nat × ra_V)) (st : List ra_V) (ah : List ra_E) (ta : List FieldType) (a : ra_A) (ig : Instr) (len : Nat) : Option ra_T :=
  match ra_push al ig len with
  | some v => some (pc + len, al, v :: st, ah, ta, a)
  | none => match ra_st ig len st with
    | some st' => some (pc + len, al, st', ah, ta, a)
    | none => match ra_sto (ra_Mn M) al ig len st with
      | some (al', st') => some (pc + len, al', st', ah, ta, a)
      | none => match ra_br pc ig len st with
        | some (pc', st') => some (pc', al, st', ah, ta, a)
        | none => match ra_ald ah ta ig len st with
          | some st' => some (pc + len, al, st', ah, ta, a)
          | none => match ra_ast ah ta ig len st with
            | some (ah', st') => some (pc + len, al, st', ah', ta, a)
            | none => match ra_0s cd M pc st ah ta a ig len with
              | some (pc', st', ah', ta', a') => some (pc', al, st', ah', ta', a')
              | none => none
theorem ra_0s_le {cd : ra_Cd} {M : ra_Mt} {pc : Nat} {st : List ra_V} {a : ra_A} {ig : Instr} {len : Nat} {r : Nat × List ra_V × List ra_E × List FieldType × ra_A} (h : ra_0s cd M pc st ah ta a ig len = some r) : ra_le a r.2.2.2.2 := by
  unfold ra_0s at h
  split at h
  · unfold ra_xg at h; split at h
    · obtain ⟨st1, -, rfl⟩ := ra_xs_i h; exact ra_le_r a
    · cases h
  · unfold ra_xp at h; split at h
    · split at h
      · split at h
        · obtain ⟨ah1, st1, -, rfl⟩ := ra_xh_i h; exact ra_le_r a
        · cases h
      · cases h
    · cases h
  · unfold ra_xn at h; split at h
    · split at h
      · cases h; exact ⟨Nat.le_succ _, Nat.le_add_right _ _, Nat.le_refl _, Nat.le_refl _⟩
      · cases h
    · cases h
  · unfold ra_xa at h; split at h
    · split at h
      · cases h; exact ⟨Nat.le_succ _, Nat.le_add_right _ _, Nat.le_refl _, Nat.le_refl _⟩
      · cases h
    · cases h
  · unfold ra_xq at h; split at h
    · split at h
      · split at h
        · cases h; exact ⟨Nat.le_succ _, Nat.le_add_right _ _, Nat.le_refl _, Nat.le_refl _⟩
        · cases h
      · cases h; exact ⟨Nat.le_succ _, Nat.le_add_right _ _, Nat.le_refl _, Nat.le_refl _⟩
      · cases h; exact ⟨Nat.le_succ _, Nat.le_add_right _ _, Nat.le_refl _, Nat.le_refl _⟩
      · cases h
    · cases h
  · unfold ra_xm at h; split at h
    · split at h
      · split at h
        · cases h; exact ⟨Nat.le_add_right _ _, Nat.le_add_right _ _, Nat.le_refl _, Nat.le_refl _⟩
        · cases h
      · cases h
    · cases h
  · obtain ⟨ah1, st1, -, rfl⟩ := ra_xh_i h; exact ra_le_r a
  · unfold ra_xL at h; split at h
    · next q =>
      cases h
      unfold ra_xk at q
      split at q
      · cases q; exact ra_le_r a
      · cases q
    · unfold ra_xl at h; split at h
      · split at h
        · cases h; exact ra_le_r a
        · cases h
      · cases h
  · unfold ra_xG at h; split at h
    · split at h
      · split at h
        · cases h; exact ra_le_r a
        · cases h
      · cases h
    · cases h
  · unfold ra_xK at h; split at h
    · cases h; exact ra_le_r a
    · cases h
  · unfold ra_xi at h; split at h
    · split at h
      · cases h; exact ⟨Nat.le_refl _, Nat.le_refl _, Nat.le_max_left _ _, Nat.le_max_left _ _⟩
      · cases h
    · cases h
  · unfold ra_xc at h; split at h
    · split at h
      · cases h; exact ⟨Nat.le_refl _, Nat.le_refl _, Nat.le_max_left _ _, Nat.le_max_left _ _⟩
      · cases h
    · cases h
  · cases h
theorem ra_pre_le {cd : ra_Cd} {M : ra_Mt} {pc : Nat} {al : List (Nat × ra_V)} {st : List ra_V} {a : ra_A} {ig : Instr} {len : Nat} {r : ra_T} (h : ra_pre cd M pc al st ah ta a ig len = some r) : ra_le a r.2.2.2.2.2 := by
  unfold ra_pre at h
  split at h
  · cases h; exact ra_le_r a
  · split at h
    · cases h; exact ra_le_r a
    · split at h
      · cases h; exact ra_le_r a
      · split at h
        · cases h; exact ra_le_r a
        · split at h
          · cases h; exact ra_le_r a
          · split at h
            · cases h; exact ra_le_r a
            · split at h
              · next q => cases h; exact ra_0s_le q
              · cases h
/-- where the walk goes on, with locals -/
def ra_Kt (p : Program) (l : Launch) (e : Env) (R : Room) (s : State) (m : MethodId) (args : Array Value) (below : List Frame) (meth : Method) (c : Code) (H0 : Heap) (Q : State → Prop) (nL : Nat) (D : va_G) (A : Nat → Prop) (ad : List Nat) (tys : List (ClassId × FieldType)) (wS : va_W) (r : ra_T) : Prop :=
  ∀ (H1 : Heap) (locs1 : List Loc) (z : List Nat) (tz : List (ClassId × FieldType)) (ws1 : va_W) (ls1 : Array Slot) (lv1 : List (Nat × Value)) (vs1 : List Value), va_K D vwCl (tys ++ tz) s → va_P D vwCl ws1 H1 → va_D A ws1 → va_S A H0 H1 locs1 → ra_G r.2.2.2.1 r.2.2.2.2.1 (ad ++ z) (tys ++ tz) (wS ++ ws1) → lv_has ls1 nL lv1 → ra_L (ad ++ z) r.2.1 lv1 → ra_S (ad ++ z) r.2.2.1 vs1 → W p l e R s m args below meth c H1 locs1 r.2.2.2.2.2.1 r.2.2.2.2.2.2.1 Q (F0 m r.1 ls1 vs1)
theorem ra_pre_W {cd : ra_Cd} {M : ra_Mt} {x : Cond} {al : List (Nat × ra_V)} {lv : List (Nat × Value)} {st : List ra_V} {vs : List Value} {a : ra_A} {ig : Instr} {len : Nat} {r : ra_T} (hM : ra_Mok cd M) (h0 : ra_At p s m args meth c H H0 locs ls D A ah ta ad tys wS ws M x st vs) (hl : lv_has ls (ra_Mn M) lv) (hL : ra_L ad al lv) (hdg : decode (ra_Mc M) pc = .ok (ig, len)) (h : ra_pre cd M pc al st ah ta a ig len = some r) (hR : ra_fits r.2.2.2.2.2 R)
    (kk : ra_Kt p l e R s m args below meth c H0 Q (ra_Mn M) D A ad tys wS r) : W p l e R s m args below meth c H locs a.1 a.2.1 Q (F0 m pc ls vs) := by
  obtain ⟨hx, hb, hml, hnm, hts, hown, hA, hK, hP, hD, hV, hW, hG, hS⟩ := id h0
  have n0 : ∀ (ls1 : Array Slot) (lv1 : List (Nat × Value)) (vs1 : List Value) (H1 : Heap) (locs1 : List Loc) (ws1 : va_W), va_P D vwCl ws1 H1 → va_D A ws1 → va_S A H0 H1 locs1 → ra_G r.2.2.2.1 r.2.2.2.2.1 ad tys (wS ++ ws1) → lv_has ls1 (ra_Mn M) lv1 → ra_L ad r.2.1 lv1 → ra_S ad r.2.2.1 vs1 → W p l e R s m args below meth c H1 locs1 r.2.2.2.2.2.1 r.2.2.2.2.2.2.1 Q (F0 m r.1 ls1 vs1) :=
    fun ls1 lv1 vs1 H1 locs1 ws1 g1 g2 g3 g4 g5 g6 g7 => kk H1 locs1 [] [] ws1 ls1 lv1 vs1 (by rw [List.append_nil]; exact hK) g1 g2 g3 (by rw [List.append_nil, List.append_nil]; exact g4) g5 (by rw [List.append_nil]; exact g6) (by rw [List.append_nil]; exact g7)
  unfold ra_pre at h
  split at h
  · next v hv =>
    cases h
    dsimp only at n0
    exact ra_push_W hx hb hl hL hdg hv (fun w hw => n0 ls lv (w :: vs) H locs ws hP hD hV hG hl hL ⟨hw, hS⟩)
  · split at h
    · next st' hst =>
      cases h
      dsimp only at n0
      exact ra_st_W hx hb hS hdg hst (fun vs' hS' => n0 ls lv vs' H locs ws hP hD hV hG hl hL hS')
    · split at h
      · next al' st' hst =>
        cases h
        dsimp only at n0
        exact ra_sto_W hx hb hl hL hS hdg hst (fun ls' lv' vs' g1 g2 g3 => n0 ls' lv' vs' H locs ws hP hD hV hG g1 g2 g3)
      · split at h
        · next pc' st' hst =>
          cases h
          dsimp only at n0
          exact ra_br_W hx hb hS hdg hst (fun vs' hS' => n0 ls lv vs' H locs ws hP hD hV hG hl hL hS')
        · split at h
          · next st' hst =>
            cases h
            dsimp only at n0
            exact ra_ald_W hx hb hK (ra_Pall hW hV hP) hG hS hdg hst (fun vs' hS' => n0 ls lv vs' H locs ws hP hD hV hG hl hL hS')
          · split at h
            · next ah' st' hst =>
              cases h
              dsimp only at n0
              exact ra_ast_W hx hb hK hP hD hV hW.2.2.1 hG hS hdg hst (fun H1 locs1 ws' vs' g1 g2 g3 g4 g5 => n0 ls lv vs' H1 locs1 ws' g1 g2 g3 g4 hl hL g5)
            · split at h
              · next pc' st' ah' ta' a' hst =>
                cases h
                dsimp only at hR
                refine ra_0s_W hM h0 hdg hst hR ?_
                intro H1 locs1 z tz ws1 vs1 g1 g2 g3 g4 g5 g6
                exact kk H1 locs1 z tz ws1 ls lv vs1 g1 g2 g3 g4 g5 hl (ra_L_app hL) g6
              · cases h
end RAA
