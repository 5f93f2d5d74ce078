section RA4
variable {p : Program} {l : Launch} {e : Env} {R : Room} {s : State} {m : MethodId} {args : Array Value} {below : List Frame} {meth : Method} {c : Code} {H : Heap} {locs : List Loc} {cells slots : Nat} {Q : State → Prop} {cc : ByteArray} {pc : Nat} {ls : Array Slot} {rest : List Value}
/-- stores into locals; nL: how many there are -/
def ra_sto (nL : Nat) (al : List (Nat × ra_V)) : Instr → Nat → List ra_V → Option (List (Nat × ra_V) × List ra_V)
  | .istore_n k, 1, (0, a, b) :: st => if (k : Nat) < nL then some (ra_put al k (0, a, b), st) else none
  | .istore i, 2, (0, a, b) :: st => if i < nL then some (ra_put al i (0, a, b), st) else none
  | .astore_n k, 1, (3, a, b) :: st => if (k : Nat) < nL then some (ra_put al k (3, a, b), st) else none
  | .astore i, 2, (3, a, b) :: st => if i < nL then some (ra_put al i (3, a, b), st) else none
  | .astore_n k, 1, (4, a, b) :: st => if (k : Nat) < nL then some (ra_put al k (4, a, b), st) else none
  | .astore i, 2, (4, a, b) :: st => if i < nL then some (ra_put al i (4, a, b), st) else none
  | .astore_n k, 1, (8, a, b) :: st => if (k : Nat) < nL then some (ra_put al k (8, a, b), st) else none
  | .astore i, 2, (8, a, b) :: st => if i < nL then some (ra_put al i (8, a, b), st) else none
  | .lstore_n k, 1, x :: st => if (k : Nat) + 1 < nL ∧ ra_l1 x = true then some (ra_put2 al k x, st) else none
  | .lstore i, 2, x :: st => if i + 1 < nL ∧ ra_l1 x = true then some (ra_put2 al i x, st) else none
  | .dstore_n k, 1, (5, a, b) :: st => if (k : Nat) + 1 < nL then some (ra_put2 al k (5, a, b), st) else none
  | .dstore i, 2, (5, a, b) :: st => if i + 1 < nL then some (ra_put2 al i (5, a, b), st) else none
  | .iinc i n, 3, st => match ra_oi (ra_get al i) with
    | some x => if i < nL then some (ra_put al i (ra_add (ra_k (Int32.ofInt n)) x), st) else none
    | none => none
  | _, _, _ => none
theorem ra_sto_W {ad : List Nat} {nL : Nat} {al al' : List (Nat × ra_V)} {lv : List (Nat × Value)} {st st' : List ra_V} {vs : List Value} (hx : p.tables.exec = Jvm.exec) (hb : c.code = cc) (hl : lv_has ls nL lv) (hL : ra_L ad al lv) (hS : ra_S ad st vs) {ig : Instr} {len : Nat} (hdg : decode cc pc = .ok (ig, len)) (h : ra_sto nL al ig len st = some (al', st'))
    (k : ∀ (ls' : Array Slot) (lv' : List (Nat × Value)) (vs' : List Value), lv_has ls' nL lv' → ra_L ad al' lv' → ra_S ad st' vs' → W p l e R s m args below meth c H locs cells slots Q (F0 m (pc + len) ls' vs')) : W p l e R s m args below meth c H locs cells slots Q (F0 m pc ls vs) := by
  unfold ra_sto at h
  split at h
  · split at h
    · next q => cases h; obtain ⟨v, vs', rfl, h1, h3⟩ := ra_S_cons hS; obtain ⟨x, rfl, -⟩ := id h1; exact lv_istore_n hx hb hdg rfl hl q rfl (fun ls' hl' => k _ _ _ hl' (ra_L_put hL h1) h3)
    · cases h
  · split at h
    · next q => cases h; obtain ⟨v, vs', rfl, h1, h3⟩ := ra_S_cons hS; obtain ⟨x, rfl, -⟩ := id h1; exact lv_istore hx hb hdg hl q rfl (fun ls' hl' => k _ _ _ hl' (ra_L_put hL h1) h3)
    · cases h
  · split at h
    · next q => cases h; obtain ⟨v, vs', rfl, h1, h3⟩ := ra_S_cons hS; obtain ⟨x, -, rfl⟩ := id h1; exact lv_astore_n hx hb hdg rfl hl q rfl (fun ls' hl' => k _ _ _ hl' (ra_L_put hL h1) h3)
    · cases h
  · split at h
    · next q => cases h; obtain ⟨v, vs', rfl, h1, h3⟩ := ra_S_cons hS; obtain ⟨x, -, rfl⟩ := id h1; exact lv_astore hx hb hdg hl q rfl (fun ls' hl' => k _ _ _ hl' (ra_L_put hL h1) h3)
    · cases h
  · split at h
    · next q => cases h; obtain ⟨v, vs', rfl, h1, h3⟩ := ra_S_cons hS; have e2 : v = .null := h1; subst e2; exact lv_astore_nN hx hb hdg rfl hl q rfl (fun ls' hl' => k _ _ _ hl' (ra_L_put hL h1) h3)
    · cases h
  · split at h
    · next q => cases h; obtain ⟨v, vs', rfl, h1, h3⟩ := ra_S_cons hS; have e2 : v = .null := h1; subst e2; exact lv_astoreN hx hb hdg hl q rfl (fun ls' hl' => k _ _ _ hl' (ra_L_put hL h1) h3)
    · cases h
  · split at h
    · next q =>
      cases h; obtain ⟨v, vs', rfl, h1, h3⟩ := ra_S_cons hS
      rcases id h1 with rfl | ⟨x, rfl⟩
      · exact lv_astore_nN hx hb hdg rfl hl q rfl (fun ls' hl' => k _ _ _ hl' (ra_L_put hL h1) h3)
      · exact lv_astore_n hx hb hdg rfl hl q rfl (fun ls' hl' => k _ _ _ hl' (ra_L_put hL h1) h3)
    · cases h
  · split at h
    · next q =>
      cases h; obtain ⟨v, vs', rfl, h1, h3⟩ := ra_S_cons hS
      rcases id h1 with rfl | ⟨x, rfl⟩
      · exact lv_astoreN hx hb hdg hl q rfl (fun ls' hl' => k _ _ _ hl' (ra_L_put hL h1) h3)
      · exact lv_astore hx hb hdg hl q rfl (fun ls' hl' => k _ _ _ hl' (ra_L_put hL h1) h3)
    · cases h
  · split at h
    · next q => cases h; obtain ⟨v, vs', rfl, h1, h3⟩ := ra_S_cons hS; obtain ⟨x, rfl⟩ := ra_l1_R q.2 h1; exact lv_lstore_n hx hb hdg rfl hl q.1 rfl (fun ls' hl' => k _ _ _ hl' (ra_L_put2 hL h1) h3)
    · cases h
  · split at h
    · next q => cases h; obtain ⟨v, vs', rfl, h1, h3⟩ := ra_S_cons hS; obtain ⟨x, rfl⟩ := ra_l1_R q.2 h1; exact lv_lstore hx hb hdg hl q.1 rfl (fun ls' hl' => k _ _ _ hl' (ra_L_put2 hL h1) h3)
    · cases h
  · split at h
    · next q => cases h; obtain ⟨v, vs', rfl, h1, h3⟩ := ra_S_cons hS; have e2 : v = .double _ := h1; subst e2; exact lv_dstore_n hx hb hdg rfl hl q rfl (fun ls' hl' => k _ _ _ hl' (ra_L_put2 hL h1) h3)
    · cases h
  · split at h
    · next q => cases h; obtain ⟨v, vs', rfl, h1, h3⟩ := ra_S_cons hS; have e2 : v = .double _ := h1; subst e2; exact lv_dstore hx hb hdg hl q rfl (fun ls' hl' => k _ _ _ hl' (ra_L_put2 hL h1) h3)
    · cases h
  · split at h
    · next q =>
      split at h
      · next q2 =>
        cases h
        obtain ⟨h1, x, y, rfl⟩ := ra_oi_i q
        obtain ⟨v, hm, hR⟩ := ra_L_mem hL h1
        obtain ⟨z, rfl, -⟩ := id hR
        obtain ⟨k9, hk9⟩ := List.mem_iff_getElem?.mp hm
        exact lv_iinc hx hb hdg hl hk9 rfl q2 rfl (fun ls' hl' => k _ _ _ hl' (ra_L_put hL (ra_R_add hR (ra_R_k _))) hS)
      · cases h
    · cases h
  · cases h
/-- branches -/
def ra_go (pc : Nat) (off : Int) (o : Option Bool) (st : List ra_V) : Option (Nat × List ra_V) := if 0 ≤ (pc : Int) + off then (match o with
  | some true => some (((pc : Int) + off).toNat, st)
  | some false => some (pc + 3, st)
  | none => none) else none
theorem ra_go_i {pc pc' : Nat} {off : Int} {o : Option Bool} {st st' : List ra_V} (h : ra_go pc off o st = some (pc', st')) : ∃ tgt : Nat, (pc : Int) + off = (tgt : Int) ∧ st' = st ∧ ((o = some true ∧ pc' = tgt) ∨ (o = some false ∧ pc' = pc + 3)) := by
  unfold ra_go at h
  split at h
  · next q =>
    refine ⟨((pc : Int) + off).toNat, by omega, ?_⟩
    split at h
    · cases h; exact ⟨rfl, Or.inl ⟨rfl, rfl⟩⟩
    · cases h; exact ⟨rfl, Or.inr ⟨rfl, rfl⟩⟩
    · cases h
  · cases h
def ra_not : Option Bool → Option Bool
  | some b => some (!b)
  | none => none
theorem ra_not_t {o : Option Bool} (h : ra_not o = some true) : o = some false := by
  unfold ra_not at h; split at h
  · next b => cases b with
    | true => cases h
    | false => rfl
  · cases h
theorem ra_not_f {o : Option Bool} (h : ra_not o = some false) : o = some true := by
  unfold ra_not at h; split at h
  · next b => cases b with
    | true => rfl
    | false => cases h
  · cases h
def ra_b1 (x : ra_V) (r : Option (Nat × List ra_V)) : Option (Nat × List ra_V) := if ra_i1 x then r else none
def ra_b2 (y x : ra_V) (r : Option (Nat × List ra_V)) : Option (Nat × List ra_V) := if ra_i1 y && ra_i1 x then r else none
theorem ra_b1_i {ad : List Nat} {x : ra_V} {r : Option (Nat × List ra_V)} {r' : Nat × List ra_V} {st : List ra_V} {vs : List Value} (h : ra_b1 x r = some r') (hS : ra_S ad (x :: st) vs) : ∃ (a : Int32) (vs' : List Value), vs = .int a :: vs' ∧ ra_R ad x (.int a) ∧ r = some r' ∧ ra_S ad st vs' := by
  unfold ra_b1 at h
  split at h
  · next q =>
    obtain ⟨v, vs1, rfl, h1, hS1⟩ := ra_S_cons hS
    obtain ⟨b, rfl⟩ := ra_i1_R q h1
    exact ⟨b, vs1, rfl, h1, h, hS1⟩
  · cases h
theorem ra_b2_i {ad : List Nat} {y x : ra_V} {r : Option (Nat × List ra_V)} {r' : Nat × List ra_V} {st : List ra_V} {vs : List Value} (h : ra_b2 y x r = some r') (hS : ra_S ad (y :: x :: st) vs) : ∃ (b a : Int32) (vs' : List Value), vs = .int b :: .int a :: vs' ∧ ra_R ad y (.int b) ∧ ra_R ad x (.int a) ∧ r = some r' ∧ ra_S ad st vs' := by
  unfold ra_b2 at h
  split at h
  · next q =>
    rw [Bool.and_eq_true] at q
    obtain ⟨v, vs1, rfl, h1, hS1⟩ := ra_S_cons hS
    obtain ⟨w, vs2, rfl, h2, hS2⟩ := ra_S_cons hS1
    obtain ⟨b, rfl⟩ := ra_i1_R q.1 h1
    obtain ⟨a, rfl⟩ := ra_i1_R q.2 h2
    exact ⟨b, a, vs2, rfl, h1, h2, h, hS2⟩
  · cases h
def ra_0 : ra_V := (0, 0, 0)
def ra_to (pc : Nat) (off : Int) (st : List ra_V) : Option (Nat × List ra_V) := if 0 ≤ (pc : Int) + off then some (((pc : Int) + off).toNat, st) else none
theorem ra_to_i {pc pc' : Nat} {off : Int} {st st' : List ra_V} (h : ra_to pc off st = some (pc', st')) : (pc : Int) + off = (pc' : Int) ∧ st' = st := by
  unfold ra_to at h
  split at h
  · next q => cases h; exact ⟨by omega, rfl⟩
  · cases h
def ra_br (pc : Nat) : Instr → Nat → List ra_V → Option (Nat × List ra_V)
  | .ifCond .eq off, 3, x :: st => ra_b1 x (ra_go pc off (ra_eq x ra_0) st)
  | .ifCond .ne off, 3, x :: st => ra_b1 x (ra_go pc off (ra_not (ra_eq x ra_0)) st)
  | .ifCond .lt off, 3, x :: st => ra_b1 x (ra_go pc off (ra_lt x ra_0) st)
  | .ifCond .ge off, 3, x :: st => ra_b1 x (ra_go pc off (ra_not (ra_lt x ra_0)) st)
  | .ifCond .gt off, 3, x :: st => ra_b1 x (ra_go pc off (ra_lt ra_0 x) st)
  | .ifCond .le off, 3, x :: st => ra_b1 x (ra_go pc off (ra_not (ra_lt ra_0 x)) st)
  | .if_icmp .eq off, 3, y :: x :: st => ra_b2 y x (ra_go pc off (ra_eq x y) st)
  | .if_icmp .ne off, 3, y :: x :: st => ra_b2 y x (ra_go pc off (ra_not (ra_eq x y)) st)
  | .if_icmp .lt off, 3, y :: x :: st => ra_b2 y x (ra_go pc off (ra_lt x y) st)
  | .if_icmp .ge off, 3, y :: x :: st => ra_b2 y x (ra_go pc off (ra_not (ra_lt x y)) st)
  | .if_icmp .gt off, 3, y :: x :: st => ra_b2 y x (ra_go pc off (ra_lt y x) st)
  | .if_icmp .le off, 3, y :: x :: st => ra_b2 y x (ra_go pc off (ra_not (ra_lt y x)) st)
  | .goto off, 3, st => ra_to pc off st
  | .if_acmp .eq off, 3, (3, k1, _) :: (3, k2, _) :: st => if k1 = k2 then ra_to pc off st else none
  | .if_acmp .ne off, 3, (3, k1, _) :: (3, k2, _) :: st => if k1 = k2 ∧ 0 ≤ (pc : Int) + off then some (pc + 3, st) else none
  | .ifnull off, 3, (3, _, _) :: st => some (pc + 3, st)
  | .ifnull off, 3, (4, _, _) :: st => ra_to pc off st
  | .ifnonnull off, 3, (3, _, _) :: st => ra_to pc off st
  | .ifnonnull off, 3, (4, _, _) :: st => some (pc + 3, st)
  | .tableswitch dflt lo hi offs, _, x :: st => match ra_ci x with
    | some v => if v.toInt < lo ∨ hi < v.toInt then ra_b1 x (ra_to pc dflt st) else (match offs[(v.toInt - lo).toNat]? with
      | some off => ra_b1 x (ra_to pc off st)
      | none => none)
    | none => none
  | .lookupswitch dflt ps, _, x :: st => match ra_ci x with
    | some v => if (ps.toList.zip (ps.toList.drop 1)).all (fun (a, next) => a.1 < next.1) = true then ra_b1 x (ra_to pc (Op.lookupswitch.offset ps.toList dflt v.toInt) st) else none
    | none => none
  | _, _, _ => none
theorem ra_br_W {ad : List Nat} {pc' : Nat} {st st' : List ra_V} {vs : List Value} (hx : p.tables.exec = Jvm.exec) (hb : c.code = cc) (hS : ra_S ad st vs) {ig : Instr} {len : Nat} (hdg : decode cc pc = .ok (ig, len)) (h : ra_br pc ig len st = some (pc', st'))
    (k : ∀ vs', ra_S ad st' vs' → W p l e R s m args below meth c H locs cells slots Q (F0 m pc' ls vs')) : W p l e R s m args below meth c H locs cells slots Q (F0 m pc ls vs) := by
  unfold ra_br at h
  split at h
  · obtain ⟨a, vs', rfl, h1, h2, h3⟩ := ra_b1_i h hS
    obtain ⟨tgt, ht, rfl, ⟨o, rfl⟩ | ⟨o, rfl⟩⟩ := ra_go_i h2
    · exact lv_if_eq hx hb hdg ht (fun _ => k _ h3) (fun z => absurd (ra_eq_t o h1 ra_R_0) z)
    · exact lv_if_eq hx hb hdg ht (fun z => absurd z (ra_eq_f o h1 ra_R_0)) (fun _ => k _ h3)
  · obtain ⟨a, vs', rfl, h1, h2, h3⟩ := ra_b1_i h hS
    obtain ⟨tgt, ht, rfl, ⟨o, rfl⟩ | ⟨o, rfl⟩⟩ := ra_go_i h2
    · exact lv_if_ne hx hb hdg ht (fun _ => k _ h3) (fun z => absurd z (ra_eq_f (ra_not_t o) h1 ra_R_0))
    · exact lv_if_ne hx hb hdg ht (fun z => absurd (ra_eq_t (ra_not_f o) h1 ra_R_0) z) (fun _ => k _ h3)
  · obtain ⟨a, vs', rfl, h1, h2, h3⟩ := ra_b1_i h hS
    obtain ⟨tgt, ht, rfl, ⟨o, rfl⟩ | ⟨o, rfl⟩⟩ := ra_go_i h2
    · exact lv_if_lt hx hb hdg ht (fun _ => k _ h3) (fun z => absurd (ra_lt_t o h1 ra_R_0) z)
    · exact lv_if_lt hx hb hdg ht (fun z => absurd z (ra_nlt (ra_lt_f o h1 ra_R_0))) (fun _ => k _ h3)
  · obtain ⟨a, vs', rfl, h1, h2, h3⟩ := ra_b1_i h hS
    obtain ⟨tgt, ht, rfl, ⟨o, rfl⟩ | ⟨o, rfl⟩⟩ := ra_go_i h2
    · exact lv_if_ge hx hb hdg ht (fun _ => k _ h3) (fun z => absurd (ra_lt_f (ra_not_t o) h1 ra_R_0) z)
    · exact lv_if_ge hx hb hdg ht (fun z => absurd z (ra_nle (ra_lt_t (ra_not_f o) h1 ra_R_0))) (fun _ => k _ h3)
  · obtain ⟨a, vs', rfl, h1, h2, h3⟩ := ra_b1_i h hS
    obtain ⟨tgt, ht, rfl, ⟨o, rfl⟩ | ⟨o, rfl⟩⟩ := ra_go_i h2
    · exact lv_if_gt hx hb hdg ht (fun _ => k _ h3) (fun z => absurd (ra_lt_t o ra_R_0 h1) z)
    · exact lv_if_gt hx hb hdg ht (fun z => absurd z (ra_nlt (ra_lt_f o ra_R_0 h1))) (fun _ => k _ h3)
  · obtain ⟨a, vs', rfl, h1, h2, h3⟩ := ra_b1_i h hS
    obtain ⟨tgt, ht, rfl, ⟨o, rfl⟩ | ⟨o, rfl⟩⟩ := ra_go_i h2
    · exact lv_if_le hx hb hdg ht (fun _ => k _ h3) (fun z => absurd (ra_lt_f (ra_not_t o) ra_R_0 h1) z)
    · exact lv_if_le hx hb hdg ht (fun z => absurd z (ra_nle (ra_lt_t (ra_not_f o) ra_R_0 h1))) (fun _ => k _ h3)
  · obtain ⟨b, a, vs', rfl, h1, h4, h2, h3⟩ := ra_b2_i h hS
    obtain ⟨tgt, ht, rfl, ⟨o, rfl⟩ | ⟨o, rfl⟩⟩ := ra_go_i h2
    · exact lv_icmp_eq hx hb hdg ht (fun _ => k _ h3) (fun z => absurd (ra_eq_t o h4 h1) z)
    · exact lv_icmp_eq hx hb hdg ht (fun z => absurd z (ra_eq_f o h4 h1)) (fun _ => k _ h3)
  · obtain ⟨b, a, vs', rfl, h1, h4, h2, h3⟩ := ra_b2_i h hS
    obtain ⟨tgt, ht, rfl, ⟨o, rfl⟩ | ⟨o, rfl⟩⟩ := ra_go_i h2
    · exact lv_icmp_ne hx hb hdg ht (fun _ => k _ h3) (fun z => absurd z (ra_eq_f (ra_not_t o) h4 h1))
    · exact lv_icmp_ne hx hb hdg ht (fun z => absurd (ra_eq_t (ra_not_f o) h4 h1) z) (fun _ => k _ h3)
  · obtain ⟨b, a, vs', rfl, h1, h4, h2, h3⟩ := ra_b2_i h hS
    obtain ⟨tgt, ht, rfl, ⟨o, rfl⟩ | ⟨o, rfl⟩⟩ := ra_go_i h2
    · exact lv_icmp_lt hx hb hdg ht (fun _ => k _ h3) (fun z => absurd (ra_lt_t o h4 h1) z)
    · exact lv_icmp_lt hx hb hdg ht (fun z => absurd z (ra_nlt (ra_lt_f o h4 h1))) (fun _ => k _ h3)
  · obtain ⟨b, a, vs', rfl, h1, h4, h2, h3⟩ := ra_b2_i h hS
    obtain ⟨tgt, ht, rfl, ⟨o, rfl⟩ | ⟨o, rfl⟩⟩ := ra_go_i h2
    · exact lv_icmp_ge hx hb hdg ht (fun _ => k _ h3) (fun z => absurd (ra_lt_f (ra_not_t o) h4 h1) z)
    · exact lv_icmp_ge hx hb hdg ht (fun z => absurd z (ra_nle (ra_lt_t (ra_not_f o) h4 h1))) (fun _ => k _ h3)
  · obtain ⟨b, a, vs', rfl, h1, h4, h2, h3⟩ := ra_b2_i h hS
    obtain ⟨tgt, ht, rfl, ⟨o, rfl⟩ | ⟨o, rfl⟩⟩ := ra_go_i h2
    · exact lv_icmp_gt hx hb hdg ht (fun _ => k _ h3) (fun z => absurd (ra_lt_t o h1 h4) z)
    · exact lv_icmp_gt hx hb hdg ht (fun z => absurd z (ra_nlt (ra_lt_f o h1 h4))) (fun _ => k _ h3)
  · obtain ⟨b, a, vs', rfl, h1, h4, h2, h3⟩ := ra_b2_i h hS
    obtain ⟨tgt, ht, rfl, ⟨o, rfl⟩ | ⟨o, rfl⟩⟩ := ra_go_i h2
    · exact lv_icmp_le hx hb hdg ht (fun _ => k _ h3) (fun z => absurd (ra_lt_f (ra_not_t o) h1 h4) z)
    · exact lv_icmp_le hx hb hdg ht (fun z => absurd z (ra_nle (ra_lt_t (ra_not_f o) h1 h4))) (fun _ => k _ h3)
  · obtain ⟨ht, rfl⟩ := ra_to_i h
    exact lv_goto hx hb hdg ht (k _ hS)
  · split at h
    · next q =>
      subst q
      obtain ⟨ht, rfl⟩ := ra_to_i h
      obtain ⟨v, vs1, rfl, ⟨q1, h1, rfl⟩, hS1⟩ := ra_S_cons hS
      obtain ⟨w, vs2, rfl, ⟨q2, h2, rfl⟩, hS2⟩ := ra_S_cons hS1
      have e9 : q1 = q2 := Option.some.inj (h1.symm.trans h2)
      subst e9
      exact lv_acmp_eq (rx := some q1) (ry := some q1) hx hb hdg ht (fun _ => k _ hS2) (fun z => absurd rfl z)
    · cases h
  · split at h
    · next q =>
      obtain ⟨rfl, q9⟩ := q
      cases h
      obtain ⟨v, vs1, rfl, ⟨q1, h1, rfl⟩, hS1⟩ := ra_S_cons hS
      obtain ⟨w, vs2, rfl, ⟨q2, h2, rfl⟩, hS2⟩ := ra_S_cons hS1
      have e9 : q1 = q2 := Option.some.inj (h1.symm.trans h2)
      subst e9
      exact lv_acmp_ne (rx := some q1) (ry := some q1) hx hb hdg (Int.toNat_of_nonneg q9).symm (fun z => absurd rfl z) (fun _ => k _ hS2)
    · cases h
  · cases h; obtain ⟨v, vs', rfl, ⟨q, -, rfl⟩, h3⟩ := ra_S_cons hS; exact lv_ifnull hx hb hdg (k _ h3)
  · obtain ⟨ht, rfl⟩ := ra_to_i h
    obtain ⟨v, vs', rfl, h1, h3⟩ := ra_S_cons hS
    have e2 : v = .null := h1
    subst e2
    exact lv_ifnullN hx hb hdg ht (k _ h3)
  · obtain ⟨ht, rfl⟩ := ra_to_i h
    obtain ⟨v, vs', rfl, ⟨q, -, rfl⟩, h3⟩ := ra_S_cons hS
    exact lv_ifnonnull hx hb hdg ht (k _ h3)
  · cases h
    obtain ⟨v, vs', rfl, h1, h3⟩ := ra_S_cons hS
    have e2 : v = .null := h1
    subst e2
    exact lv_ifnonnullN hx hb hdg (k _ h3)
  · split at h
    · next v hv =>
      split at h
      · next q =>
        obtain ⟨a, vs', rfl, h1, h2, h3⟩ := ra_b1_i h hS
        obtain ⟨ht, rfl⟩ := ra_to_i h2
        rw [← ra_ci_R hv h1] at q
        exact lv_tableOut hx hb hdg q ht (k _ h3)
      · next q =>
        split at h
        · next off ho =>
          obtain ⟨a, vs', rfl, h1, h2, h3⟩ := ra_b1_i h hS
          obtain ⟨ht, rfl⟩ := ra_to_i h2
          rw [← ra_ci_R hv h1] at q ho
          exact lv_tableIn hx hb hdg (fun z => q (Or.inl z)) (fun z => q (Or.inr z)) ho ht (k _ h3)
        · cases h
    · cases h
  · split at h
    · next v hv =>
      split at h
      · next q =>
        obtain ⟨a, vs', rfl, h1, h2, h3⟩ := ra_b1_i h hS
        obtain ⟨ht, rfl⟩ := ra_to_i h2
        exact lv_lookup hx hb hdg q (by rw [ra_ci_R hv h1]) ht (k _ h3)
      · cases h
    · cases h
  · cases h
end RA4
