section RT
def rt_cl : List (List (FieldType × Bool)) := [[(.array .byte, true), (.byte, true)],
  [],
  [],
  [(.int, false), (.array (.object "java/lang/Object"), false), (.int, false)],
  [(.int, false), (.object "SqlStore$Tree", true), (.object "SqlStore$Runner", true), (.object "SqlStore$Checker", true), (.array .byte, false), (.int, false), (.array .int, true), (.array .int, true), (.array .int, true), (.int, false), (.int, false), (.int, false), (.array (.object "SqlStore$Value"), true), (.array (.object "SqlStore$Value"), true), (.array .byte, true), (.array .byte, true), (.array .byte, true)],
  [(.array (.object "SqlStore$Definition"), true), (.int, false), (.object "SqlStore$Definition", true), (.array .byte, true), (.int, false), (.int, false), (.int, false), (.object "SqlStore$Tree", true), (.object "SqlStore$Parser", true), (.array .byte, true), (.int, false), (.array .byte, true), (.int, false), (.int, false), (.boolean, false), (.boolean, false)],
  [(.int, false), (.int, false), (.long, false), (.int, false), (.int, false), (.long, false), (.int, false), (.array (.object "SqlStore$Node"), true), (.array .long, true), (.array .int, true), (.object "SqlStore$Node", false), (.array .int, true), (.int, false), (.int, false), (.int, false), (.array .int, true), (.array .boolean, true), (.array .int, true), (.array .int, true), (.object "SqlStore$Select", true), (.object "SqlStore$Source", true)],
  [(.array .byte, true), (.array .byte, true), (.array .byte, true), (.int, false), (.int, false), (.int, false), (.boolean, false), (.int, false), (.array .int, true), (.array .boolean, true), (.array .int, true), (.array .long, true), (.array .boolean, true), (.array .byte, true), (.array .byte, true), (.array .byte, true), (.int, false), (.array .byte, true)],
  [(.int, false), (.int, false), (.int, false), (.int, false), (.int, false), (.int, false), (.long, false), (.long, false), (.int, false), (.object "SqlStore$Node", false), (.object "SqlStore$Node", false), (.object "SqlStore$Node", false), (.object "SqlStore$Select", false), (.object "SqlStore$Source", false), (.int, false), (.int, false), (.object "SqlStore$Value", true)],
  [(.object "SqlStore$Statement", true), (.int, false), (.array .byte, true), (.int, false), (.array .int, true), (.array .int, true), (.array .long, true), (.int, false), (.int, false), (.int, false), (.long, false), (.int, false), (.array .long, true), (.int, false), (.int, false), (.object "SqlStore$Select", false), (.boolean, false), (.object "java/util/ArrayList", true), (.object "java/util/ArrayList", true), (.object "java/util/ArrayList", true), (.array .int, true)],
  [(.int, false), (.int, false), (.object "SqlStore$Tree", true), (.array (.object "SqlStore$Value"), true), (.int, false), (.object "java/util/ArrayList", true), (.int, false), (.array .int, true), (.int, false), (.object "SqlStore$Value", true), (.array .byte, true), (.array .byte, true), (.int, false), (.array .byte, true), (.int, false)],
  [(.int, false), (.object "SqlStore$Select", false), (.int, false), (.boolean, false), (.object "SqlStore$Node", false), (.object "SqlStore$Source", false), (.object "SqlStore$Node", false), (.object "SqlStore$Node", false), (.object "SqlStore$Node", false), (.object "SqlStore$Node", false), (.object "SqlStore$Node", false), (.object "SqlStore$Select", false), (.int, false), (.int, false), (.int, false), (.array .long, true), (.array .int, true), (.array .int, true), (.int, false), (.array .int, true), (.int, false), (.int, false)],
  [(.long, false), (.int, false), (.long, false), (.int, false), (.int, false), (.object "SqlStore$Node", false), (.object "SqlStore$Select", false), (.object "SqlStore$Definition", false), (.object "SqlStore$Select", false), (.int, false), (.boolean, false), (.object "SqlStore$Source", false), (.object "SqlStore$Source", false), (.array (.object "SqlStore$Value"), true), (.int, false), (.int, false), (.array (.object "SqlStore$Node"), true), (.int, false), (.object "SqlStore$Node", false), (.object "SqlStore$Node", false)],
  [(.int, false), (.int, false), (.long, false), (.int, false), (.long, false), (.int, false), (.object "SqlStore$Node", false), (.object "SqlStore$Node", false), (.object "SqlStore$Select", false), (.object "SqlStore$Select", false), (.int, false), (.int, false), (.int, false), (.int, false), (.object "SqlStore$Source", false), (.object "SqlStore$Source", false)],
  [(.array .byte, false), (.int, false), (.array .int, true), (.array .int, true), (.array .int, true), (.int, false), (.int, false), (.array .byte, true), (.array .byte, true), (.int, false), (.array .int, true)],
  [(.int, false), (.long, false), (.int, false), (.int, false), (.array .byte, false)],
  [(.array .byte, true), (.int, false), (.array .byte, true), (.array .int, true), (.array .int, true), (.array .int, true), (.array (.object "SqlStore$Value"), true), (.int, false), (.int, false), (.int, false), (.int, false), (.int, false), (.int, false), (.int, false), (.array (.object "SqlStore$Value"), true), (.object "SqlStore$Log", true), (.object "SqlStore$Tree", true), (.object "SqlStore$Parser", true), (.object "SqlStore$Parser", true), (.object "SqlStore$Checker", true), (.object "SqlStore$Runner", true), (.object "SqlStore$Changer", true)],
  [],
  [(.int, false), (.int, false), (.int, false), (.array .byte, true), (.int, false), (.int, false), (.array .boolean, true), (.array .byte, true), (.array .int, true), (.array .int, true), (.array .boolean, true), (.array .int, true), (.array .long, true), (.array .byte, true), (.array .long, true), (.array .byte, false), (.int, false), (.int, false), (.int, false), (.int, false), (.int, false), (.int, false), (.long, false), (.int, false), (.int, false), (.int, false), (.int, false), (.array .boolean, true), (.int, false), (.array .int, false), (.array .int, false), (.array .int, false), (.array .int, false), (.array .int, false), (.array .int, false), (.array .int, false), (.array .int, false), (.array .long, false), (.array .long, false), (.int, false), (.array (.array .int), true), (.int, false), (.array (.array .int), true), (.int, false), (.array (.array .int), true), (.array .long, false), (.array .long, false), (.array .int, false), (.array .long, false), (.int, false), (.long, false), (.int, false), (.int, false), (.int, false), (.int, false), (.int, false), (.int, false), (.int, false), (.int, false), (.int, false), (.int, false), (.int, false), (.array .byte, true), (.array .int, true), (.array .int, true), (.array .long, true), (.array .int, true), (.array .int, true), (.array .int, true), (.array .int, true), (.array .int, true), (.array .int, true), (.array .long, false), (.array .int, false), (.array .int, true), (.array .boolean, true), (.array .boolean, true), (.array .int, true), (.array .int, true), (.array .long, true), (.array .long, true), (.array .int, true), (.array .long, true), (.array .int, true), (.array .int, true), (.array .int, true), (.array .int, true), (.array .int, true), (.array .int, true), (.array .long, true), (.array .int, true), (.array .int, true), (.array .long, true), (.array .int, true), (.array .boolean, true), (.array .int, true), (.array .long, true), (.array .int, true), (.array .int, true), (.array .int, true), (.array .int, true), (.array .boolean, true), (.array .int, true), (.array .int, true), (.array .int, true), (.int, false), (.int, false), (.int, false), (.int, false), (.boolean, false), (.boolean, false), (.array .int, true), (.array .int, true), (.array .int, true), (.array .int, true), (.array .int, true), (.int, false), (.array .byte, false), (.array .long, false), (.array .int, false), (.int, false), (.array .byte, false), (.int, false), (.long, false), (.int, false), (.array .int, true), (.array .long, true), (.array .int, true), (.int, false), (.array .byte, false), (.array .int, true), (.array .int, true), (.array .int, true), (.int, false), (.array .byte, true), (.int, false), (.array .byte, true), (.array .byte, true), (.array .byte, true), (.array .byte, true), (.array .byte, true), (.array .byte, true), (.int, false), (.array .int, true), (.array .int, true), (.array .int, true), (.array .int, true), (.boolean, false), (.int, false), (.int, false), (.array .boolean, true), (.array .int, true), (.array (.array .byte), true), (.array .int, true), (.array .long, true), (.array .boolean, true), (.array (.array .byte), true), (.array .byte, true), (.array .byte, true), (.array .byte, true), (.array .byte, true), (.array .byte, true), (.int, false), (.int, false), (.int, false), (.int, false), (.int, false), (.int, false), (.int, false), (.int, false), (.array .int, true), (.array .long, true), (.array .byte, true)]]
def rt_cd : ra_Cd := fun ci => rt_cl[ci]?
/-- a class as the tables have it -/
def rt_Kc (ci n : Nat) (C : String) (T : u_T) (ty : Nat → FieldType) : Prop := ∃ fs, rt_cd ci = some fs ∧ fs.length = n ∧ ra_Cok ci C T n ty ∧ (∀ j, ¬ ty j = .float) ∧ ∀ k z, fs[k]? = some z → ty k = z.1 ∧ (T k).2.2.2 = z.2
theorem rt_zip {fs : List (FieldType × Bool)} {ty : Nat → FieldType} {T : u_T} (h : ∀ k, k < fs.length → fs[k]? = some (ty k, (T k).2.2.2)) : ∀ k z, fs[k]? = some z → ty k = z.1 ∧ (T k).2.2.2 = z.2 := fun k z hz => by
  have := h k (List.getElem?_eq_some_iff.mp hz).1
  rw [hz] at this
  cases this
  exact ⟨rfl, rfl⟩
theorem rt_fok {ci n k i : Nat} {C own : String} {T : u_T} {ty : Nat → FieldType} (h : rt_Kc ci n C T ty) (hk : k < n) (hf : (T k).2.2.2 = true → (T k).1 = C) (hw : ra_fw own i (T k)) : ra_fok rt_cd own (i, ci, k) := by
  obtain ⟨fs, h1, rfl, h2, h3, h4⟩ := h
  exact ⟨fs, C, T, ty, h1, h2, h4, hk, hf, hw⟩
theorem rt_c {α : Type} {P : α → Prop} {a : α} {L : List α} (h1 : P a) (h2 : ∀ q ∈ L, P q) : ∀ q ∈ a :: L, P q := fun q hq => (List.mem_cons.mp hq).elim (fun e => e ▸ h1) (h2 q)
theorem rt_n {α : Type} {P : α → Prop} : ∀ q ∈ ([] : List α), P q := fun q hq => by cases hq
/-- a link that is of one kind alone -/
theorem rt_lone {own : String} {i k x : Nat} (h0 : ¬ k = 0) (h5 : ¬ k = 5) (h16 : ¬ k = 16) (h6 : ¬ k = 6) (h7 : ¬ k = 7) (h8 : ¬ k = 8) (h13 : ¬ k = 13) (h14 : ¬ k = 14) (h15 : ¬ k = 15) (h21 : ¬ k = 21) : ra_lok rt_cd own (i, k, x) :=
  ⟨fun z => absurd z h0, fun z => absurd z h5, fun z => absurd z h16, fun z => absurd z h6, fun z => absurd z h7, fun z => absurd z h8, fun z => absurd z h13, fun z => absurd z h14, fun z => absurd z h15, fun z => absurd z h21⟩
theorem rt_lnew {own C : String} {T : u_T} {ty : Nat → FieldType} {i ci n : Nat} (h : rt_Kc ci n C T ty) (w1 : Cond.classLink own i C ∈ re_tbl) (w2 : Cond.instantiable C n ∈ re_tbl) (w3 : Cond.initialized C ∈ re_tbl) : ra_lok rt_cd own (i, 0, ci) := by
  obtain ⟨fs, h1, rfl, h2, h3, h4⟩ := h
  exact ⟨fun _ => ⟨fs, C, T, ty, h1, h2, h3, fun k z hz => (h4 k z hz).1, w1, w2, w3⟩, fun z => (by cases z), fun z => (by cases z), fun z => (by cases z), fun z => (by cases z), fun z => (by cases z), fun z => (by cases z), fun z => (by cases z), fun z => (by cases z), fun z => (by cases z)⟩
theorem rt_l5 {own : String} {i x : Nat} {r : vw_C} (hr : vwCl[x]? = some r) (w1 : Cond.classLink own (i - 65536) r.1 ∈ re_tbl) (w2 : FieldType.object r.1 ∈ ra_aov) : ra_lok rt_cd own (i, 5, x) :=
  ⟨fun z => (by cases z), fun _ r2 h2 => by cases hr.symm.trans h2; exact ⟨w1, w2⟩, fun z => (by cases z), fun z => (by cases z), fun z => (by cases z), fun z => (by cases z), fun z => (by cases z), fun z => (by cases z), fun z => (by cases z), fun z => (by cases z)⟩
theorem rt_l16 {own : String} {i x : Nat} (w1 : Cond.methodLink own i objectInit ∈ re_tbl) (w2 : Cond.instanceMethod objectInit ∈ re_tbl) (w3 : Cond.code objectInit ⟨#[0xb1]⟩ 1 none ∈ re_tbl) : ra_lok rt_cd own (i, 16, x) :=
  ⟨fun z => (by cases z), fun z => (by cases z), fun _ => ⟨w1, w2, w3⟩, fun z => (by cases z), fun z => (by cases z), fun z => (by cases z), fun z => (by cases z), fun z => (by cases z), fun z => (by cases z), fun z => (by cases z)⟩
theorem rt_l6 {own : String} {i x : Nat} (w1 : Cond.methodLink own i arraycopyName ∈ re_tbl) (w2 : Cond.native arraycopyName ∈ re_tbl) (w3 : Cond.static arraycopyName ∈ re_tbl) (w4 : Cond.initialized "java/lang/System" ∈ re_tbl) : ra_lok rt_cd own (i, 6, x) :=
  ⟨fun z => (by cases z), fun z => (by cases z), fun z => (by cases z), fun _ => ⟨w1, w2, w3, w4⟩, fun z => (by cases z), fun z => (by cases z), fun z => (by cases z), fun z => (by cases z), fun z => (by cases z), fun z => (by cases z)⟩
theorem rt_l7 {own : String} {i x : Nat} {z9 : String × String × String × ra_V} (hr : ra_stv[x]? = some z9) (w1 : Cond.fieldLink own (i - 131072) z9.1 z9.2.1 z9.2.2.1 ∈ re_tbl) : ra_lok rt_cd own (i, 7, x) :=
  ⟨fun z => (by cases z), fun z => (by cases z), fun z => (by cases z), fun z => (by cases z), fun _ r2 h2 => by cases hr.symm.trans h2; exact w1, fun z => (by cases z), fun z => (by cases z), fun z => (by cases z), fun z => (by cases z), fun z => (by cases z)⟩
theorem rt_l8 {own host : String} {i x : Nat} {z9 : String × String × String × ra_V} (hr : ra_stv[x]? = some z9) (w1 : (own, i - 131072, z9.1, z9.2.1, z9.2.2.1, host) ∈ ra_nsf) : ra_lok rt_cd own (i, 8, x) :=
  ⟨fun z => (by cases z), fun z => (by cases z), fun z => (by cases z), fun z => (by cases z), fun z => (by cases z), fun _ r2 h2 => by cases hr.symm.trans h2; exact ⟨host, w1⟩, fun z => (by cases z), fun z => (by cases z), fun z => (by cases z), fun z => (by cases z)⟩
theorem rt_l13 {own : String} {i x : Nat} {z9 : String × Nat × String × Nat} (hr : ra_lit[x]? = some z9) (w1 : z9.1 = own ∧ z9.2.1 = i - 196608) : ra_lok rt_cd own (i, 13, x) :=
  ⟨fun z => (by cases z), fun z => (by cases z), fun z => (by cases z), fun z => (by cases z), fun z => (by cases z), fun z => (by cases z), fun _ r2 h2 => by cases hr.symm.trans h2; exact w1, fun z => (by cases z), fun z => (by cases z), fun z => (by cases z)⟩
theorem rt_l14 {own : String} {i x : Nat} (w1 : Cond.classLink own (i - 262144) ("[" ++ (FieldType.array .int).toString) ∈ re_tbl) (w2 : FieldType.array .int ∈ ra_aov) : ra_lok rt_cd own (i, 14, x) :=
  ⟨fun z => (by cases z), fun z => (by cases z), fun z => (by cases z), fun z => (by cases z), fun z => (by cases z), fun z => (by cases z), fun z => (by cases z), fun _ => ⟨w1, w2⟩, fun z => (by cases z), fun z => (by cases z)⟩
theorem rt_l15 {own : String} {i x : Nat} (w1 : Cond.classLink own (i - 65536) (FieldType.array .byte).toString ∈ re_tbl) (w2 : FieldType.array .byte ∈ ra_aov) : ra_lok rt_cd own (i, 15, x) :=
  ⟨fun z => (by cases z), fun z => (by cases z), fun z => (by cases z), fun z => (by cases z), fun z => (by cases z), fun z => (by cases z), fun z => (by cases z), fun z => (by cases z), fun _ => ⟨w1, w2⟩, fun z => (by cases z)⟩
theorem rt_l21 {own : String} {i x : Nat} (w1 : Cond.classLink own (i - 65536) "java/lang/Object" ∈ re_tbl) (w2 : FieldType.object "java/lang/Object" ∈ ra_aov) : ra_lok rt_cd own (i, 21, x) :=
  ⟨fun z => (by cases z), fun z => (by cases z), fun z => (by cases z), fun z => (by cases z), fun z => (by cases z), fun z => (by cases z), fun z => (by cases z), fun z => (by cases z), fun z => (by cases z), fun _ => ⟨w1, w2⟩⟩
/-- what a method is called by -/
def rt_Cy (M : ra_Mt) (n : Nat) : Prop := Cond.initialized (ra_My M).cls ∈ re_tbl ∧ ((ra_My M).cls ≠ "java/lang/invoke/MethodHandle" ∧ (ra_My M).cls ≠ "java/lang/invoke/VarHandle" ∧ (parseMethodDescriptor (ra_My M).desc).map (fun d => d.parameters.length) = some n) ∧ ra_cw M ∈ re_tbl
theorem rt_cw0 {M : ra_Mt} (hq : ra_Mq M = []) (h : Cond.code (ra_My M) (ra_Mc M) (ra_Mn M) (ra_Mr M) ∈ re_tbl) : ra_cw M ∈ re_tbl := by rw [ra_cw, if_pos hq]; exact h
theorem rt_cwH {M : ra_Mt} (hq : ¬ ra_Mq M = []) (h : Cond.codeWith (ra_My M) (ra_Mc M) (ra_Mn M) (ra_Mr M) (ra_tab M) ∈ re_tbl) : ra_cw M ∈ re_tbl := by rw [ra_cw, if_neg hq]; exact h
theorem rt_cno {P : List ra_Mt} {own : String} {i k t : Nat} (h : k % 8 = 0 ∨ 4 < k % 8) : ra_calok P own (i, k, t) := fun M' _ hk => by
  dsimp only at hk
  omega
theorem rt_cV {P : List ra_Mt} {own : String} {i k n t : Nat} {M : ra_Mt} (hk : k = 8 * n + 1) (hM : P[t]? = some M) (hy : rt_Cy M n) (h3 : Cond.instanceMethod (ra_My M) ∈ re_tbl) (h4 : Cond.selects (ra_My M).cls (ra_My M) (ra_My M) ∈ re_tbl) (w1 : Cond.methodLink own i (ra_My M) ∈ re_tbl) : ra_calok P own (i, k, t) := fun M' hM' _ => by
  cases hM.symm.trans hM'
  dsimp only
  have e : k / 8 = n := by omega
  exact ⟨⟨fun _ => w1, fun z => absurd z (by omega)⟩, hy.1, fun _ => ⟨h3, h4⟩, fun z => absurd z (by omega), fun z => absurd z (by omega), by rw [e]; exact hy.2.1, hy.2.2⟩
theorem rt_cS {P : List ra_Mt} {own : String} {i k n t : Nat} {M : ra_Mt} (hk : k = 8 * n + 2) (hM : P[t]? = some M) (hy : rt_Cy M n) (h3 : Cond.static (ra_My M) ∈ re_tbl) (w1 : Cond.methodLink own i (ra_My M) ∈ re_tbl) : ra_calok P own (i, k, t) := fun M' hM' _ => by
  cases hM.symm.trans hM'
  dsimp only
  have e : k / 8 = n := by omega
  exact ⟨⟨fun _ => w1, fun z => absurd z (by omega)⟩, hy.1, fun z => absurd z (by omega), fun _ => h3, fun z => absurd z (by omega), by rw [e]; exact hy.2.1, hy.2.2⟩
theorem rt_cC {P : List ra_Mt} {own : String} {i k n t : Nat} {M : ra_Mt} (hk : k = 8 * n + 3) (hM : P[t]? = some M) (hy : rt_Cy M n) (h3 : Cond.instanceMethod (ra_My M) ∈ re_tbl) (hn : (ra_My M).name = "<init>" ∧ ra_Mr M = none ∧ ra_Mq M = []) (w1 : Cond.methodLink own i (ra_My M) ∈ re_tbl) : ra_calok P own (i, k, t) := fun M' hM' _ => by
  cases hM.symm.trans hM'
  dsimp only
  have e : k / 8 = n := by omega
  exact ⟨⟨fun _ => w1, fun z => absurd z (by omega)⟩, hy.1, fun z => absurd z (by omega), fun z => absurd z (by omega), fun _ => ⟨h3, hn⟩, by rw [e]; exact hy.2.1, hy.2.2⟩
theorem rt_cN {P : List ra_Mt} {own host : String} {i k n t : Nat} {M : ra_Mt} (hk : k = 8 * n + 4) (hM : P[t]? = some M) (hy : rt_Cy M n) (h3 : Cond.instanceMethod (ra_My M) ∈ re_tbl) (hn : (ra_My M).name = "<init>" ∧ ra_Mr M = none ∧ ra_Mq M = []) (w1 : (own, i, ra_My M, host) ∈ ra_nsm) : ra_calok P own (i, k, t) := fun M' hM' _ => by
  cases hM.symm.trans hM'
  dsimp only
  have e : k / 8 = n := by omega
  exact ⟨⟨fun z => absurd (show k % 8 = 4 by omega) z, fun _ => ⟨host, w1⟩⟩, hy.1, fun z => absurd z (by omega), fun z => absurd z (by omega), fun _ => ⟨h3, hn⟩, by rw [e]; exact hy.2.1, hy.2.2⟩
/-- handlers, by their numbers -/
theorem rt_ys {ys : List Nat} {nm : String} (h : ys.all (fun e => match rb_en[e]? with
    | some E => decide ((E, nm) ∈ ra_yes)
    | none => true) = true) : ∀ e ∈ ys, ∀ E, rb_en[e]? = some E → (E, nm) ∈ ra_yes := fun e he E hE => by
  have := List.all_eq_true.mp h e he
  rw [hE] at this
  exact of_decide_eq_true this
theorem rt_ns {ns : List Nat} {nm : String} (h : ns.all (fun e => match rb_en[e]? with
    | some E => decide ((E, nm) ∉ ra_yes ∧ (E, nm) ∈ ra_no)
    | none => true) = true) : ∀ e ∈ ns, ∀ E, rb_en[e]? = some E → (E, nm) ∉ ra_yes ∧ (E, nm) ∈ ra_no := fun e he E hE => by
  have := List.all_eq_true.mp h e he
  rw [hE] at this
  exact of_decide_eq_true this
theorem rb_all_nil {α : Type} {Q : Nat → α → Prop} : ∀ (n : Nat) (k s : Nat), rb_all Q n (rb_nil α n) k s
  | 0, _, _ => rb_none
  | n + 1, _, _ => ⟨rb_all_nil n _ _, rb_all_nil n _ _⟩

set_option maxRecDepth 100000
theorem rt_kc0 : rt_Kc 0 2 RJ0 TJ0 tyJ0 := ⟨_, rfl, rfl, ⟨rfl, reJ0, tyJ0_ok, nmJ0⟩, fun j h => (by unfold tyJ0 at h; split at h <;> cases h), rt_zip (by decide +kernel)⟩
theorem rt_kc3 : rt_Kc 3 3 RJx4a65c TJx4a65c tyJx4a65c := ⟨_, rfl, rfl, ⟨rfl, reJx4a65c, tyJx4a65c_ok, nmJx4a65c⟩, fun j h => (by unfold tyJx4a65c at h; split at h <;> cases h), rt_zip (by decide +kernel)⟩
theorem rt_kc4 : rt_Kc 4 17 RX0 TX0 tyX0 := ⟨_, rfl, rfl, ⟨rfl, reX0, tyX0_ok, nmX0⟩, fun j h => (by unfold tyX0 at h; split at h <;> cases h), rt_zip (by decide +kernel)⟩
theorem rt_kc5 : rt_Kc 5 16 RX1 TX1 tyX1 := ⟨_, rfl, rfl, ⟨rfl, reX1, tyX1_ok, nmX1⟩, fun j h => (by unfold tyX1 at h; split at h <;> cases h), rt_zip (by decide +kernel)⟩
theorem rt_kc6 : rt_Kc 6 21 RX2 TX2 tyX2 := ⟨_, rfl, rfl, ⟨rfl, reX2, tyX2_ok, nmX2⟩, fun j h => (by unfold tyX2 at h; split at h <;> cases h), rt_zip (by decide +kernel)⟩
theorem rt_kc7 : rt_Kc 7 18 RX3 TX3 tyX3 := ⟨_, rfl, rfl, ⟨rfl, reX3, tyX3_ok, nmX3⟩, fun j h => (by unfold tyX3 at h; split at h <;> cases h), rt_zip (by decide +kernel)⟩
theorem rt_kc8 : rt_Kc 8 17 RX4 TX4 tyX4 := ⟨_, rfl, rfl, ⟨rfl, reX4, tyX4_ok, nmX4⟩, fun j h => (by unfold tyX4 at h; split at h <;> cases h), rt_zip (by decide +kernel)⟩
theorem rt_kc9 : rt_Kc 9 21 RX5 TX5 tyX5 := ⟨_, rfl, rfl, ⟨rfl, reX5, tyX5_ok, nmX5⟩, fun j h => (by unfold tyX5 at h; split at h <;> cases h), rt_zip (by decide +kernel)⟩
theorem rt_kc10 : rt_Kc 10 15 RX6 TX6 tyX6 := ⟨_, rfl, rfl, ⟨rfl, reX6, tyX6_ok, nmX6⟩, fun j h => (by unfold tyX6 at h; split at h <;> cases h), rt_zip (by decide +kernel)⟩
theorem rt_kc11 : rt_Kc 11 22 RX7 TX7 tyX7 := ⟨_, rfl, rfl, ⟨rfl, reX7, tyX7_ok, nmX7⟩, fun j h => (by unfold tyX7 at h; split at h <;> cases h), rt_zip (by decide +kernel)⟩
theorem rt_kc12 : rt_Kc 12 20 RX8 TX8 tyX8 := ⟨_, rfl, rfl, ⟨rfl, reX8, tyX8_ok, nmX8⟩, fun j h => (by unfold tyX8 at h; split at h <;> cases h), rt_zip (by decide +kernel)⟩
theorem rt_kc13 : rt_Kc 13 16 RX9 TX9 tyX9 := ⟨_, rfl, rfl, ⟨rfl, reX9, tyX9_ok, nmX9⟩, fun j h => (by unfold tyX9 at h; split at h <;> cases h), rt_zip (by decide +kernel)⟩
theorem rt_kc14 : rt_Kc 14 11 RX10 TX10 tyX10 := ⟨_, rfl, rfl, ⟨rfl, reX10, tyX10_ok, nmX10⟩, fun j h => (by unfold tyX10 at h; split at h <;> cases h), rt_zip (by decide +kernel)⟩
theorem rt_kc15 : rt_Kc 15 5 RX11 TX11 tyX11 := ⟨_, rfl, rfl, ⟨rfl, reX11, tyX11_ok, nmX11⟩, fun j h => (by unfold tyX11 at h; split at h <;> cases h), rt_zip (by decide +kernel)⟩
theorem rt_kc16 : rt_Kc 16 22 RX12 TX12 tyX12 := ⟨_, rfl, rfl, ⟨rfl, reX12, tyX12_ok, nmX12⟩, fun j h => (by unfold tyX12 at h; split at h <;> cases h), rt_zip (by decide +kernel)⟩
theorem rt_kc18 : rt_Kc 18 173 RX14 TX14 tyX14 := ⟨_, rfl, rfl, ⟨rfl, reX14, tyX14_ok, nmX14⟩, fun j h => (by unfold tyX14 at h; split at h <;> cases h), rt_zip (by decide +kernel)⟩
theorem rt_arr : ∀ t : FieldType, t = .byte ∨ t = .boolean ∨ t = .int ∨ t = .long ∨ t = .double → Cond.arrayClass t ∈ re_tbl := fun t h => by
  rcases h with rfl | rfl | rfl | rfl | rfl
  · exact (re_of re_t1 127 rfl rfl)
  · exact (re_of re_t1 129 rfl rfl)
  · exact (re_of re_t1 128 rfl rfl)
  · exact (re_of re_t1 130 rfl rfl)
  · exact (re_of re_t23 142 rfl rfl)
end RT
