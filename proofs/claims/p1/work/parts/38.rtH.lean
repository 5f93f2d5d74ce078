section RTH
set_option maxRecDepth 100000
/-- the two static fields that a new exception reads -/
def rt_dcl : List MethodName := [Bundle.init0 "java/lang/RuntimeException", Bundle.initS "java/lang/RuntimeException", Bundle.init0 "java/lang/Exception", Bundle.initS "java/lang/Exception", Bundle.init0 "java/lang/Throwable", Bundle.initS "java/lang/Throwable"]
def rt_Zf (A : Nat → Prop) (U : State) (H : Heap) : Prop := vx_Zq Bundle.tN "UNASSIGNED_STACK" Bundle.steD A U H ∧ vx_Zq Bundle.tN "SUPPRESSED_SENTINEL" Bundle.listD A U H ∧ ∀ y ∈ rt_dcl, va_Nw (.declares y) U
theorem rt_dm {x : MethodName} {s U : State} (h : s.vm.Alike U.vm) (hZ : va_Nw (.declares x) s) : va_Nw (.declares x) U := va_tabs rfl (rfl : (s.setVm U.vm).vm = U.vm) (by rw [Cond.declares_setVm h]; exact hZ)
theorem rt_Zok : ra_Zok rt_Zf := fun A A' u U H H1 h hvm hq hA => ⟨vx_Zq.moved hvm ((h.1.kept hq).narrow hA), vx_Zq.moved hvm ((h.2.1.kept hq).narrow hA), fun y hy => rt_dm hvm (h.2.2 y hy)⟩
def rt_nms : List String := ["java/lang/RuntimeException", "java/lang/Exception"]
/-- a list's words: in the tables, or that the class is its own -/
def rt_wd (X : String) (ws : List Cond) : Prop := ∀ w ∈ ws, (w ∈ re_tbl ∨ w = .castable X X ∨ ∃ y ∈ rt_dcl, w = .declares y) ∧ vx_ot w = true
theorem rt_wd_of {X : String} {ws : List Cond} (h : (ws.all fun w => (decide (w = .castable X X) || rt_dcl.any (fun y => decide (w = .declares y)) || (goodWord w && decide (w ∈ lw_tbl))) && vx_ot w) = true) : rt_wd X ws := fun w hw => by
  have h1 := List.all_eq_true.mp h w hw
  rw [Bool.and_eq_true, Bool.or_eq_true, Bool.or_eq_true, Bool.and_eq_true] at h1
  obtain ⟨h2, h3⟩ := h1
  refine ⟨?_, h3⟩
  rcases h2 with (h2 | h2) | ⟨h2, h4⟩
  · exact Or.inr (Or.inl (of_decide_eq_true h2))
  · obtain ⟨y, h5, h6⟩ := List.any_eq_true.mp h2
    exact Or.inr (Or.inr ⟨y, h5, of_decide_eq_true h6⟩)
  · exact Or.inl (List.mem_filter.mpr ⟨of_decide_eq_true h4, h2⟩)
theorem rt_good {w : Cond} (h : w ∈ re_tbl) : vx_ot w = true := by
  unfold vx_ot
  rw [(List.mem_filter.mp h).2, Bool.or_true]
theorem rt_wd_use {X : String} {ws : List Cond} {x0 : Cond} {args : Array Value} {s : State} (h : rt_wd X ws) (hts : ∀ w ∈ re_ws x0, w.before args s = true) (hY : ra_Yc X X s) (hZ : ∀ y ∈ rt_dcl, va_Nw (.declares y) s) : ∀ w ∈ ws, w.before args s = true := fun w hw => by
  rcases (h w hw).1 with h1 | rfl | ⟨y, hy, rfl⟩
  · exact re_hts h1 hts
  · exact hY.use
  · exact va_Nw.use rfl (hZ y hy)
theorem rt_wd_good {X : String} {ws : List Cond} {a b : Cond} (h : rt_wd X ws) (h1 : a ∈ re_tbl) (h2 : b ∈ re_tbl) : ∀ w ∈ a :: b :: ws, vx_ot w = true := fun w hw => by
  rcases List.mem_cons.mp hw with rfl | hw
  · exact rt_good h1
  · rcases List.mem_cons.mp hw with rfl | hw
    · exact rt_good h2
    · exact (h w hw).2
theorem rt_thS {M : ra_Mt} {own X text : String} {pc ik is ic : Nat} (ho : (ra_My M).cls = own) (hfit : Bundle.fit X = true) (hnm : ∀ n ∈ rt_nms, Bundle.fit n = true) (hY : (X, X) ∈ ra_yes) (w1 : Cond.classLink own ik X ∈ re_tbl) (w2 : Cond.initialized X ∈ re_tbl) (hw : rt_wd X (vx_atS own ic X rt_nms)) (ht : (own, is, text) ∈ ra_msg)
    (d0 : decode (ra_Mc M) pc = .ok (.new ik, 3)) (d3 : decode (ra_Mc M) (pc + 3) = .ok (.dup, 1)) (d4 : decode (ra_Mc M) (pc + 4) = .ok (.ldc is, 2)) (d6 : decode (ra_Mc M) (pc + 6) = .ok (.invokespecial ic, 3)) (d9 : decode (ra_Mc M) (pc + 9) = .ok (.athrow, 1)) : ra_thok rt_Zf M (pc, 0, X, 7, 90) := by
  intro _ p l e R s m args below meth c H locs cells slots ls rest D A wS Qc XC free x hexec hb hl hown hts hZ hW hV hsz hex hlk hfr hlo hc hs hXC hfree
  dsimp only at hfr hlo hXC
  rw [ho] at hown
  obtain ⟨sa, hstr⟩ := hW.2.2.2.2.2.2.2.2.2.1 _ ht
  exact vx_throwS (cc := ra_Mc M) (own := own) (cls := X) (text := text) (names := rt_nms) (ik := ik) (is := is) (ic := ic) (sa := sa) (A := A) hexec hb hl hown hfit hnm (re_hts w1 hts) (re_hts w2 hts) hstr (rt_wd_use hw hts (hW.2.2.2.2.2.2.2.1 (X, X) hY) hZ.2.2) (rt_wd_good hw w1 w2) hZ.1 hZ.2.1 hV hsz d0 d3 d4 d6 d9 (fun x hx => (hex x hx).elim) (by show 2 + 3 < R.frames; omega) (by show _ + (13 * (2 + 1) + 43) ≤ R.locals; omega) hc hs hlk hXC hfree (Nat.le_refl _) (Nat.le_refl _)
theorem rt_thW {M : ra_Mt} {own X text : String} {pc ik is ic : Nat} (ho : (ra_My M).cls = own) (hfit : Bundle.fit X = true) (hnm : ∀ n ∈ rt_nms, Bundle.fit n = true) (hY : (X, X) ∈ ra_yes) (w1 : Cond.classLink own ik X ∈ re_tbl) (w2 : Cond.initialized X ∈ re_tbl) (hw : rt_wd X (vx_atS own ic X rt_nms)) (ht : (own, is, text) ∈ ra_msg)
    (d0 : decode (ra_Mc M) pc = .ok (.new ik, 3)) (d3 : decode (ra_Mc M) (pc + 3) = .ok (.dup, 1)) (d4 : decode (ra_Mc M) (pc + 4) = .ok (.ldc_w is, 3)) (d7 : decode (ra_Mc M) (pc + 7) = .ok (.invokespecial ic, 3)) (d10 : decode (ra_Mc M) (pc + 10) = .ok (.athrow, 1)) : ra_thok rt_Zf M (pc, 0, X, 7, 90) := by
  intro _ p l e R s m args below meth c H locs cells slots ls rest D A wS Qc XC free x hexec hb hl hown hts hZ hW hV hsz hex hlk hfr hlo hc hs hXC hfree
  dsimp only at hfr hlo hXC
  rw [ho] at hown
  obtain ⟨sa, hstr⟩ := hW.2.2.2.2.2.2.2.2.2.1 _ ht
  exact vx_throwSW (cc := ra_Mc M) (own := own) (cls := X) (text := text) (names := rt_nms) (ik := ik) (is := is) (ic := ic) (sa := sa) (A := A) hexec hb hl hown hfit hnm (re_hts w1 hts) (re_hts w2 hts) hstr (rt_wd_use hw hts (hW.2.2.2.2.2.2.2.1 (X, X) hY) hZ.2.2) (rt_wd_good hw w1 w2) hZ.1 hZ.2.1 hV hsz d0 d3 d4 d7 d10 (fun x hx => (hex x hx).elim) (by show 2 + 3 < R.frames; omega) (by show _ + (13 * (2 + 1) + 43) ≤ R.locals; omega) hc hs hlk hXC hfree (Nat.le_refl _) (Nat.le_refl _)
theorem rt_th0 {M : ra_Mt} {own X : String} {pc ik ic : Nat} (ho : (ra_My M).cls = own) (hfit : Bundle.fit X = true) (hnm : ∀ n ∈ rt_nms, Bundle.fit n = true) (hY : (X, X) ∈ ra_yes) (w1 : Cond.classLink own ik X ∈ re_tbl) (w2 : Cond.initialized X ∈ re_tbl) (hw : rt_wd X (vx_at0 own ic X rt_nms))
    (d0 : decode (ra_Mc M) pc = .ok (.new ik, 3)) (d3 : decode (ra_Mc M) (pc + 3) = .ok (.dup, 1)) (d4 : decode (ra_Mc M) (pc + 4) = .ok (.invokespecial ic, 3)) (d7 : decode (ra_Mc M) (pc + 7) = .ok (.athrow, 1)) : ra_thok rt_Zf M (pc, 0, X, 7, 90) := by
  intro _ p l e R s m args below meth c H locs cells slots ls rest D A wS Qc XC free x hexec hb hl hown hts hZ hW hV hsz hex hlk hfr hlo hc hs hXC hfree
  dsimp only at hfr hlo hXC
  rw [ho] at hown
  exact vx_throw0 (cc := ra_Mc M) (own := own) (cls := X) (names := rt_nms) (ik := ik) (ic := ic) (A := A) hexec hb hl hown hfit hnm (re_hts w1 hts) (re_hts w2 hts) (rt_wd_use hw hts (hW.2.2.2.2.2.2.2.1 (X, X) hY) hZ.2.2) (rt_wd_good hw w1 w2) hZ.1 hZ.2.1 hV hsz d0 d3 d4 d7 (fun x hx => (hex x hx).elim) (by show 2 + 3 < R.frames; omega) (by show _ + (13 * (2 + 1) + 42) ≤ R.locals; omega) hc hs hlk hXC hfree (Nat.le_refl _) (Nat.le_refl _)
theorem rt_nmk {M : ra_Mt} {pc fr lo : Nat} {X : String} : ra_mkok rt_Zf M (pc, 0, X, fr, lo) := fun ci h => absurd (show 0 = ci + 1 from h) (by omega)
theorem rt_fit : ∀ n ∈ rt_nms, Bundle.fit n = true := by decide +kernel

theorem rt_wd0 : rt_wd "java/lang/IllegalArgumentException" (vx_atS "SqlStore" 115 "java/lang/IllegalArgumentException" rt_nms) := rt_wd_of (by decide +kernel)
theorem rt_h34_12 : ra_thok rt_Zf rt_34 (12, 0, "java/lang/IllegalArgumentException", 7, 90) := rt_thS (M := rt_34) (own := "SqlStore") (X := "java/lang/IllegalArgumentException") (text := "the tape has not so many bytes") (pc := 12) (ik := 111) (is := 113) (ic := 115) rfl (by decide +kernel) rt_fit (by simp [ra_yes]) (re_of re_t9 237 rfl rfl) (re_of re_t1 27 rfl rfl) rt_wd0 (List.mem_of_getElem? (i := 0) rfl) (by decide +kernel) (by decide +kernel) (by decide +kernel) (by decide +kernel) (by decide +kernel)
theorem rt_wd1 : rt_wd "java/lang/IndexOutOfBoundsException" (vx_atS "SqlStore" 167 "java/lang/IndexOutOfBoundsException" rt_nms) := rt_wd_of (by decide +kernel)
theorem rt_h40_10 : ra_thok rt_Zf rt_40 (10, 0, "java/lang/IndexOutOfBoundsException", 7, 90) := rt_thS (M := rt_40) (own := "SqlStore") (X := "java/lang/IndexOutOfBoundsException") (text := "no such slot") (pc := 10) (ik := 163) (is := 165) (ic := 167) rfl (by decide +kernel) rt_fit (by simp [ra_yes]) (re_of re_t10 25 rfl rfl) (re_of re_t1 28 rfl rfl) rt_wd1 (List.mem_of_getElem? (i := 1) rfl) (by decide +kernel) (by decide +kernel) (by decide +kernel) (by decide +kernel) (by decide +kernel)
theorem rt_wd2 : rt_wd "java/lang/IllegalStateException" (vx_at0 "SqlStore$Parser" 153 "java/lang/IllegalStateException" rt_nms) := rt_wd_of (by decide +kernel)
theorem rt_h61_0 : ra_thok rt_Zf rt_61 (0, 0, "java/lang/IllegalStateException", 7, 90) := rt_th0 (M := rt_61) (own := "SqlStore$Parser") (X := "java/lang/IllegalStateException") (pc := 0) (ik := 134) (ic := 153) rfl (by decide +kernel) rt_fit (by simp [ra_yes]) (re_of re_t6 32 rfl rfl) (re_of re_t1 26 rfl rfl) rt_wd2 (by decide +kernel) (by decide +kernel) (by decide +kernel) (by decide +kernel)
theorem rt_wd3 : rt_wd "java/lang/IllegalStateException" (vx_atS "SqlStore" 104 "java/lang/IllegalStateException" rt_nms) := rt_wd_of (by decide +kernel)
theorem rt_h80_9 : ra_thok rt_Zf rt_80 (9, 0, "java/lang/IllegalStateException", 7, 90) := rt_thS (M := rt_80) (own := "SqlStore") (X := "java/lang/IllegalStateException") (text := "the slot has no statement") (pc := 9) (ik := 100) (is := 174) (ic := 104) rfl (by decide +kernel) rt_fit (by simp [ra_yes]) (re_of re_t9 211 rfl rfl) (re_of re_t1 26 rfl rfl) rt_wd3 (List.mem_of_getElem? (i := 2) rfl) (by decide +kernel) (by decide +kernel) (by decide +kernel) (by decide +kernel) (by decide +kernel)
theorem rt_h89_9 : ra_thok rt_Zf rt_89 (9, 0, "java/lang/IndexOutOfBoundsException", 7, 90) := rt_thS (M := rt_89) (own := "SqlStore") (X := "java/lang/IndexOutOfBoundsException") (text := "no such client") (pc := 9) (ik := 163) (is := 176) (ic := 167) rfl (by decide +kernel) rt_fit (by simp [ra_yes]) (re_of re_t10 25 rfl rfl) (re_of re_t1 28 rfl rfl) rt_wd1 (List.mem_of_getElem? (i := 3) rfl) (by decide +kernel) (by decide +kernel) (by decide +kernel) (by decide +kernel) (by decide +kernel)
theorem rt_h109_18 : ra_thok rt_Zf rt_109 (18, 0, "java/lang/IndexOutOfBoundsException", 7, 90) := rt_thW (M := rt_109) (own := "SqlStore") (X := "java/lang/IndexOutOfBoundsException") (text := "no such row") (pc := 18) (ik := 163) (is := 366) (ic := 167) rfl (by decide +kernel) rt_fit (by simp [ra_yes]) (re_of re_t10 25 rfl rfl) (re_of re_t1 28 rfl rfl) rt_wd1 (List.mem_of_getElem? (i := 4) rfl) (by decide +kernel) (by decide +kernel) (by decide +kernel) (by decide +kernel) (by decide +kernel)
theorem rt_h187_37 : ra_thok rt_Zf rt_187 (37, 0, "java/lang/IndexOutOfBoundsException", 7, 90) := rt_thW (M := rt_187) (own := "SqlStore") (X := "java/lang/IndexOutOfBoundsException") (text := "no such page") (pc := 37) (ik := 163) (is := 444) (ic := 167) rfl (by decide +kernel) rt_fit (by simp [ra_yes]) (re_of re_t10 25 rfl rfl) (re_of re_t1 28 rfl rfl) rt_wd1 (List.mem_of_getElem? (i := 6) rfl) (by decide +kernel) (by decide +kernel) (by decide +kernel) (by decide +kernel) (by decide +kernel)
theorem rt_h187_59 : ra_thok rt_Zf rt_187 (59, 0, "java/lang/IndexOutOfBoundsException", 7, 90) := rt_thW (M := rt_187) (own := "SqlStore") (X := "java/lang/IndexOutOfBoundsException") (text := "no such place") (pc := 59) (ik := 163) (is := 382) (ic := 167) rfl (by decide +kernel) rt_fit (by simp [ra_yes]) (re_of re_t10 25 rfl rfl) (re_of re_t1 28 rfl rfl) rt_wd1 (List.mem_of_getElem? (i := 5) rfl) (by decide +kernel) (by decide +kernel) (by decide +kernel) (by decide +kernel) (by decide +kernel)
theorem rt_h194_12 : ra_thok rt_Zf rt_194 (12, 0, "java/lang/IndexOutOfBoundsException", 7, 90) := rt_thW (M := rt_194) (own := "SqlStore") (X := "java/lang/IndexOutOfBoundsException") (text := "no such tree") (pc := 12) (ik := 163) (is := 453) (ic := 167) rfl (by decide +kernel) rt_fit (by simp [ra_yes]) (re_of re_t10 25 rfl rfl) (re_of re_t1 28 rfl rfl) rt_wd1 (List.mem_of_getElem? (i := 7) rfl) (by decide +kernel) (by decide +kernel) (by decide +kernel) (by decide +kernel) (by decide +kernel)
theorem rt_h229_27 : ra_thok rt_Zf rt_229 (27, 0, "java/lang/IllegalArgumentException", 7, 90) := rt_thW (M := rt_229) (own := "SqlStore") (X := "java/lang/IllegalArgumentException") (text := "so many are not \x75nsafe") (pc := 27) (ik := 111) (is := 483) (ic := 115) rfl (by decide +kernel) rt_fit (by simp [ra_yes]) (re_of re_t9 237 rfl rfl) (re_of re_t1 27 rfl rfl) rt_wd0 (List.mem_of_getElem? (i := 8) rfl) (by decide +kernel) (by decide +kernel) (by decide +kernel) (by decide +kernel) (by decide +kernel)
theorem rt_h229_53 : ra_thok rt_Zf rt_229 (53, 0, "java/lang/IllegalArgumentException", 7, 90) := rt_thW (M := rt_229) (own := "SqlStore") (X := "java/lang/IllegalArgumentException") (text := "so many would not be copied") (pc := 53) (ik := 111) (is := 488) (ic := 115) rfl (by decide +kernel) rt_fit (by simp [ra_yes]) (re_of re_t9 237 rfl rfl) (re_of re_t1 27 rfl rfl) rt_wd0 (List.mem_of_getElem? (i := 9) rfl) (by decide +kernel) (by decide +kernel) (by decide +kernel) (by decide +kernel) (by decide +kernel)
theorem rt_h238_10 : ra_thok rt_Zf rt_238 (10, 0, "java/lang/IllegalStateException", 7, 90) := rt_thW (M := rt_238) (own := "SqlStore") (X := "java/lang/IllegalStateException") (text := "the database is open") (pc := 10) (ik := 100) (is := 495) (ic := 104) rfl (by decide +kernel) rt_fit (by simp [ra_yes]) (re_of re_t9 211 rfl rfl) (re_of re_t1 26 rfl rfl) rt_wd3 (List.mem_of_getElem? (i := 10) rfl) (by decide +kernel) (by decide +kernel) (by decide +kernel) (by decide +kernel) (by decide +kernel)
theorem rt_h241_10 : ra_thok rt_Zf rt_241 (10, 0, "java/lang/IllegalStateException", 7, 90) := rt_thW (M := rt_241) (own := "SqlStore") (X := "java/lang/IllegalStateException") (text := "the database is open") (pc := 10) (ik := 100) (is := 495) (ic := 104) rfl (by decide +kernel) rt_fit (by simp [ra_yes]) (re_of re_t9 211 rfl rfl) (re_of re_t1 26 rfl rfl) rt_wd3 (List.mem_of_getElem? (i := 10) rfl) (by decide +kernel) (by decide +kernel) (by decide +kernel) (by decide +kernel) (by decide +kernel)
theorem rt_h252_27 : ra_thok rt_Zf rt_252 (27, 0, "java/lang/IndexOutOfBoundsException", 7, 90) := rt_thW (M := rt_252) (own := "SqlStore") (X := "java/lang/IndexOutOfBoundsException") (text := "no such place") (pc := 27) (ik := 163) (is := 382) (ic := 167) rfl (by decide +kernel) rt_fit (by simp [ra_yes]) (re_of re_t10 25 rfl rfl) (re_of re_t1 28 rfl rfl) rt_wd1 (List.mem_of_getElem? (i := 5) rfl) (by decide +kernel) (by decide +kernel) (by decide +kernel) (by decide +kernel) (by decide +kernel)
theorem rt_h255_10 : ra_thok rt_Zf rt_255 (10, 0, "java/lang/IndexOutOfBoundsException", 7, 90) := rt_thW (M := rt_255) (own := "SqlStore") (X := "java/lang/IndexOutOfBoundsException") (text := "no such page") (pc := 10) (ik := 163) (is := 444) (ic := 167) rfl (by decide +kernel) rt_fit (by simp [ra_yes]) (re_of re_t10 25 rfl rfl) (re_of re_t1 28 rfl rfl) rt_wd1 (List.mem_of_getElem? (i := 6) rfl) (by decide +kernel) (by decide +kernel) (by decide +kernel) (by decide +kernel) (by decide +kernel)
theorem rt_h255_32 : ra_thok rt_Zf rt_255 (32, 0, "java/lang/IndexOutOfBoundsException", 7, 90) := rt_thW (M := rt_255) (own := "SqlStore") (X := "java/lang/IndexOutOfBoundsException") (text := "no such place") (pc := 32) (ik := 163) (is := 382) (ic := 167) rfl (by decide +kernel) rt_fit (by simp [ra_yes]) (re_of re_t10 25 rfl rfl) (re_of re_t1 28 rfl rfl) rt_wd1 (List.mem_of_getElem? (i := 5) rfl) (by decide +kernel) (by decide +kernel) (by decide +kernel) (by decide +kernel) (by decide +kernel)
end RTH
