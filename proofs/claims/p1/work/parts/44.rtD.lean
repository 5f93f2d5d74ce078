section RTD
set_option maxRecDepth 100000
/-- the texts that the run reads: who loads them, by which entry, their letters -/
def rt_tx9 : List (String × Nat × List Int32) := [("SqlStore$Parser", 52, [97, 98, 115, 32, 97, 108, 108, 32, 97, 110, 100, 32, 97, 115, 32, 98, 101, 103, 105, 110, 32, 98, 101, 116, 119, 101, 101, 110, 32, 98, 121, 32, 99, 97, 115, 99, 97, 100, 101, 32, 99, 97, 115, 101, 32, 99, 104, 101, 99, 107, 32, 99, 111, 97, 108, 101, 115, 99, 101, 32, 99, 111, 109, 109, 105, 116, 32, 99, 111, 117, 110, 116, 32, 99, 114, 101, 97, 116, 101, 32, 100, 101, 102, 97, 117, 108, 116, 32, 100, 101, 108, 101, 116, 101, 32, 100, 101, 115, 99, 32, 100, 105, 115, 116, 105, 110, 99, 116, 32, 100, 114, 111, 112, 32, 101, 108, 115, 101, 32, 101, 110, 100, 32, 101, 120, 99, 101, 112, 116, 32, 101, 120, 105, 115, 116, 115, 32, 102, 114, 111, 109, 32, 103, 114, 111, 117, 112, 32, 104, 97, 118, 105, 110, 103, 32, 105, 103, 110, 111, 114, 101, 32, 105, 110, 32, 105, 110, 100, 101, 120, 32, 105, 110, 115, 101, 114, 116, 32, 105, 110, 116, 32, 105, 110, 116, 101, 114, 115, 101, 99, 116, 32, 105, 110, 116, 111, 32, 105, 115, 32, 106, 111, 105, 110, 32, 108, 101, 102, 116, 32, 108, 101, 110, 103, 116, 104, 32, 108, 105, 107, 101, 32, 108, 105, 109, 105, 116, 32, 109, 97, 120, 32, 109, 105, 110, 32, 110, 111, 116, 32, 110, 117, 108, 108, 32, 111, 102, 102, 115, 101, 116, 32, 111, 110, 32, 111, 114, 32, 111, 114, 100, 101, 114, 32, 114, 101, 102, 101, 114, 101, 110, 99, 101, 115, 32, 114, 101, 108, 101, 97, 115, 101, 32, 114, 101, 112, 108, 97, 99, 101, 32, 114, 111, 108, 108, 98, 97, 99, 107, 32, 115, 97, 118, 101, 112, 111, 105, 110, 116, 32, 115, 101, 108, 101, 99, 116, 32, 115, 101, 116, 32, 115, 117, 98, 115, 116, 114, 32, 115, 117, 109, 32, 116, 97, 98, 108, 101, 32, 116, 101, 120, 116, 32, 116, 104, 101, 110, 32, 116, 111, 32, 117, 110, 105, 111, 110, 32, 117, 110, 105, 113, 117, 101, 32, 117, 112, 100, 97, 116, 101, 32, 118, 97, 108, 117, 101, 115, 32, 118, 105, 101, 119, 32, 119, 104, 101, 110, 32, 119, 104, 101, 114, 101, 32]), ("SqlStoreModel", 1461, [97, 98, 115]), ("SqlStoreModel", 1463, [97, 108, 108]), ("SqlStoreModel", 1465, [97, 110, 100]), ("SqlStoreModel", 1466, [97, 115]), ("SqlStoreModel", 1468, [98, 101, 103, 105, 110]), ("SqlStoreModel", 1469, [98, 101, 116, 119, 101, 101, 110]), ("SqlStoreModel", 1470, [98, 121]), ("SqlStoreModel", 1472, [99, 97, 115, 99, 97, 100, 101]), ("SqlStoreModel", 1474, [99, 97, 115, 101]), ("SqlStoreModel", 1476, [99, 104, 101, 99, 107]), ("SqlStoreModel", 1477, [99, 111, 97, 108, 101, 115, 99, 101]), ("SqlStoreModel", 1479, [99, 111, 109, 109, 105, 116]), ("SqlStoreModel", 1481, [99, 111, 117, 110, 116]), ("SqlStoreModel", 1483, [99, 114, 101, 97, 116, 101]), ("SqlStoreModel", 1484, [100, 101, 102, 97, 117, 108, 116]), ("SqlStoreModel", 1486, [100, 101, 108, 101, 116, 101]), ("SqlStoreModel", 1487, [100, 101, 115, 99]), ("SqlStoreModel", 1489, [100, 105, 115, 116, 105, 110, 99, 116]), ("SqlStoreModel", 1491, [100, 114, 111, 112]), ("SqlStoreModel", 1492, [101, 108, 115, 101]), ("SqlStoreModel", 1494, [101, 110, 100]), ("SqlStoreModel", 1495, [101, 120, 99, 101, 112, 116]), ("SqlStoreModel", 1497, [101, 120, 105, 115, 116, 115]), ("SqlStoreModel", 1499, [102, 114, 111, 109]), ("SqlStoreModel", 1500, [103, 114, 111, 117, 112]), ("SqlStoreModel", 1502, [104, 97, 118, 105, 110, 103]), ("SqlStoreModel", 1504, [105, 103, 110, 111, 114, 101]), ("SqlStoreModel", 1506, [105, 110]), ("SqlStoreModel", 1508, [105, 110, 100, 101, 120]), ("SqlStoreModel", 1510, [105, 110, 115, 101, 114, 116]), ("SqlStoreModel", 1511, [105, 110, 116]), ("SqlStoreModel", 1513, [105, 110, 116, 101, 114, 115, 101, 99, 116]), ("SqlStoreModel", 1515, [105, 110, 116, 111]), ("SqlStoreModel", 1517, [105, 115]), ("SqlStoreModel", 1519, [106, 111, 105, 110]), ("SqlStoreModel", 1521, [108, 101, 102, 116]), ("SqlStoreModel", 1523, [108, 101, 110, 103, 116, 104]), ("SqlStoreModel", 1524, [108, 105, 107, 101]), ("SqlStoreModel", 1526, [108, 105, 109, 105, 116]), ("SqlStoreModel", 1528, [109, 97, 120]), ("SqlStoreModel", 1529, [109, 105, 110]), ("SqlStoreModel", 1530, [110, 111, 116]), ("SqlStoreModel", 1532, [110, 117, 108, 108]), ("SqlStoreModel", 1534, [111, 102, 102, 115, 101, 116]), ("SqlStoreModel", 1536, [111, 110]), ("SqlStoreModel", 1538, [111, 114]), ("SqlStoreModel", 1540, [111, 114, 100, 101, 114]), ("SqlStoreModel", 1541, [114, 101, 102, 101, 114, 101, 110, 99, 101, 115]), ("SqlStoreModel", 1543, [114, 101, 108, 101, 97, 115, 101]), ("SqlStoreModel", 1544, [114, 101, 112, 108, 97, 99, 101]), ("SqlStoreModel", 1546, [114, 111, 108, 108, 98, 97, 99, 107]), ("SqlStoreModel", 1548, [115, 97, 118, 101, 112, 111, 105, 110, 116]), ("SqlStoreModel", 1550, [115, 101, 108, 101, 99, 116]), ("SqlStoreModel", 1552, [115, 101, 116]), ("SqlStoreModel", 1554, [115, 117, 98, 115, 116, 114]), ("SqlStoreModel", 1556, [115, 117, 109]), ("SqlStoreModel", 1558, [116, 97, 98, 108, 101]), ("SqlStoreModel", 1560, [116, 101, 120, 116]), ("SqlStoreModel", 1562, [116, 104, 101, 110]), ("SqlStoreModel", 1564, [116, 111]), ("SqlStoreModel", 1566, [117, 110, 105, 111, 110]), ("SqlStoreModel", 1568, [117, 110, 105, 113, 117, 101]), ("SqlStoreModel", 1570, [117, 112, 100, 97, 116, 101]), ("SqlStoreModel", 1571, [118, 97, 108, 117, 101, 115]), ("SqlStoreModel", 1572, [118, 105, 101, 119]), ("SqlStoreModel", 1573, [119, 104, 101, 110]), ("SqlStoreModel", 1575, [119, 104, 101, 114, 101])]
def rt_Aw : List ra_E := (1, 1, 0, (0, 0, 0), [], []) :: (3, 7, 0, (4, 0, 0), [], []) :: (3, 8, 67, (4, 0, 0), rt_wx 0 67, []) :: rt_As 0 rt_tx9
noncomputable def rt_chk : (n : Nat) → rb_T ra_E n → Nat → Nat → Bool
  | 0, t, k0, _ => Option.rec (motive := fun _ => Bool) true (fun f => Option.rec (motive := fun _ => Bool) false (fun e => rb_i (rb_eqe f e) (Nat.blt f.2.1 9) false) (rt_Aw[k0]?)) (t : Option ra_E)
  | n + 1, t, k0, s => rb_i (rt_chk n t.1 k0 (2 * s)) (rt_chk n t.2 (k0 + s) (2 * s)) false
theorem rt_chk_all : ∀ {n : Nat} {t : rb_T ra_E n} {k0 s : Nat}, rt_chk n t k0 s = true → rb_all (fun k f => rt_Aw[k]? = some f ∧ f.2.1 < 9) n t k0 s
  | 0, t, k0, s, h => fun x hx => by
    have h : Option.rec (motive := fun _ => Bool) true (fun f => Option.rec (motive := fun _ => Bool) false (fun e => rb_i (rb_eqe f e) (Nat.blt f.2.1 9) false) (rt_Aw[k0]?)) (t : Option ra_E) = true := h
    rw [hx] at h
    have h : Option.rec (motive := fun _ => Bool) false (fun e => rb_i (rb_eqe x e) (Nat.blt x.2.1 9) false) (rt_Aw[k0]?) = true := h
    cases hk : rt_Aw[k0]? with
    | none => rw [hk] at h; cases h
    | some e =>
      rw [hk] at h
      obtain ⟨h1, h2⟩ := rb_an_t (show rb_i (rb_eqe x e) (Nat.blt x.2.1 9) false = true from h)
      exact ⟨by rw [rb_eqe_t h1]; exact hk, Nat.le_of_ble_eq_true h2⟩
  | n + 1, t, k0, s, h => by
    obtain ⟨h1, h2⟩ := rb_an_t (show rb_i (rt_chk n t.1 k0 (2 * s)) (rt_chk n t.2 (k0 + s) (2 * s)) false = true from h)
    exact ⟨rt_chk_all h1, rt_chk_all h2⟩
theorem rt_chk0 : rt_chk 11 rt_T0 0 1 = true := by decide +kernel
def rt_ta : List FieldType := [.int, .byte, .int, .int, .int, .int, .int, .object "java/lang/Object", .object "java/lang/String"]
theorem rt_tag : ∀ k : Nat, k < 9 → (k = 1 ∨ k = 7 ∨ k = 8) → ∃ ty, rt_ta[k]? = some ty ∧ rb_tys[k]? = some ty := fun k _ h => by
  rcases h with rfl | rfl | rfl <;> exact ⟨_, rfl, rfl⟩
theorem rt_Awlen : rt_Aw.length = 139 := by decide +kernel
theorem rt_Awt : ∀ f ∈ rt_Aw, ¬ f.1 = 0 → (f.2.1 = 1 ∨ f.2.1 = 7 ∨ f.2.1 = 8) := fun f hf => by
  have h : rt_Aw.all (fun f => decide (f.1 = 0) || (decide (f.2.1 = 1) || (decide (f.2.1 = 7) || decide (f.2.1 = 8)))) = true := by decide +kernel
  have h := List.all_eq_true.mp h f hf
  simp only [Bool.or_eq_true, decide_eq_true_eq] at h
  intro h0
  exact h.resolve_left h0
theorem rt_Rel0 (e : ra_E) : rb_Rel rt_T0 140 (rt_Aw ++ [e]) rt_ta := by
  refine ⟨by rw [List.length_append, rt_Awlen]; rfl, fun k f hk => ?_⟩
  obtain ⟨h1, h2⟩ := rb_all0 (rt_chk_all rt_chk0) hk
  have hl : k < rt_Aw.length := (List.getElem?_eq_some_iff.mp h1).1
  exact ⟨f, by rw [List.getElem?_append_left hl]; exact h1, rfl, rfl, fun _ => rfl, fun h0 => rt_tag _ h2 (rt_Awt f (List.mem_of_getElem? h1) h0)⟩
def rt_tm (q : String × Nat × List Int32) : Term := .string q.1 q.2.1
def rt_tW : Term := .static "SqlStoreModel" "WORDS" "[Ljava/lang/String;"
def rt_we : Nat → List (String × Nat × List Int32) → List Cond
  | _, [] => []
  | j, q :: L => .eq (.elem rt_tW (.int (Int32.ofNat j))) (rt_tm q) :: rt_we (j + 1) L
theorem rt_we_in : ∀ {L : List (String × Nat × List Int32)} {j0 j : Nat} {z : String × Nat × List Int32}, L[j]? = some z → Cond.eq (.elem rt_tW (.int (Int32.ofNat (j0 + j)))) (rt_tm z) ∈ rt_we j0 L
  | [], _, _, _, h => by simp at h
  | q :: L, j0, 0, z, h => by
    simp only [List.getElem?_cons_zero, Option.some.injEq] at h
    subst h
    exact List.mem_cons_self
  | q :: L, j0, j + 1, z, h => by
    rw [List.getElem?_cons_succ] at h
    have h1 := rt_we_in (j0 := j0 + 1) h
    rw [show j0 + 1 + j = j0 + (j + 1) by omega] at h1
    exact List.mem_cons_of_mem _ h1
/-- all that the start says of these texts -/
def rt_wds : List Cond := rt_we 0 rt_tx9.tail ++ rt_tx9.flatMap (fun q => rt_txw (rt_tm q) q.2.2)
theorem rt_wds_in : ∀ w ∈ rt_wds, w ∈ flatC (Jvm.Cond.and given_1 narrow_1) := re_sub_in _ _ (by decide +kernel)
theorem rt_tx_len : rt_tx9.length = 68 := by decide +kernel
theorem rt_tx_ok : ∀ q ∈ rt_tx9, q.2.2.length < 2 ^ 31 ∧ ∀ x ∈ q.2.2, fits .byte (.int x) = true := fun q hq => by
  have h : rt_tx9.all (fun q => decide (q.2.2.length < 2 ^ 31) && q.2.2.all (fun x => fits .byte (.int x))) = true := by decide +kernel
  have h := List.all_eq_true.mp h q hq
  rw [Bool.and_eq_true, decide_eq_true_eq] at h
  exact ⟨h.1, List.all_eq_true.mp h.2⟩
end RTD
