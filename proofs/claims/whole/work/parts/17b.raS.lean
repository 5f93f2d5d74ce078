section RAS
/-- static fields that are read: class, name, type, what stands there (3: a cell that is only read, by its place) -/
def ra_stv : List (String × String × String × ra_V) := [("SqlStore", "NO_BYTES", "[B", (3, 0, 0)), ("java/util/ArrayList", "DEFAULTCAPACITY_EMPTY_ELEMENTDATA", "[Ljava/lang/Object;", (3, 1, 0)), ("SqlStoreModel", "WORDS", "[Ljava/lang/String;", (3, 2, 0)), ("java/lang/String", "COMPACT_STRINGS", "Z", (0, 1, 1)), ("jdk/internal/util/Preconditions", "SIOOBE_FORMATTER", "Ljava/util/function/BiFunction;", (8, 0, 0))]
/-- texts that are loaded: class, entry, text, the cell's place -/
def ra_lit : List (String × Nat × String × Nat) := []
/-- links to nest mates' fields and methods -/
def ra_nsf : List (String × Nat × String × String × String × String) := []
def ra_nsm : List (String × Nat × MethodName × String) := []
def ra_Sx (A : Nat → Prop) (s : State) (H : Heap) (sa : List Nat) : Prop :=
  (∀ q ∈ ra_stv, ∃ v, va_Z q.1 q.2.1 q.2.2.1 v A s H ∧ ra_R sa q.2.2.2 v) ∧ (∀ q ∈ ra_lit, ∃ a, vk_R q.1 q.2.1 q.2.2.1 a s ∧ sa[q.2.2.2]? = some a) ∧
  (∀ q ∈ ra_nsf, va_Nw (.fieldLinkNest q.1 q.2.1 q.2.2.1 q.2.2.2.1 q.2.2.2.2.1 q.2.2.2.2.2) s) ∧ (∀ q ∈ ra_nsm, va_Nw (.methodLinkNest q.1 q.2.1 q.2.2.1 q.2.2.2) s)
theorem ra_Sx_call {A B : Nat → Prop} {s U : State} {H H1 : Heap} {sa : List Nat} (h : ra_Sx A s H sa) (hW : s.WarmedH U.vm) (hq : ∀ a : Nat, a < H.size → ¬ A a → H1[a]? = H[a]?) (hAB : ∀ q, B q → A q) : ra_Sx B U H1 sa := by
  refine ⟨fun q h1 => ?_, fun q h1 => ?_, fun q h1 => va_Nw.warmF hW (h.2.2.1 q h1), fun q h1 => va_Nw.warmM hW (h.2.2.2 q h1)⟩
  · obtain ⟨v, h2, h3⟩ := h.1 q h1
    exact ⟨v, va_Z.moved hW.alike ((h2.kept hq).narrow hAB), h3⟩
  · obtain ⟨a, h2, h3⟩ := h.2.1 q h1
    exact ⟨a, h2.warm hW, h3⟩
theorem ra_Sx_same {A : Nat → Prop} {s U : State} {H : Heap} {sa : List Nat} (hv : U.vm = s.vm) (h : ra_Sx A s H sa) : ra_Sx A U H sa := by
  refine ⟨fun q h1 => ?_, fun q h1 => ?_, fun q h1 => va_Nw.same rfl hv.symm (h.2.2.1 q h1), fun q h1 => va_Nw.same rfl hv.symm (h.2.2.2 q h1)⟩
  · obtain ⟨v, h2, h3⟩ := h.1 q h1
    exact ⟨v, va_Z.moved (by rw [hv]; exact Vm.Alike.refl _) h2, h3⟩
  · obtain ⟨a, h2, h3⟩ := h.2.1 q h1
    exact ⟨a, vk_R.same hv h2, h3⟩
end RAS
