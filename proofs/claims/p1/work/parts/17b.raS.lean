section RAS
/-- static fields that are read: class, name, type, what stands there (3: a cell that is only read, by its place) -/
def ra_stv : List (String × String × String × ra_V) := [("SqlStore", "NO_BYTES", "[B", (3, 0, 0)), ("java/util/ArrayList", "DEFAULTCAPACITY_EMPTY_ELEMENTDATA", "[Ljava/lang/Object;", (3, 1, 0)), ("SqlStoreModel", "WORDS", "[Ljava/lang/String;", (3, 2, 0)), ("java/lang/String", "COMPACT_STRINGS", "Z", (0, 1, 1)), ("jdk/internal/util/Preconditions", "SIOOBE_FORMATTER", "Ljava/util/function/BiFunction;", (8, 0, 0))]
/-- texts that are loaded: class, entry, text, the cell's place -/
def ra_lit : List (String × Nat × String × Nat) := [("SqlStore$Parser", 52, "abs all and as begin between by cascade case check coalesce commit count create default delete desc distinct drop else end except exists from group having ignore in index insert int intersect into is join left length like limit max min not null offset on or order references release replace rollback savepoint select set substr sum table text then to union unique update values view when where ", 3)]
/-- links to nest mates' fields and methods -/
def ra_nsf : List (String × Nat × String × String × String × String) := [("SqlStore$Value", 9, "SqlStore", "NO_BYTES", "[B", "SqlStore"), ("SqlStore$Changer", 9, "SqlStore", "NO_BYTES", "[B", "SqlStore"), ("SqlStore$Tree", 88, "SqlStore", "NO_BYTES", "[B", "SqlStore")]
def ra_nsm : List (String × Nat × MethodName × String) := [("SqlStore", 48, ⟨"SqlStore$Tree", "<init>", "()V"⟩, "SqlStore"), ("SqlStore$Parser", 11, ⟨"SqlStore$Statement", "<init>", "()V"⟩, "SqlStore"), ("SqlStore$Checker", 17, ⟨"SqlStore$Definition", "<init>", "()V"⟩, "SqlStore"), ("SqlStore$Definition", 43, ⟨"SqlStore$Select", "<init>", "()V"⟩, "SqlStore"), ("SqlStore$Source", 23, ⟨"SqlStore$Value", "<init>", "()V"⟩, "SqlStore"), ("SqlStore$Runner", 24, ⟨"SqlStore$Value", "<init>", "()V"⟩, "SqlStore"), ("SqlStore$Changer", 58, ⟨"SqlStore$Value", "<init>", "()V"⟩, "SqlStore"), ("SqlStore", 90, ⟨"SqlStore$Value", "<init>", "()V"⟩, "SqlStore"), ("SqlStore$Parser", 162, ⟨"SqlStore$Node", "<init>", "()V"⟩, "SqlStore"), ("SqlStore$Node", 9, ⟨"SqlStore$Value", "<init>", "()V"⟩, "SqlStore"), ("SqlStoreModel", 404, ⟨"SqlStoreModel$Stop", "<init>", "()V"⟩, "SqlStoreModel")]
/-- texts of exceptions -/
def ra_msg : List (String × Nat × String) := [("SqlStore", 113, "the tape has not so many bytes"), ("SqlStore", 165, "no such slot"), ("SqlStore", 174, "the slot has no statement"), ("SqlStore", 176, "no such client"), ("SqlStore", 366, "no such row"), ("SqlStore", 382, "no such place"), ("SqlStore", 444, "no such page"), ("SqlStore", 453, "no such tree"), ("SqlStore", 483, "so many are not \x75nsafe"), ("SqlStore", 488, "so many would not be copied"), ("SqlStore", 495, "the database is open")]
/-- types of rows of rows and of objects -/
def ra_aov : List FieldType := [.array .byte, .array .int, .object "SqlStore$Definition", .object "SqlStore$Node", .object "SqlStore$Value", .object "java/lang/Object"]
def ra_Sx (A : Nat → Prop) (s : State) (H : Heap) (sa : List Nat) : Prop :=
  (∀ q ∈ ra_stv, ∃ v, va_Z q.1 q.2.1 q.2.2.1 v A s H ∧ ra_R sa q.2.2.2 v) ∧ (∀ q ∈ ra_lit, ∃ a, vk_R q.1 q.2.1 q.2.2.1 a s ∧ sa[q.2.2.2]? = some a) ∧
  (∀ q ∈ ra_nsf, va_Nw (.fieldLinkNest q.1 q.2.1 q.2.2.1 q.2.2.2.1 q.2.2.2.2.1 q.2.2.2.2.2) s) ∧ (∀ q ∈ ra_nsm, va_Nw (.methodLinkNest q.1 q.2.1 q.2.2.1 q.2.2.2) s) ∧ (∀ q ∈ ra_yes, ra_Yc q.1 q.2 s) ∧ (∀ q ∈ ra_no, va_Nc q.1 q.2 s) ∧ (∀ q ∈ ra_msg, ∃ a, vk_R q.1 q.2.1 q.2.2 a s) ∧ (∀ t ∈ ra_aov, ra_Ao t s)
theorem ra_Sx_call {A B : Nat → Prop} {s U : State} {H H1 : Heap} {sa : List Nat} (h : ra_Sx A s H sa) (hW : s.WarmedH U.vm) (hq : ∀ a : Nat, a < H.size → ¬ A a → H1[a]? = H[a]?) (hAB : ∀ q, B q → A q) : ra_Sx B U H1 sa := by
  refine ⟨fun q h1 => ?_, fun q h1 => ?_, fun q h1 => va_Nw.warmF hW (h.2.2.1 q h1), fun q h1 => va_Nw.warmM hW (h.2.2.2.1 q h1), fun q h1 => ra_Yc.moved hW.alike (h.2.2.2.2.1 q h1), fun q h1 => va_Nc.moved hW.alike (h.2.2.2.2.2.1 q h1), fun q h1 => ?_, fun q h1 => ra_Ao.moved hW.alike (h.2.2.2.2.2.2.2 q h1)⟩
  · obtain ⟨v, h2, h3⟩ := h.1 q h1
    exact ⟨v, va_Z.moved hW.alike ((h2.kept hq).narrow hAB), h3⟩
  · obtain ⟨a, h2, h3⟩ := h.2.1 q h1
    exact ⟨a, h2.warm hW, h3⟩
  · obtain ⟨a, h2⟩ := h.2.2.2.2.2.2.1 q h1
    exact ⟨a, h2.warm hW⟩
theorem ra_Sx_same {A : Nat → Prop} {s U : State} {H : Heap} {sa : List Nat} (hv : U.vm = s.vm) (h : ra_Sx A s H sa) : ra_Sx A U H sa := by
  refine ⟨fun q h1 => ?_, fun q h1 => ?_, fun q h1 => va_Nw.same rfl hv.symm (h.2.2.1 q h1), fun q h1 => va_Nw.same rfl hv.symm (h.2.2.2.1 q h1), fun q h1 => ra_Yc.moved (by rw [hv]; exact Vm.Alike.refl _) (h.2.2.2.2.1 q h1), fun q h1 => va_Nc.moved (by rw [hv]; exact Vm.Alike.refl _) (h.2.2.2.2.2.1 q h1), fun q h1 => ?_, fun q h1 => ra_Ao.moved (by rw [hv]; exact Vm.Alike.refl _) (h.2.2.2.2.2.2.2 q h1)⟩
  · obtain ⟨v, h2, h3⟩ := h.1 q h1
    exact ⟨v, va_Z.moved (by rw [hv]; exact Vm.Alike.refl _) h2, h3⟩
  · obtain ⟨a, h2, h3⟩ := h.2.1 q h1
    exact ⟨a, vk_R.same hv h2, h3⟩
  · obtain ⟨a, h2⟩ := h.2.2.2.2.2.2.1 q h1
    exact ⟨a, vk_R.same hv h2⟩
end RAS
