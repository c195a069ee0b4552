def RX0 : String := "LargePages$Asker"
def TX0 : u_T := fun k => match k with
  | 0 => ("LargePages$Asker", "names", "[I", true)
  | _ => ("LargePages$Asker", "stack", "[J", true)
def tyX0 : Nat → FieldType := fun k => match k with
  | 0 => .array .int
  | _ => .array .long
abbrev wsX00 : List Cond := u_ws RX0 TX0 2
theorem nmX0 : ∀ a, a < 2 → ∀ b, b < 2 → a ≠ b → (TX0 a).2.1 ≠ (TX0 b).2.1 := by decide +kernel
theorem tyX0_ok : ∀ k, k < 2 → parseFieldDescriptor (TX0 k).2.2.1 = some (tyX0 k) := by decide +kernel
def RX1 : String := "LargePages$Keeper"
def TX1 : u_T := fun k => match k with
  | 0 => ("LargePages$Keeper", "world", "LLargePages$World;", true)
  | 1 => ("LargePages$Keeper", "told", "LLargePages$Told;", true)
  | 2 => ("LargePages$Keeper", "asker", "LLargePages$Asker;", true)
  | 3 => ("LargePages$Keeper", "pinned", "I", false)
  | 4 => ("LargePages$Keeper", "plannedSpan", "I", false)
  | 5 => ("LargePages$Keeper", "plannedSlot", "I", false)
  | 6 => ("LargePages$Keeper", "plannedFrame", "I", false)
  | _ => ("LargePages$Keeper", "plannedVictim", "I", false)
def tyX1 : Nat → FieldType := fun k => match k with
  | 0 => .object "LargePages$World"
  | 1 => .object "LargePages$Told"
  | 2 => .object "LargePages$Asker"
  | 3 => .int
  | 4 => .int
  | 5 => .int
  | 6 => .int
  | _ => .int
abbrev wsX10 : List Cond := u_ws RX1 TX1 8
theorem nmX1 : ∀ a, a < 8 → ∀ b, b < 8 → a ≠ b → (TX1 a).2.1 ≠ (TX1 b).2.1 := by decide +kernel
theorem tyX1_ok : ∀ k, k < 8 → parseFieldDescriptor (TX1 k).2.2.1 = some (tyX1 k) := by decide +kernel
def RX2 : String := "LargePages$Reader"
def TX2 : u_T := fun k => match k with
  | 0 => ("LargePages$Reader", "tape", "LLargePages$Tape;", true)
  | 1 => ("LargePages$Reader", "kinds", "[I", true)
  | 2 => ("LargePages$Reader", "starts", "[I", true)
  | 3 => ("LargePages$Reader", "amounts", "[I", true)
  | 4 => ("LargePages$Reader", "code", "[I", true)
  | 5 => ("LargePages$Reader", "clauses", "[I", true)
  | 6 => ("LargePages$Reader", "laws", "[I", true)
  | 7 => ("LargePages$Reader", "tokens", "I", false)
  | 8 => ("LargePages$Reader", "at", "I", false)
  | 9 => ("LargePages$Reader", "kind", "I", false)
  | 10 => ("LargePages$Reader", "law", "I", false)
  | 11 => ("LargePages$Reader", "written", "I", false)
  | 12 => ("LargePages$Reader", "clauseCount", "I", false)
  | 13 => ("LargePages$Reader", "wrong", "I", false)
  | 14 => ("LargePages$Reader", "where", "I", false)
  | _ => ("LargePages$Reader", "hasRead", "Z", false)
def tyX2 : Nat → FieldType := fun k => match k with
  | 0 => .object "LargePages$Tape"
  | 1 => .array .int
  | 2 => .array .int
  | 3 => .array .int
  | 4 => .array .int
  | 5 => .array .int
  | 6 => .array .int
  | 7 => .int
  | 8 => .int
  | 9 => .int
  | 10 => .int
  | 11 => .int
  | 12 => .int
  | 13 => .int
  | 14 => .int
  | _ => .boolean
abbrev wsX20 : List Cond := u_ws RX2 TX2 16
theorem nmX2 : ∀ a, a < 16 → ∀ b, b < 16 → a ≠ b → (TX2 a).2.1 ≠ (TX2 b).2.1 := by decide +kernel
theorem tyX2_ok : ∀ k, k < 16 → parseFieldDescriptor (TX2 k).2.2.1 = some (tyX2 k) := by decide +kernel
def RX3 : String := "LargePages$Steps"
def TX3 : u_T := fun k => match k with
  | 0 => ("LargePages$Steps", "rows", "[LLargePages$World;", true)
  | 1 => ("LargePages$Steps", "first", "I", false)
  | _ => ("LargePages$Steps", "count", "I", false)
def tyX3 : Nat → FieldType := fun k => match k with
  | 0 => .array (.object "LargePages$World")
  | 1 => .int
  | _ => .int
abbrev wsX30 : List Cond := u_ws RX3 TX3 3
theorem nmX3 : ∀ a, a < 3 → ∀ b, b < 3 → a ≠ b → (TX3 a).2.1 ≠ (TX3 b).2.1 := by decide +kernel
theorem tyX3_ok : ∀ k, k < 3 → parseFieldDescriptor (TX3 k).2.2.1 = some (tyX3 k) := by decide +kernel
def RX4 : String := "LargePages$Tape"
def TX4 : u_T := fun k => match k with
  | 0 => ("LargePages$Tape", "bytes", "[I", true)
  | _ => ("LargePages$Tape", "length", "I", false)
def tyX4 : Nat → FieldType := fun k => match k with
  | 0 => .array .int
  | _ => .int
abbrev wsX40 : List Cond := u_ws RX4 TX4 2
theorem nmX4 : ∀ a, a < 2 → ∀ b, b < 2 → a ≠ b → (TX4 a).2.1 ≠ (TX4 b).2.1 := by decide +kernel
theorem tyX4_ok : ∀ k, k < 2 → parseFieldDescriptor (TX4 k).2.2.1 = some (tyX4 k) := by decide +kernel
def RX5 : String := "LargePages$Text"
def TX5 : u_T := fun k => match k with
  | 0 => ("LargePages$Text", "clauses", "[I", true)
  | 1 => ("LargePages$Text", "code", "[I", true)
  | 2 => ("LargePages$Text", "wantsFrom", "I", true)
  | 3 => ("LargePages$Text", "wantsTo", "I", true)
  | 4 => ("LargePages$Text", "sparesFrom", "I", true)
  | _ => ("LargePages$Text", "sparesTo", "I", true)
def tyX5 : Nat → FieldType := fun k => match k with
  | 0 => .array .int
  | 1 => .array .int
  | 2 => .int
  | 3 => .int
  | 4 => .int
  | _ => .int
abbrev wsX50 : List Cond := u_ws RX5 TX5 6
theorem nmX5 : ∀ a, a < 6 → ∀ b, b < 6 → a ≠ b → (TX5 a).2.1 ≠ (TX5 b).2.1 := by decide +kernel
theorem tyX5_ok : ∀ k, k < 6 → parseFieldDescriptor (TX5 k).2.2.1 = some (tyX5 k) := by decide +kernel
def RX6 : String := "LargePages$Told"
def TX6 : u_T := fun k => match k with
  | 0 => ("LargePages$Told", "sizes", "[I", true)
  | 1 => ("LargePages$Told", "texts", "[LLargePages$Text;", true)
  | 2 => ("LargePages$Told", "saidPages", "[I", true)
  | 3 => ("LargePages$Told", "saidWants", "[I", true)
  | 4 => ("LargePages$Told", "objects", "I", false)
  | 5 => ("LargePages$Told", "textCount", "I", false)
  | 6 => ("LargePages$Told", "ruling", "I", false)
  | _ => ("LargePages$Told", "saidCount", "I", false)
def tyX6 : Nat → FieldType := fun k => match k with
  | 0 => .array .int
  | 1 => .array (.object "LargePages$Text")
  | 2 => .array .int
  | 3 => .array .int
  | 4 => .int
  | 5 => .int
  | 6 => .int
  | _ => .int
abbrev wsX60 : List Cond := u_ws RX6 TX6 8
theorem nmX6 : ∀ a, a < 8 → ∀ b, b < 8 → a ≠ b → (TX6 a).2.1 ≠ (TX6 b).2.1 := by decide +kernel
theorem tyX6_ok : ∀ k, k < 8 → parseFieldDescriptor (TX6 k).2.2.1 = some (tyX6 k) := by decide +kernel
def RX7 : String := "LargePages$World"
def TX7 : u_T := fun k => match k with
  | 0 => ("LargePages$World", "value", "[I", true)
  | 1 => ("LargePages$World", "saved", "[I", true)
  | 2 => ("LargePages$World", "used", "[I", true)
  | 3 => ("LargePages$World", "home", "[I", true)
  | 4 => ("LargePages$World", "span", "[I", true)
  | 5 => ("LargePages$World", "since", "[I", true)
  | 6 => ("LargePages$World", "there", "[I", true)
  | 7 => ("LargePages$World", "dirty", "[I", true)
  | 8 => ("LargePages$World", "four", "[I", true)
  | 9 => ("LargePages$World", "sixteen", "[I", true)
  | 10 => ("LargePages$World", "lines", "[I", true)
  | 11 => ("LargePages$World", "gone", "[I", true)
  | 12 => ("LargePages$World", "lineCount", "I", false)
  | 13 => ("LargePages$World", "goneCount", "I", false)
  | 14 => ("LargePages$World", "time", "I", false)
  | 15 => ("LargePages$World", "x", "I", false)
  | 16 => ("LargePages$World", "day", "I", false)
  | _ => ("LargePages$World", "savings", "I", false)
def tyX7 : Nat → FieldType := fun k => match k with
  | 0 => .array .int
  | 1 => .array .int
  | 2 => .array .int
  | 3 => .array .int
  | 4 => .array .int
  | 5 => .array .int
  | 6 => .array .int
  | 7 => .array .int
  | 8 => .array .int
  | 9 => .array .int
  | 10 => .array .int
  | 11 => .array .int
  | 12 => .int
  | 13 => .int
  | 14 => .int
  | 15 => .int
  | 16 => .int
  | _ => .int
abbrev wsX70 : List Cond := u_ws RX7 TX7 18
theorem nmX7 : ∀ a, a < 18 → ∀ b, b < 18 → a ≠ b → (TX7 a).2.1 ≠ (TX7 b).2.1 := by decide +kernel
theorem tyX7_ok : ∀ k, k < 18 → parseFieldDescriptor (TX7 k).2.2.1 = some (tyX7 k) := by decide +kernel
def RX8 : String := "LargePages"
def TX8 : u_T := fun k => match k with
  | 0 => ("LargePages", "now", "LLargePages$World;", true)
  | 1 => ("LargePages", "told", "LLargePages$Told;", true)
  | 2 => ("LargePages", "steps", "LLargePages$Steps;", true)
  | 3 => ("LargePages", "pictured", "LLargePages$World;", true)
  | 4 => ("LargePages", "picturedTold", "LLargePages$Told;", true)
  | 5 => ("LargePages", "picturedSteps", "LLargePages$Steps;", true)
  | 6 => ("LargePages", "future", "LLargePages$World;", true)
  | 7 => ("LargePages", "keeper", "LLargePages$Keeper;", true)
  | 8 => ("LargePages", "prophet", "LLargePages$Keeper;", true)
  | 9 => ("LargePages", "tape", "LLargePages$Tape;", true)
  | _ => ("LargePages", "reader", "LLargePages$Reader;", true)
def tyX8 : Nat → FieldType := fun k => match k with
  | 0 => .object "LargePages$World"
  | 1 => .object "LargePages$Told"
  | 2 => .object "LargePages$Steps"
  | 3 => .object "LargePages$World"
  | 4 => .object "LargePages$Told"
  | 5 => .object "LargePages$Steps"
  | 6 => .object "LargePages$World"
  | 7 => .object "LargePages$Keeper"
  | 8 => .object "LargePages$Keeper"
  | 9 => .object "LargePages$Tape"
  | _ => .object "LargePages$Reader"
abbrev wsX80 : List Cond := u_ws RX8 TX8 11
theorem nmX8 : ∀ a, a < 11 → ∀ b, b < 11 → a ≠ b → (TX8 a).2.1 ≠ (TX8 b).2.1 := by decide +kernel
theorem tyX8_ok : ∀ k, k < 11 → parseFieldDescriptor (TX8 k).2.2.1 = some (tyX8 k) := by decide +kernel
def RX9 : String := "LargePagesModel"
def TX9 : u_T := fun k => match k with
  | 0 => ("LargePagesModel", "a", "[I", true)
  | 1 => ("LargePagesModel", "image", "[I", true)
  | 2 => ("LargePagesModel", "texts", "[I", true)
  | 3 => ("LargePagesModel", "tape", "[I", true)
  | 4 => ("LargePagesModel", "taped", "I", false)
  | 5 => ("LargePagesModel", "fault", "I", false)
  | 6 => ("LargePagesModel", "faultPlace", "I", false)
  | 7 => ("LargePagesModel", "at", "I", false)
  | 8 => ("LargePagesModel", "place", "I", false)
  | 9 => ("LargePagesModel", "token", "I", false)
  | 10 => ("LargePagesModel", "number", "I", false)
  | 11 => ("LargePagesModel", "word", "J", false)
  | 12 => ("LargePagesModel", "text0", "I", false)
  | 13 => ("LargePagesModel", "written", "I", false)
  | 14 => ("LargePagesModel", "sort0", "I", false)
  | 15 => ("LargePagesModel", "pile", "[I", true)
  | 16 => ("LargePagesModel", "piled", "I", false)
  | 17 => ("LargePagesModel", "opens", "I", false)
  | 18 => ("LargePagesModel", "isWhole", "Z", false)
  | 19 => ("LargePagesModel", "once", "I", false)
  | 20 => ("LargePagesModel", "named", "[I", true)
  | 21 => ("LargePagesModel", "values", "[J", true)
  | 22 => ("LargePagesModel", "truth", "[Z", true)
  | 23 => ("LargePagesModel", "pinned", "I", false)
  | 24 => ("LargePagesModel", "done", "I", false)
  | _ => ("LargePagesModel", "aside", "[I", true)
def tyX9 : Nat → FieldType := fun k => match k with
  | 0 => .array .int
  | 1 => .array .int
  | 2 => .array .int
  | 3 => .array .int
  | 4 => .int
  | 5 => .int
  | 6 => .int
  | 7 => .int
  | 8 => .int
  | 9 => .int
  | 10 => .int
  | 11 => .long
  | 12 => .int
  | 13 => .int
  | 14 => .int
  | 15 => .array .int
  | 16 => .int
  | 17 => .int
  | 18 => .boolean
  | 19 => .int
  | 20 => .array .int
  | 21 => .array .long
  | 22 => .array .boolean
  | 23 => .int
  | 24 => .int
  | _ => .array .int
abbrev wsX90 : List Cond := u_ws RX9 TX9 26
theorem nmX9 : ∀ a, a < 26 → ∀ b, b < 26 → a ≠ b → (TX9 a).2.1 ≠ (TX9 b).2.1 := by decide +kernel
theorem tyX9_ok : ∀ k, k < 26 → parseFieldDescriptor (TX9 k).2.2.1 = some (tyX9 k) := by decide +kernel
/-! What the abstract cells are on the machine. -/
/-- the script's address, the first address, the text constants', the array classes, the classes and their slots -/
abbrev ax_G : Type := Nat × Nat × (Nat → Nat) × (Nat → ClassId) × va_G
def ax_cr (G : ax_G) : Nat → Nat
  | 0 => G.1
  | k + 1 => G.2.1 + k
def ax_cv (G : ax_G) : Value → Value
  | .ref k => .ref (ax_cr G k)
  | .retAddr q => .ref (G.2.2.1 q)
  | v => v
abbrev ax_Ct : Type := (Nat → Int32) ⊕ (Nat → Int64) ⊕ (Nat → UInt32) ⊕ (Nat → UInt64) ⊕ (Nat → Option Nat)
def ax_cc (G : ax_G) (c : ax_Ct) : ax_Ct := match c with
  | .inr (.inr (.inr (.inr f))) => .inr (.inr (.inr (.inr fun j => (f j).map (ax_cr G))))
  | c => c
def ax_ce (G : ax_G) : va_E → va_E
  | .inl (t, n, c) => .inl (G.2.2.2.1 t, n, ax_cc G c)
  | .inr (ci, fs) => .inr (ci, fs.map (ax_cv G))
abbrev ax_cls : List vw_C := [(RX0, TX0, 2), (RX1, TX1, 8), (RX2, TX2, 16), (RX3, TX3, 3), (RX4, TX4, 2), (RX5, TX5, 6), (RX6, TX6, 8), (RX7, TX7, 18), (RX8, TX8, 11), (RX9, TX9, 26)]
def ax_tys (G : ax_G) : List (ClassId × FieldType) := [(G.2.2.2.1 0, .int), (G.2.2.2.1 1, .long), (G.2.2.2.1 2, .boolean), (G.2.2.2.1 3, .object "LargePages$World"), (G.2.2.2.1 4, .object "LargePages$Text")]
def ax_A (G : ax_G) : Nat → Prop := fun q => G.2.1 ≤ q
def ax_Rep (G : ax_G) (h : ax_H) (H : Heap) : Prop := H.size = G.2.1 + h.length ∧ ∀ (k : Nat) (e : va_E), ax_at h k = some e → va_at G.2.2.2.2 ax_cls (G.2.1 + k, ax_ce G e) H
def ax_sz : va_E → Nat
  | .inl a => a.2.1
  | .inr o => o.2.length
def ax_hsz (h : ax_H) : Nat := (h.map ax_sz).sum
theorem ax_at_eq {α : Type} : ∀ (l : List α) (k : Nat), ax_at l k = l[k]?
  | [], _ => rfl
  | _ :: _, 0 => rfl
  | _ :: t, k + 1 => by rw [List.getElem?_cons_succ]; exact ax_at_eq t k
theorem ax_at_lt {α : Type} {l : List α} {k : Nat} {x : α} (h : ax_at l k = some x) : k < l.length := by
  rw [ax_at_eq] at h; exact (List.getElem?_eq_some_iff.mp h).1
theorem ax_at_set {α : Type} {l : List α} {k j : Nat} {x y : α} (h : ax_at (l.set k x) j = some y) : (j = k ∧ y = x) ∨ (j ≠ k ∧ ax_at l j = some y) := by
  rw [ax_at_eq] at h ⊢
  by_cases e : j = k
  · subst e
    left
    refine ⟨rfl, ?_⟩
    have hl : j < l.length := by have := (List.getElem?_eq_some_iff.mp h).1; simpa using this
    rw [List.getElem?_set_self hl] at h
    exact (Option.some.inj h).symm
  · right
    rw [List.getElem?_set_ne (Ne.symm e)] at h
    exact ⟨e, h⟩
theorem ax_at_app {α : Type} {l : List α} {j : Nat} {x y : α} (h : ax_at (l ++ [x]) j = some y) : (j = l.length ∧ y = x) ∨ (j < l.length ∧ ax_at l j = some y) := by
  rw [ax_at_eq] at h ⊢
  rcases Nat.lt_or_ge j l.length with q | q
  · rw [List.getElem?_append_left q] at h; exact Or.inr ⟨q, h⟩
  · rw [List.getElem?_append_right q] at h
    have hz : j - l.length < 1 := (List.getElem?_eq_some_iff.mp h).1
    have e : j = l.length := by omega
    subst e
    rw [Nat.sub_self] at h
    exact Or.inl ⟨rfl, (Option.some.inj h).symm⟩
theorem ax_hsz_app (h : ax_H) (e : va_E) : ax_hsz (h ++ [e]) = ax_hsz h + ax_sz e := by simp [ax_hsz]
theorem ax_hsz_set : ∀ (h : ax_H) (k : Nat) (e e' : va_E), ax_at h k = some e → ax_sz e' = ax_sz e → ax_hsz (h.set k e') = ax_hsz h
  | [], _, _, _, he, _ => by cases he
  | x :: t, 0, e, e', he, hs => by
    cases he
    simp [ax_hsz, hs]
  | x :: t, k + 1, e, e', he, hs => by
    have := ax_hsz_set t k e e' he hs
    simp only [ax_hsz, List.set_cons_succ, List.map_cons, List.sum_cons] at this ⊢
    rw [this]
theorem ax_Rep.lt {G : ax_G} {h : ax_H} {H : Heap} (hR : ax_Rep G h H) {k : Nat} {e : va_E} (he : ax_at h k = some e) : G.2.1 + k < H.size := by
  rw [hR.1]; exact Nat.add_lt_add_left (ax_at_lt he) _
/-- a cell changed in its place -/
theorem ax_Rep.put {G : ax_G} {h : ax_H} {H H1 : Heap} (hR : ax_Rep G h H) {k : Nat} {e' : va_E} (hn : va_at G.2.2.2.2 ax_cls (G.2.1 + k, ax_ce G e') H1) (z : H1.size = H.size) (oq : ∀ q : Nat, q ≠ G.2.1 + k → H1[q]? = H[q]?) : ax_Rep G (h.set k e') H1 := by
  refine ⟨by rw [z, hR.1, List.length_set], fun j e hj => ?_⟩
  rcases ax_at_set hj with ⟨rfl, rfl⟩ | ⟨hne, hj⟩
  · exact hn
  · exact (hR.2 j e hj).kept (oq _ (by show G.2.1 + j ≠ G.2.1 + k; omega))
/-- a cell made -/
theorem ax_Rep.push {G : ax_G} {h : ax_H} {H H1 : Heap} (hR : ax_Rep G h H) {e' : va_E} (hn : va_at G.2.2.2.2 ax_cls (G.2.1 + h.length, ax_ce G e') H1) (z : H1.size = H.size + 1) (oq : ∀ q : Nat, q < H.size → H1[q]? = H[q]?) : ax_Rep G (h ++ [e']) H1 := by
  refine ⟨by rw [z, hR.1, List.length_append]; simp; omega, fun j e hj => ?_⟩
  rcases ax_at_app hj with ⟨rfl, rfl⟩ | ⟨hne, hj⟩
  · exact hn
  · exact (hR.2 j e hj).kept (oq _ (by show G.2.1 + j < H.size; rw [hR.1]; omega))
theorem ax_Rep.kept {G : ax_G} {h : ax_H} {H H1 : Heap} (hR : ax_Rep G h H) (e : H1 = H) : ax_Rep G h H1 := e ▸ hR
/-- one cell as a world of the kit's -/
theorem ax_Rep.one {G : ax_G} {h : ax_H} {H : Heap} (hR : ax_Rep G h H) {k : Nat} {e : va_E} (he : ax_at h k = some e) : va_P G.2.2.2.2 ax_cls [(G.2.1 + k, ax_ce G e)] H := by
  intro j q hj
  have hz : j < 1 := (List.getElem?_eq_some_iff.mp hj).1
  rw [show j = 0 by omega] at hj
  cases hj
  exact hR.2 k e he
theorem ax_S_put {G : ax_G} {H0 H H1 : Heap} {locs : List Loc} {k i : Nat} (hS : va_S (ax_A G) H0 H locs) (z : H1.size = H.size) (oq : ∀ q : Nat, q ≠ G.2.1 + k → H1[q]? = H[q]?) : va_S (ax_A G) H0 H1 (locs ++ [⟨G.2.1 + k, i⟩]) := hS.put z oq (Nat.le_add_right _ _)
theorem ax_S_push {G : ax_G} {H0 H H1 : Heap} {locs : List Loc} (hS : va_S (ax_A G) H0 H locs) (z : H1.size = H.size + 1) (oq : ∀ q : Nat, q < H.size → H1[q]? = H[q]?) : va_S (ax_A G) H0 H1 locs :=
  ⟨Nat.le_trans hS.1 (by omega), fun x h1 h2 => (oq x (Nat.lt_of_lt_of_le h1 hS.1)).trans (hS.2.1 x h1 h2), hS.2.2⟩
/-! locals -/
def ax_isset : Value → Bool
  | .float _ => false
  | _ => true
def ax_Lv (G : ax_G) (lsM : Array Slot) (nL : Nat) (ls : List Value) : Prop := lsM.size = nL ∧ lv_wf lsM ∧ ls.length = nL ∧ ∀ (i : Nat) (v : Value), ax_at ls i = some v → ax_isset v = true → lsM[i]? = some (.val (ax_cv G v))
def ax_lvs (G : ax_G) (ls : List Value) : List (Nat × Value) := (List.range ls.length).filterMap fun i => match ax_at ls i with
  | some v => bif ax_isset v then some (i, ax_cv G v) else none
  | none => none
theorem ax_lvs_mem {G : ax_G} {ls : List Value} {q : Nat × Value} : q ∈ ax_lvs G ls ↔ ∃ v, ax_at ls q.1 = some v ∧ ax_isset v = true ∧ q.2 = ax_cv G v := by
  unfold ax_lvs
  rw [List.mem_filterMap]
  constructor
  · rintro ⟨i, -, hi⟩
    split at hi
    · rename_i v hv
      cases hs : ax_isset v with
      | false => rw [hs] at hi; cases hi
      | true => rw [hs] at hi; cases hi; exact ⟨v, hv, hs, rfl⟩
    · cases hi
  · rintro ⟨v, h1, h2, h3⟩
    refine ⟨q.1, List.mem_range.mpr (ax_at_lt h1), ?_⟩
    rw [h1]
    dsimp only
    rw [h2, ← h3]
    rfl
theorem ax_Lv.has {G : ax_G} {lsM : Array Slot} {nL : Nat} {ls : List Value} (h : ax_Lv G lsM nL ls) : lv_has lsM nL (ax_lvs G ls) :=
  ⟨h.1, h.2.1, fun q hq => by obtain ⟨v, h1, h2, h3⟩ := ax_lvs_mem.mp hq; rw [h3]; exact h.2.2.2 q.1 v h1 h2⟩
theorem ax_get_at : ∀ {ls : List Value} {i : Nat} {v : Value}, ax_get ls i = v → ax_isset v = true → ax_at ls i = some v
  | [], _, _, h, hs => by cases h; cases hs
  | _ :: _, 0, _, h, _ => by cases h; rfl
  | _ :: t, i + 1, _, h, hs => ax_get_at (ls := t) (i := i) h hs
theorem ax_at_get : ∀ {ls : List Value} {i : Nat} {v : Value}, ax_at ls i = some v → ax_get ls i = v
  | [], _, _, h => by cases h
  | _ :: _, 0, _, h => by cases h; rfl
  | _ :: t, i + 1, _, h => ax_at_get (ls := t) (i := i) h
theorem ax_Lv.get {G : ax_G} {lsM : Array Slot} {nL : Nat} {ls : List Value} (h : ax_Lv G lsM nL ls) {i : Nat} {v : Value} (hg : ax_get ls i = v) (hs : ax_isset v = true) : lsM[i]? = some (.val (ax_cv G v)) := h.2.2.2 i v (ax_get_at hg hs) hs
theorem ax_cat_cv (G : ax_G) (v : Value) : (ax_cv G v).category = v.category := by cases v <;> rfl
theorem ax_kill_len (ls : List Value) (i : Nat) : (ax_kill ls i).length = ls.length := by
  cases i with
  | zero => rfl
  | succ i =>
    show (bif ax_islong (ax_get ls i) then ls.set i (.float 0) else ls).length = _
    cases ax_islong (ax_get ls i) <;> simp
/-- what a local that isn't the one stored, nor a long's first half before it, was -/
theorem ax_kill_at {ls : List Value} {i j : Nat} {v : Value} (h : ax_at (ax_kill ls i) j = some v) (hs : ax_isset v = true) : ax_at ls j = some v ∧ ¬ (j + 1 = i ∧ v.category = 2) := by
  cases i with
  | zero => exact ⟨h, fun q => by omega⟩
  | succ i =>
    change ax_at (bif ax_islong (ax_get ls i) then ls.set i (.float 0) else ls) j = some v at h
    cases hl : ax_islong (ax_get ls i) with
    | false =>
      rw [hl] at h
      change ax_at ls j = some v at h
      refine ⟨h, fun q => ?_⟩
      have e : j = i := by omega
      subst e
      rw [ax_at_get h] at hl
      unfold ax_islong at hl
      rw [q.2] at hl
      cases hl
    | true =>
      rw [hl] at h
      rcases ax_at_set h with ⟨rfl, rfl⟩ | ⟨hne, h⟩
      · cases hs
      · exact ⟨h, fun q => by omega⟩
theorem ax_Lv.set1 {G : ax_G} {lsM ls' : Array Slot} {nL i : Nat} {ls : List Value} {v : Value} (h : ax_Lv G lsM nL ls) (h' : lv_has ls' nL ((i, ax_cv G v) :: (ax_lvs G ls).filter (fun q => !(q.1 == i) && !(q.1 + 1 == i && q.2.category == 2)))) : ax_Lv G ls' nL (ax_set1 ls i v) := by
  refine ⟨h'.1, h'.2.1, by rw [ax_set1, List.length_set, ax_kill_len]; exact h.2.2.1, fun j w hj hs => ?_⟩
  rcases ax_at_set hj with ⟨rfl, rfl⟩ | ⟨hne, hj⟩
  · exact h'.2.2 (j, ax_cv G w) List.mem_cons_self
  · obtain ⟨h1, h2⟩ := ax_kill_at hj hs
    refine h'.2.2 (j, ax_cv G w) (List.mem_cons_of_mem _ (List.mem_filter.mpr ⟨ax_lvs_mem.mpr ⟨w, h1, hs, rfl⟩, ?_⟩))
    simp only [Bool.and_eq_true, Bool.not_eq_true', beq_eq_false_iff_ne, ne_eq, Bool.and_eq_false_iff, ax_cat_cv]
    refine ⟨hne, ?_⟩
    by_cases e : j + 1 = i
    · exact Or.inr fun q => h2 ⟨e, q⟩
    · exact Or.inl e
theorem ax_Lv.set2 {G : ax_G} {lsM ls' : Array Slot} {nL i : Nat} {ls : List Value} {v : Value} (h : ax_Lv G lsM nL ls) (h' : lv_has ls' nL ((i, ax_cv G v) :: (ax_lvs G ls).filter (fun q => !(q.1 == i) && (!(q.1 == i + 1) && !(q.1 + 1 == i && q.2.category == 2))))) : ax_Lv G ls' nL (ax_set2 ls i v) := by
  refine ⟨h'.1, h'.2.1, by rw [ax_set2, List.length_set, List.length_set, ax_kill_len]; exact h.2.2.1, fun j w hj hs => ?_⟩
  rcases ax_at_set hj with ⟨rfl, rfl⟩ | ⟨hne2, hj⟩
  · cases hs
  rcases ax_at_set hj with ⟨rfl, rfl⟩ | ⟨hne, hj⟩
  · exact h'.2.2 (j, ax_cv G w) List.mem_cons_self
  · obtain ⟨h1, h2⟩ := ax_kill_at hj hs
    refine h'.2.2 (j, ax_cv G w) (List.mem_cons_of_mem _ (List.mem_filter.mpr ⟨ax_lvs_mem.mpr ⟨w, h1, hs, rfl⟩, ?_⟩))
    simp only [Bool.and_eq_true, Bool.not_eq_true', beq_eq_false_iff_ne, ne_eq, Bool.and_eq_false_iff, ax_cat_cv]
    refine ⟨hne, hne2, ?_⟩
    by_cases e : j + 1 = i
    · exact Or.inr fun q => h2 ⟨e, q⟩
    · exact Or.inl e
/-! what the combinators that went on looked like -/
section
variable {ρ : Type} {q : ρ}
theorem ax_i1_s {st : List Value} {k : Int32 → List Value → Option ρ} (h : ax_i1 st k = some q) : ∃ x r, st = .int x :: r ∧ k x r = some q := by
  unfold ax_i1 at h; split at h
  · exact ⟨_, _, rfl, h⟩
  · cases h
theorem ax_i2_s {st : List Value} {k : Int32 → Int32 → List Value → Option ρ} (h : ax_i2 st k = some q) : ∃ x y r, st = .int y :: .int x :: r ∧ k x y r = some q := by
  unfold ax_i2 at h; split at h
  · exact ⟨_, _, _, rfl, h⟩
  · cases h
theorem ax_l1_s {st : List Value} {k : Int64 → List Value → Option ρ} (h : ax_l1 st k = some q) : ∃ x r, st = .long x :: r ∧ k x r = some q := by
  unfold ax_l1 at h; split at h
  · exact ⟨_, _, rfl, h⟩
  · cases h
theorem ax_l2_s {st : List Value} {k : Int64 → Int64 → List Value → Option ρ} (h : ax_l2 st k = some q) : ∃ x y r, st = .long y :: .long x :: r ∧ k x y r = some q := by
  unfold ax_l2 at h; split at h
  · exact ⟨_, _, _, rfl, h⟩
  · cases h
theorem ax_li_s {st : List Value} {k : Int64 → Int32 → List Value → Option ρ} (h : ax_li st k = some q) : ∃ x y r, st = .int y :: .long x :: r ∧ k x y r = some q := by
  unfold ax_li at h; split at h
  · exact ⟨_, _, _, rfl, h⟩
  · cases h
theorem ax_ldi_s {ls : List Value} {i : Nat} {k : Int32 → Option ρ} (h : ax_ldi ls i k = some q) : ∃ x, ax_get ls i = .int x ∧ k x = some q := by
  unfold ax_ldi at h; split at h
  · rename_i x hx; exact ⟨x, hx, h⟩
  · cases h
theorem ax_ldl_s {ls : List Value} {i : Nat} {k : Int64 → Option ρ} (h : ax_ldl ls i k = some q) : ∃ x, ax_get ls i = .long x ∧ k x = some q := by
  unfold ax_ldl at h; split at h
  · rename_i x hx; exact ⟨x, hx, h⟩
  · cases h
theorem ax_lda_s {ls : List Value} {i : Nat} {k : Value → Option ρ} (h : ax_lda ls i k = some q) : (∃ x, ax_get ls i = .ref x ∧ k (.ref x) = some q) ∨ (ax_get ls i = .null ∧ k .null = some q) := by
  unfold ax_lda at h; split at h
  · rename_i x hx; exact Or.inl ⟨x, hx, h⟩
  · rename_i hx; exact Or.inr ⟨hx, h⟩
  · cases h
theorem ax_sta_s {st : List Value} {k : Value → List Value → Option ρ} (h : ax_sta st k = some q) : (∃ x r, st = .ref x :: r ∧ k (.ref x) r = some q) ∨ (∃ r, st = .null :: r ∧ k .null r = some q) := by
  unfold ax_sta at h; split at h
  · exact Or.inl ⟨_, _, rfl, h⟩
  · exact Or.inr ⟨_, rfl, h⟩
  · cases h
theorem ax_jmp_s {pc : Nat} {off : Int} {k : Nat → Option ρ} (h : ax_jmp pc off k = some q) : ∃ t : Nat, (pc : Int) + off = (t : Int) ∧ k t = some q := by
  unfold ax_jmp at h; split at h
  · exact ⟨_, rfl, h⟩
  · rename_i n
    cases hb : Nat.ble (n + 1) pc with
    | false => rw [hb] at h; cases h
    | true =>
      rw [hb] at h
      have := Nat.le_of_ble_eq_true hb
      exact ⟨_, by rw [Int.negSucc_eq]; omega, h⟩
theorem ax_ar_s {h : ax_H} {st : List Value} {k : Nat → Nat → ax_Ct → Nat → Int32 → List Value → Option ρ} (hh : ax_ar h st k = some q) : ∃ t n c a i r, st = .int i :: .ref (a + 1) :: r ∧ ax_at h a = some (.inl (t, n, c)) ∧ vp_in i n ∧ k t n c a i r = some q := by
  unfold ax_ar at hh; split at hh
  · split at hh
    · rename_i he
      split at hh
      · cases hh
      · rename_i hi
        exact ⟨_, _, _, _, _, _, rfl, he, hi, hh⟩
    · cases hh
  · cases hh
theorem ax_ob_s {h : ax_H} {st : List Value} {k : Nat → List Value → Nat → List Value → Option ρ} (hh : ax_ob h st k = some q) : ∃ ci fs a r, st = .ref (a + 1) :: r ∧ ax_at h a = some (.inr (ci, fs)) ∧ k ci fs a r = some q := by
  unfold ax_ob at hh; split at hh
  · split at hh
    · rename_i he
      exact ⟨_, _, _, _, rfl, he, hh⟩
    · cases hh
  · cases hh
theorem ax_bif_s {c : Bool} {t f : Option ρ} (h : (bif c then t else f) = some q) : (c = true ∧ t = some q) ∨ (c = false ∧ f = some q) := by
  cases c
  · exact Or.inr ⟨rfl, h⟩
  · exact Or.inl ⟨rfl, h⟩
end
