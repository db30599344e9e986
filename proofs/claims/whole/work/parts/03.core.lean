/-! THE SMALL MACHINE: a heap of numbered cells (Mm), locals by place (Lv), and PT: the kit's W at a point whose heap, locals and stack are told by them. -/
-- cells, the heap: how many cells, how many slots, what each holds
abbrev MC : Type := (Nat × vp_A) ⊕ (Nat × List Value)
abbrev Mm : Type := Nat × Nat × (Nat → MC)
abbrev Lv : Type := List (Option Value)
def junk : MC := .inr (99, [])
/-- a cell of which nothing is told: an exception's -/
def opq : MC := .inr (98, [])
/-- the world's fixed part: the classes' numbers, the array classes by their tags, the addresses of the cells below 5 (statics, the script), the first address above -/
abbrev GF : Type := va_G × (Nat → ClassId) × (Nat → Nat) × Nat
def adr (X : GF) (i : Nat) : Nat := if i < 5 then X.2.2.1 i else X.2.2.2 + (i - 5)
def AA (X : GF) : Nat → Prop := fun q => X.2.2.2 ≤ q
def up (X : GF) (v : Value) : Value := match v with
  | .ref i => .ref (adr X i)
  | w => w
def upA (X : GF) (a : vp_A) : vp_A := (a.1, match a.2 with
  | .inr (.inr (.inr (.inr f))) => .inr (.inr (.inr (.inr (fun j => (f j).map (adr X)))))
  | w => w)
def upC (X : GF) (c : MC) : va_E := match c with
  | .inl (t, a) => .inl (X.2.1 t, upA X a)
  | .inr (k, fs) => .inr (k, fs.map (up X))
/-- the array types by their tags: 0 int, 1 boolean, 2 long, 3 yards, 4 layers, 5 rows -/
def atT (t : Nat) : FieldType := match t with
  | 0 => .int
  | 1 => .boolean
  | 2 => .long
  | 3 => .object "StackYard$Yard"
  | 4 => .object "StackYard$Layer"
  | _ => .object "StackYard$Row"
def TYS (X : GF) : List (ClassId × FieldType) := [(X.2.1 0, .int), (X.2.1 1, .boolean), (X.2.1 2, .long), (X.2.1 3, .object "StackYard$Yard"), (X.2.1 4, .object "StackYard$Layer"), (X.2.1 5, .object "StackYard$Row")]
/-- the static arrays: class, field, number -/
def STN : List (String × String × Nat) := [("StackYard$Turns", "AXES", 1), ("StackYard$Turns", "SIGNS", 2), ("StackYardModel", "PERMUTED", 3), ("StackYardModel", "EVEN", 4)]
def ST (X : GF) (U : State) (M : Mm) (H : Heap) : Prop :=
  (∀ i : Nat, i < 5 → ∃ (n : Nat) (f : Nat → Int32), M.2.2 i = .inl (0, n, .inl f) ∧ n < 2 ^ 31 ∧ va_T .int (adr X i) n (fun j => .int (f j)) (AA X) U H) ∧
  (∀ q ∈ STN, va_Z q.1 q.2.1 "[I" (.ref (adr X q.2.2)) (AA X) U H) ∧
  (vx_Zq Bundle.tN "UNASSIGNED_STACK" Bundle.steD (AA X) U H ∧ vx_Zq Bundle.tN "SUPPRESSED_SENTINEL" Bundle.listD (AA X) U H) ∧
  (∀ w ∈ NWL, va_Nw w U)
def Rp (X : GF) (U : State) (M : Mm) (H : Heap) : Prop :=
  (5 ≤ M.1 ∧ H.size = X.2.2.2 + (M.1 - 5)) ∧
  (∀ i : Nat, 5 ≤ i → i < M.1 → M.2.2 i = opq ∨ va_at X.1 vwCl (adr X i, upC X (M.2.2 i)) H) ∧
  (∀ i : Nat, M.1 ≤ i → M.2.2 i = junk) ∧
  va_K X.1 vwCl (TYS X) U ∧ ST X U M H
/-- a method: code, its class, locals, frames and words of the room, name, what it returns -/
abbrev MI : Type := ByteArray × String × Nat × Nat × Nat × String × Option FieldType
abbrev GT : Type := GF × Program × Launch × Env × Room × State × MethodId × Array Value × List Frame × Method × Code × Nat × Nat × (State → Prop)
abbrev gX (G : GT) : GF := G.1
abbrev gp (G : GT) : Program := G.2.1
abbrev gl (G : GT) : Launch := G.2.2.1
abbrev ge (G : GT) : Env := G.2.2.2.1
abbrev gR (G : GT) : Room := G.2.2.2.2.1
abbrev gs (G : GT) : State := G.2.2.2.2.2.1
abbrev gm (G : GT) : MethodId := G.2.2.2.2.2.2.1
abbrev ga (G : GT) : Array Value := G.2.2.2.2.2.2.2.1
abbrev gb (G : GT) : List Frame := G.2.2.2.2.2.2.2.2.1
abbrev gh (G : GT) : Method := G.2.2.2.2.2.2.2.2.2.1
abbrev gc (G : GT) : Code := G.2.2.2.2.2.2.2.2.2.2.1
abbrev gn (G : GT) : Nat := G.2.2.2.2.2.2.2.2.2.2.2.1
abbrev gz (G : GT) : Nat := G.2.2.2.2.2.2.2.2.2.2.2.2.1
abbrev gQ (G : GT) : State → Prop := G.2.2.2.2.2.2.2.2.2.2.2.2.2
def LOC (X : GF) (ls : Array Slot) (nL : Nat) (L : Lv) : Prop := ls.size = nL ∧ lv_wf ls ∧ ∀ (i : Nat) (v : Value), L[i]? = some (some v) → ls[i]? = some (.val (up X v))
def PT (G : GT) (pc : Nat) (L : Lv) (st : List Value) (M : Mm) : Prop :=
  ∀ (ls : Array Slot) (H : Heap) (locs : List Loc), LOC (gX G) ls (gc G).maxLocals L → Rp (gX G) (gs G) M H → va_S (AA (gX G)) (gs G).heap H locs →
    W (gp G) (gl G) (ge G) (gR G) (gs G) (gm G) (ga G) (gb G) (gh G) (gc G) H locs (M.1 - gn G) (M.2.1 - gz G) (gQ G) (F0 (gm G) pc ls (st.map (up (gX G))))
/-- what holds in a method's body -/
def CX (G : GT) (I : MI) : Prop :=
  (gp G).tables.exec = Jvm.exec ∧ (gc G).code = I.1 ∧ (gs G).vm.findClass I.2.1 = some (gm G).cls ∧ (gc G).maxLocals = I.2.2.1 ∧ (∀ w ∈ TG, w.before (ga G) (gs G) = true) ∧
  (gR G).frames = I.2.2.2.1 ∧ (gR G).locals = I.2.2.2.2.1 ∧ (I.2.2.2.2.2.1 = "<init>" → (gh G).name = "<init>") ∧ (gh G).sig.returnType = I.2.2.2.2.2.2 ∧ (gh G).locks = false ∧ (gX G).2.2.2 ≤ (gs G).heap.size ∧ (gl G).flags = flags0
def csum (st : List Value) : Nat := (st.map fun v => v.category).sum
theorem csum_up (X : GF) (st : List Value) : ((st.map (up X)).map fun v => v.category).sum = csum st := by
  unfold csum
  rw [List.map_map]
  congr 1
  refine List.map_congr_left (fun v _ => ?_)
  cases v <;> rfl
theorem csum_cons (v : Value) (st : List Value) : csum (v :: st) = v.category + csum st := by simp [csum]
-- locals
def kil (i : Nat) (L : Lv) : Lv := match L[i - 1]? with
  | some (some v) => if v.category = 2 then L.set (i - 1) none else L
  | _ => L
def stL (i : Nat) (v : Value) (L : Lv) : Lv := (kil i L).set i (some v)
def stJ (i : Nat) (v : Value) (L : Lv) : Lv := ((kil i L).set i (some v)).set (i + 1) none
def lvl (X : GF) (L : Lv) : List (Nat × Value) := (List.range L.length).filterMap (fun j => match L[j]? with
  | some (some v) => some (j, up X v)
  | _ => none)
theorem mem_lvl {X : GF} {L : Lv} {j : Nat} {v : Value} (h : L[j]? = some (some v)) : (j, up X v) ∈ lvl X L := by
  refine List.mem_filterMap.mpr ⟨j, List.mem_range.mpr (List.getElem?_eq_some_iff.mp h).1, ?_⟩
  simp [h]
theorem LOC.has {X : GF} {ls : Array Slot} {nL : Nat} {L : Lv} (h : LOC X ls nL L) : lv_has ls nL (lvl X L) := by
  refine ⟨h.1, h.2.1, fun q hq => ?_⟩
  obtain ⟨j, -, hj⟩ := List.mem_filterMap.mp hq
  cases hL : L[j]? with
  | none => rw [hL] at hj; cases hj
  | some o =>
    cases o with
    | none => rw [hL] at hj; cases hj
    | some v =>
      rw [hL] at hj
      cases hj
      exact h.2.2 j v hL
theorem kil_get {i j : Nat} {L : Lv} {v : Value} (h : (kil i L)[j]? = some (some v)) : L[j]? = some (some v) ∧ ¬ (j + 1 = i ∧ v.category = 2) := by
  unfold kil at h
  split at h
  · rename_i w hw
    by_cases hc : w.category = 2
    · rw [if_pos hc] at h
      by_cases e : j = i - 1
      · subst e
        have hlt := (List.getElem?_eq_some_iff.mp hw).1
        rw [List.getElem?_set_self hlt] at h
        cases h
      · rw [List.getElem?_set_ne (fun q => e q.symm)] at h
        exact ⟨h, fun q => e (by omega)⟩
    · rw [if_neg hc] at h
      refine ⟨h, fun q => ?_⟩
      obtain ⟨q1, q2⟩ := q
      have : i - 1 = j := by omega
      rw [this, h] at hw
      cases hw
      exact hc q2
  · rename_i hno
    refine ⟨h, fun q => ?_⟩
    obtain ⟨q1, q2⟩ := q
    have : i - 1 = j := by omega
    rw [this] at hno
    exact hno _ h
theorem up_cat (X : GF) (v : Value) : (up X v).category = v.category := by cases v <;> rfl
theorem LOC.store {X : GF} {ls' : Array Slot} {nL i : Nat} {L : Lv} {v w : Value} (hw : up X v = w)
    (h' : lv_has ls' nL ((i, w) :: (lvl X L).filter (fun q => !(q.1 == i) && !(q.1 + 1 == i && q.2.category == 2)))) : LOC X ls' nL (stL i v L) := by
  refine ⟨h'.1, h'.2.1, fun j u hj => ?_⟩
  unfold stL at hj
  by_cases e : j = i
  · subst e
    by_cases hlt : j < (kil j L).length
    · rw [List.getElem?_set_self hlt] at hj
      cases hj
      rw [hw]
      exact h'.2.2 (j, w) List.mem_cons_self
    · rw [List.getElem?_eq_none (by rw [List.length_set]; omega)] at hj
      cases hj
  · rw [List.getElem?_set_ne (fun q => e q.symm)] at hj
    obtain ⟨h1, h2⟩ := kil_get hj
    refine h'.2.2 (j, up X u) (List.mem_cons_of_mem _ (List.mem_filter.mpr ⟨mem_lvl h1, ?_⟩))
    rw [up_cat]
    have e1 : (j == i) = false := by simpa using e
    rw [e1]
    cases hq : (j + 1 == i && u.category == 2) with
    | false => rfl
    | true =>
      simp only [Bool.and_eq_true, beq_iff_eq] at hq
      exact absurd hq h2
theorem LOC.storeJ {X : GF} {ls' : Array Slot} {nL i : Nat} {L : Lv} {v w : Value} (hw : up X v = w)
    (h' : lv_has ls' nL ((i, w) :: (lvl X L).filter (fun q => !(q.1 == i) && (!(q.1 == i + 1) && !(q.1 + 1 == i && q.2.category == 2))))) : LOC X ls' nL (stJ i v L) := by
  refine ⟨h'.1, h'.2.1, fun j u hj => ?_⟩
  unfold stJ at hj
  by_cases e2 : j = i + 1
  · subst e2
    by_cases hlt : i + 1 < ((kil i L).set i (some v)).length
    · rw [List.getElem?_set_self hlt] at hj
      cases hj
    · rw [List.getElem?_eq_none (by rw [List.length_set]; omega)] at hj
      cases hj
  · rw [List.getElem?_set_ne (fun q => e2 q.symm)] at hj
    by_cases e : j = i
    · subst e
      by_cases hlt : j < (kil j L).length
      · rw [List.getElem?_set_self hlt] at hj
        cases hj
        rw [hw]
        exact h'.2.2 (j, w) List.mem_cons_self
      · rw [List.getElem?_eq_none (by rw [List.length_set]; omega)] at hj
        cases hj
    · rw [List.getElem?_set_ne (fun q => e q.symm)] at hj
      obtain ⟨h1, h2⟩ := kil_get hj
      refine h'.2.2 (j, up X u) (List.mem_cons_of_mem _ (List.mem_filter.mpr ⟨mem_lvl h1, ?_⟩))
      rw [up_cat]
      have e1 : (j == i) = false := by simpa using e
      have e3 : (j == i + 1) = false := by simpa using e2
      rw [e1, e3]
      cases hq : (j + 1 == i && u.category == 2) with
      | false => rfl
      | true =>
        simp only [Bool.and_eq_true, beq_iff_eq] at hq
        exact absurd hq h2
