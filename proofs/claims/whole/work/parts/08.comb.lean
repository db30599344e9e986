/-! THE CODE DOES WHAT IT MEANS: a row for each form of Java -/
def LE (M M' : Mm) : Prop := M.1 ≤ M'.1 ∧ M.2.1 ≤ M'.2.1
theorem LE.rf (M : Mm) : LE M M := ⟨Nat.le_refl _, Nat.le_refl _⟩
theorem LE.tr {A B C : Mm} (h : LE A B) (k : LE B C) : LE A C := ⟨Nat.le_trans h.1 k.1, Nat.le_trans h.2 k.2⟩
def LW (G : GT) (M : Mm) : Prop := gn G ≤ M.1 ∧ gz G ≤ M.2.1
def RM (G : GT) (M : Mm) : Prop := M.1 ≤ gn G + (gR G).cells ∧ M.2.1 ≤ gz G + (gR G).slots
theorem LW.up {G : GT} {M M' : Mm} (h : LW G M) (k : LE M M') : LW G M' := ⟨Nat.le_trans h.1 k.1, Nat.le_trans h.2 k.2⟩
theorem RM.dn {G : GT} {M M' : Mm} (h : RM G M') (k : LE M M') : RM G M := ⟨Nat.le_trans k.1 h.1, Nat.le_trans k.2 h.2⟩
/-- an expression's code: from pc to pc', at most d words below it on the stack -/
def IE {α : Type} (em : α → Value) (I : MI) (d pc pc' : Nat) (E : Lv → Mm → Option (α × Mm)) : Prop := ∀ (L : Lv) (M : Mm) (v : α) (M' : Mm), E L M = some (v, M') → LE M M' ∧
  ∀ (G : GT) (st : List Value), CX G I → csum st ≤ d → LW G M → RM G M' → PT G pc' L (em v :: st) M' → PT G pc L st M
def IC (I : MI) (d pc pT pF : Nat) (E : DC) : Prop := ∀ (L : Lv) (M : Mm) (v : Bool) (M' : Mm), E L M = some (v, M') → LE M M' ∧
  ∀ (G : GT) (st : List Value), CX G I → csum st ≤ d → LW G M → RM G M' → (v = true → PT G pT L st M') → (v = false → PT G pF L st M') → PT G pc L st M
def IR (I : MI) (d pc pc' n : Nat) (E : DR) : Prop := ∀ (L : Lv) (M : Mm) (v : List Value) (M' : Mm), E L M = some (v, M') → LE M M' ∧ v.length = n ∧
  ∀ (G : GT) (st : List Value), CX G I → csum st ≤ d → LW G M → RM G M' → PT G pc' L (v.reverse ++ st) M' → PT G pc L st M
def IV (I : MI) (d pc pc' : Nat) (E : DV) : Prop := ∀ (L : Lv) (M : Mm) (v : Option Value) (M' : Mm), E L M = some (v, M') → LE M M' ∧
  ∀ (G : GT) (st : List Value), CX G I → csum st ≤ d → LW G M → RM G M' → PT G pc' L (v.toList ++ st) M' → PT G pc L st M
def retOp (t : Option FieldType) : Instr := match t with
  | none => .return_
  | some (.object _) => .areturn
  | some (.array _) => .areturn
  | some _ => .ireturn
def okR (t : Option FieldType) (v : Option Value) : Prop := match t with
  | none => v = none
  | some .int => ∃ x : Int32, v = some (.int x)
  | some .boolean => ∃ x : Int32, (x = 0 ∨ x = 1) ∧ v = some (.int x)
  | some (.object _) => ∃ r : Option Nat, v = some (va_rf r)
  | some (.array _) => ∃ r : Option Nat, v = some (va_rf r)
  | some _ => False
def RT (G : GT) (I : MI) (v : Option Value) (M : Mm) : Prop := ∀ (L : Lv) (pc : Nat), decode I.1 pc = .ok (retOp I.2.2.2.2.2.2, 1) → okR I.2.2.2.2.2.2 v → PT G pc L v.toList M
/-- a statement's code: where it goes on, breaks, continues -/
def IS (I : MI) (pc tN tB tC : Nat) (S : DS) : Prop := ∀ (L : Lv) (M : Mm) (L' : Lv) (M' : Mm) (c : Nat) (v : Option Value), S L M = some (L', M', c, v) → LE M M' ∧
  ∀ (G : GT), CX G I → LW G M → RM G M' → (c = 0 → PT G tN L' [] M') → (c = 1 → PT G tB L' [] M') → (c = 2 → PT G tC L' [] M') → (c = 3 → RT G I v M') → PT G pc L [] M
def Jp (I : MI) (a t : Nat) : Prop := a = t ∨ ∃ off : Int, decode I.1 a = .ok (.goto off, 3) ∧ (a : Int) + off = (t : Int)
theorem Jp.pt {I : MI} {a t : Nat} (h : Jp I a t) {G : GT} {L : Lv} {st : List Value} {M : Mm} (C : CX G I) (k : PT G t L st M) : PT G a L st M := by
  rcases h with rfl | ⟨off, h1, h2⟩
  · exact k
  · exact pt_goto C h1 h2 k
theorem Jp.rf {I : MI} {a : Nat} : Jp I a a := Or.inl rfl
theorem Jp.go {I : MI} {a t : Nat} {off : Int} (h : decode I.1 a = .ok (.goto off, 3)) (k : (a : Int) + off = (t : Int)) : Jp I a t := Or.inr ⟨off, h, k⟩
theorem csum_int (x : Int32) {st : List Value} {d : Nat} (h : csum st ≤ d) : csum (.int x :: st) ≤ d + 1 := by
  rw [csum_cons]
  show 1 + csum st ≤ d + 1
  omega
theorem csum_rf (r : Option Nat) {st : List Value} {d : Nat} (h : csum st ≤ d) : csum (va_rf r :: st) ≤ d + 1 := by
  rw [csum_cons]
  cases r <;> (show 1 + csum st ≤ d + 1; omega)
theorem csum_ref (a : Nat) {st : List Value} {d : Nat} (h : csum st ≤ d) : csum (.ref a :: st) ≤ d + 1 := csum_rf (some a) h
theorem csum_long (x : Int64) {st : List Value} {d : Nat} (h : csum st ≤ d) : csum (.long x :: st) ≤ d + 2 := by
  rw [csum_cons]
  show 2 + csum st ≤ d + 2
  omega
theorem some2 {α : Type} {a b : α} {M M' : Mm} (h : some (a, M) = some (b, M')) : a = b ∧ M = M' := by cases h; exact ⟨rfl, rfl⟩
theorem inb_in {i : Int32} {n : Nat} (h : inb i n = true) : vp_in i n := by
  unfold inb at h
  simp only [Bool.and_eq_true, decide_eq_true_eq] at h
  exact vp_in_iff.mpr h
section Exprs
variable {I : MI} {d pc p1 p2 : Nat}
theorem ie_iconst {n : Int} {v : Int32} (hd : decode I.1 pc = .ok (.iconst n, 1)) (hv : Int32.ofInt n = v) : IE .int I d pc (pc + 1) (cI v) := by
  intro L M w M' h
  obtain ⟨rfl, rfl⟩ := some2 h
  exact ⟨LE.rf _, fun G st C _ _ _ k => pt_iconst C hd hv k⟩
theorem ie_bipush {n : Int} {v : Int32} (hd : decode I.1 pc = .ok (.bipush n, 2)) (hv : (Int8.ofInt n).toInt32 = v) : IE .int I d pc (pc + 2) (cI v) := by
  intro L M w M' h
  obtain ⟨rfl, rfl⟩ := some2 h
  exact ⟨LE.rf _, fun G st C _ _ _ k => pt_bipush C hd hv k⟩
theorem ie_sipush {n : Int} {v : Int32} (hd : decode I.1 pc = .ok (.sipush n, 3)) (hv : (Int16.ofInt n).toInt32 = v) : IE .int I d pc (pc + 3) (cI v) := by
  intro L M w M' h
  obtain ⟨rfl, rfl⟩ := some2 h
  exact ⟨LE.rf _, fun G st C _ _ _ k => pt_sipush C hd hv k⟩
theorem ie_ldc {i : Nat} {v : Int32} (hd : decode I.1 pc = .ok (.ldc i, 2)) (hw : Cond.constant I.2.1 i v ∈ TG) : IE .int I d pc (pc + 2) (cI v) := by
  intro L M w M' h
  obtain ⟨rfl, rfl⟩ := some2 h
  exact ⟨LE.rf _, fun G st C _ _ _ k => pt_ldc C hd hw k⟩
theorem ij_ldc2 {i : Nat} {v : Int64} (hd : decode I.1 pc = .ok (.ldc2_w i, 3)) (hw : Cond.constantLong I.2.1 i v ∈ TG) : IE .long I d pc (pc + 3) (cJ v) := by
  intro L M w M' h
  obtain ⟨rfl, rfl⟩ := some2 h
  exact ⟨LE.rf _, fun G st C _ _ _ k => pt_ldc2 C hd hw k⟩
theorem lI_spec {i : Nat} {L : Lv} {M M' : Mm} {v : Int32} (h : lI i L M = some (v, M')) : L[i]? = some (some (.int v)) ∧ M' = M := by
  unfold lI at h
  obtain ⟨o, h1, h⟩ := Option.bind_eq_some_iff.mp h
  obtain ⟨w, rfl, h⟩ := Option.bind_eq_some_iff.mp h
  obtain ⟨x, h2, h3⟩ := Option.map_eq_some_iff.mp h
  cases h3
  cases w <;> cases h2
  exact ⟨h1, rfl⟩
theorem lJ_spec {i : Nat} {L : Lv} {M M' : Mm} {v : Int64} (h : lJ i L M = some (v, M')) : L[i]? = some (some (.long v)) ∧ M' = M := by
  unfold lJ at h
  obtain ⟨o, h1, h⟩ := Option.bind_eq_some_iff.mp h
  obtain ⟨w, rfl, h⟩ := Option.bind_eq_some_iff.mp h
  obtain ⟨x, h2, h3⟩ := Option.map_eq_some_iff.mp h
  cases h3
  cases w <;> cases h2
  exact ⟨h1, rfl⟩
theorem asA_rf {v : Value} {r : Option Nat} (h : asA v = some r) : v = va_rf r := by cases v <;> cases h <;> rfl
theorem asI_i {v : Value} {r : Int32} (h : asI v = some r) : v = .int r := by cases v <;> cases h; rfl
theorem lA_spec {i : Nat} {L : Lv} {M M' : Mm} {v : Option Nat} (h : lA i L M = some (v, M')) : L[i]? = some (some (va_rf v)) ∧ M' = M := by
  unfold lA at h
  obtain ⟨o, h1, h⟩ := Option.bind_eq_some_iff.mp h
  obtain ⟨w, rfl, h⟩ := Option.bind_eq_some_iff.mp h
  obtain ⟨x, h2, h3⟩ := Option.map_eq_some_iff.mp h
  cases h3
  rw [asA_rf h2] at h1
  exact ⟨h1, rfl⟩
theorem ie_iload_n {q : Fin 4} {i : Nat} (hd : decode I.1 pc = .ok (.iload_n q, 1)) (hi : (q : Nat) = i) : IE .int I d pc (pc + 1) (lI i) := by
  intro L M w M' h
  obtain ⟨h1, rfl⟩ := lI_spec h
  exact ⟨LE.rf _, fun G st C _ _ _ k => pt_iload_n C hd hi h1 k⟩
theorem ie_iload {i : Nat} (hd : decode I.1 pc = .ok (.iload i, 2)) : IE .int I d pc (pc + 2) (lI i) := by
  intro L M w M' h
  obtain ⟨h1, rfl⟩ := lI_spec h
  exact ⟨LE.rf _, fun G st C _ _ _ k => pt_iload C hd h1 k⟩
theorem ij_lload {i : Nat} (hd : decode I.1 pc = .ok (.lload i, 2)) : IE .long I d pc (pc + 2) (lJ i) := by
  intro L M w M' h
  obtain ⟨h1, rfl⟩ := lJ_spec h
  exact ⟨LE.rf _, fun G st C _ _ _ k => pt_lload C hd h1 k⟩
theorem ia_aload_n {q : Fin 4} {i : Nat} (hd : decode I.1 pc = .ok (.aload_n q, 1)) (hi : (q : Nat) = i) : IE va_rf I d pc (pc + 1) (lA i) := by
  intro L M w M' h
  obtain ⟨h1, rfl⟩ := lA_spec h
  exact ⟨LE.rf _, fun G st C _ _ _ k => pt_aload_n C hd hi h1 k⟩
theorem ia_aload {i : Nat} (hd : decode I.1 pc = .ok (.aload i, 2)) : IE va_rf I d pc (pc + 2) (lA i) := by
  intro L M w M' h
  obtain ⟨h1, rfl⟩ := lA_spec h
  exact ⟨LE.rf _, fun G st C _ _ _ k => pt_aload C hd h1 k⟩
theorem ia_null (hd : decode I.1 pc = .ok (.aconst_null, 1)) : IE va_rf I d pc (pc + 1) cN := by
  intro L M w M' h
  obtain ⟨rfl, rfl⟩ := some2 h
  exact ⟨LE.rf _, fun G st C _ _ _ k => pt_null C hd k⟩
theorem ia_gets {i index : Nat} {Cn nm : String} (hq : (Cn, nm, i) ∈ STN) (hw : Cond.fieldLink I.2.1 index Cn nm "[I" ∈ TG) (hd : decode I.1 pc = .ok (.getstatic index, 3)) : IE va_rf I d pc (pc + 3) (cS i) := by
  intro L M w M' h
  obtain ⟨rfl, rfl⟩ := some2 h
  exact ⟨LE.rf _, fun G st C _ _ _ k => pt_gets C hq hw hd k⟩
theorem ie_bin {op : Int32 → Int32 → Option Int32} {n : Nat} {a b : DI} (ha : IE .int I d pc p1 a) (hb : IE .int I (d + 1) p1 p2 b)
    (hop : ∀ (G : GT) (L : Lv) (st : List Value) (M : Mm) (x y z : Int32), CX G I → csum st ≤ d → RM G M → op x y = some z → PT G (p2 + n) L (.int z :: st) M → PT G p2 L (.int y :: .int x :: st) M) : IE .int I d pc (p2 + n) (bI op a b) := by
  intro L M w M' h
  obtain ⟨⟨x, M1⟩, h1, h⟩ := Option.bind_eq_some_iff.mp h
  obtain ⟨⟨y, M2⟩, h2, h⟩ := Option.bind_eq_some_iff.mp h
  obtain ⟨z, h3, h4⟩ := Option.map_eq_some_iff.mp h
  cases h4
  obtain ⟨l1, k1⟩ := ha L M x M1 h1
  obtain ⟨l2, k2⟩ := hb L M1 y M2 h2
  exact ⟨l1.tr l2, fun G st C hs hw hr k => k1 G st C hs hw (hr.dn l2) (k2 G _ C (csum_int x hs) (hw.up l1) hr (hop G L st M2 x y w C hs hr h3 k))⟩
theorem ie_add {a b : DI} (ha : IE .int I d pc p1 a) (hb : IE .int I (d + 1) p1 p2 b) (hd : decode I.1 p2 = .ok (.iadd, 1)) : IE .int I d pc (p2 + 1) (bI oAdd a b) :=
  ie_bin ha hb fun G L st M x y z C _ _ h k => by cases h; exact pt_iadd C hd k
theorem ie_sub {a b : DI} (ha : IE .int I d pc p1 a) (hb : IE .int I (d + 1) p1 p2 b) (hd : decode I.1 p2 = .ok (.isub, 1)) : IE .int I d pc (p2 + 1) (bI oSub a b) :=
  ie_bin ha hb fun G L st M x y z C _ _ h k => by cases h; exact pt_isub C hd k
theorem ie_mul {a b : DI} (ha : IE .int I d pc p1 a) (hb : IE .int I (d + 1) p1 p2 b) (hd : decode I.1 p2 = .ok (.imul, 1)) : IE .int I d pc (p2 + 1) (bI oMul a b) :=
  ie_bin ha hb fun G L st M x y z C _ _ h k => by cases h; exact pt_imul C hd k
theorem ie_and {a b : DI} (ha : IE .int I d pc p1 a) (hb : IE .int I (d + 1) p1 p2 b) (hd : decode I.1 p2 = .ok (.iand, 1)) : IE .int I d pc (p2 + 1) (bI oAnd a b) :=
  ie_bin ha hb fun G L st M x y z C _ _ h k => by cases h; exact pt_iand C hd k
theorem ie_div {a b : DI} (ha : IE .int I d pc p1 a) (hb : IE .int I (d + 1) p1 p2 b) (hd : decode I.1 p2 = .ok (.idiv, 1)) : IE .int I d pc (p2 + 1) (bI oDiv a b) :=
  ie_bin ha hb fun G L st M x y z C _ _ h k => by
    unfold oDiv at h
    split at h
    · cases h
    · rename_i hy
      cases h
      exact pt_idiv C hd hy k
theorem ie_rem {a b : DI} (ha : IE .int I d pc p1 a) (hb : IE .int I (d + 1) p1 p2 b) (hd : decode I.1 p2 = .ok (.irem, 1)) : IE .int I d pc (p2 + 1) (bI oRem a b) :=
  ie_bin ha hb fun G L st M x y z C _ _ h k => by
    unfold oRem at h
    split at h
    · cases h
    · rename_i hy
      cases h
      exact pt_irem C hd hy k
theorem ie_max {a b : DI} {index : Nat} (ha : IE .int I d pc p1 a) (hb : IE .int I (d + 1) p1 p2 b) (w1 : Cond.methodLink I.2.1 index Lib.Math.max.name ∈ TG) (w2 : Cond.static Lib.Math.max.name ∈ TG) (w3 : Cond.initialized "java/lang/Math" ∈ TG) (w4 : Cond.code Lib.Math.max.name Lib.Math.max.code 2 (some .int) ∈ TG)
    (hfr : 1 ≤ I.2.2.2.1) (hlo : d + 13 ≤ I.2.2.2.2.1) (hd : decode I.1 p2 = .ok (.invokestatic index, 3)) : IE .int I d pc (p2 + 3) (bI oMax a b) :=
  ie_bin ha hb fun G L st M x y z C hs hr h k => by cases h; exact pt_max C w1 w2 w3 w4 hfr (Nat.le_trans (Nat.add_le_add_right hs 13) hlo) hr hd k
theorem ie_min {a b : DI} {index : Nat} (ha : IE .int I d pc p1 a) (hb : IE .int I (d + 1) p1 p2 b) (w1 : Cond.methodLink I.2.1 index Lib.Math.min.name ∈ TG) (w2 : Cond.static Lib.Math.min.name ∈ TG) (w3 : Cond.initialized "java/lang/Math" ∈ TG) (w4 : Cond.code Lib.Math.min.name Lib.Math.min.code 2 (some .int) ∈ TG)
    (hfr : 1 ≤ I.2.2.2.1) (hlo : d + 13 ≤ I.2.2.2.2.1) (hd : decode I.1 p2 = .ok (.invokestatic index, 3)) : IE .int I d pc (p2 + 3) (bI oMin a b) :=
  ie_bin ha hb fun G L st M x y z C hs hr h k => by cases h; exact pt_min C w1 w2 w3 w4 hfr (Nat.le_trans (Nat.add_le_add_right hs 13) hlo) hr hd k
theorem ie_neg {a : DI} (ha : IE .int I d pc p1 a) (hd : decode I.1 p1 = .ok (.ineg, 1)) : IE .int I d pc (p1 + 1) (nI1 a) := by
  intro L M w M' h
  obtain ⟨⟨x, M1⟩, h1, h⟩ := Option.map_eq_some_iff.mp h
  cases h
  obtain ⟨l1, k1⟩ := ha L M x M1 h1
  exact ⟨l1, fun G st C hs hw hr k => k1 G st C hs hw hr (pt_ineg C hd k)⟩
theorem ij_i2l {a : DI} (ha : IE .int I d pc p1 a) (hd : decode I.1 p1 = .ok (.i2l, 1)) : IE .long I d pc (p1 + 1) (iJ a) := by
  intro L M w M' h
  obtain ⟨⟨x, M1⟩, h1, h⟩ := Option.map_eq_some_iff.mp h
  cases h
  obtain ⟨l1, k1⟩ := ha L M x M1 h1
  exact ⟨l1, fun G st C hs hw hr k => k1 G st C hs hw hr (pt_i2l C hd k)⟩
theorem ij_bin {op : Int64 → Int64 → Option Int64} {a b : DJ} (ha : IE .long I d pc p1 a) (hb : IE .long I (d + 2) p1 p2 b)
    (hop : ∀ (G : GT) (L : Lv) (st : List Value) (M : Mm) (x y z : Int64), CX G I → op x y = some z → PT G (p2 + 1) L (.long z :: st) M → PT G p2 L (.long y :: .long x :: st) M) : IE .long I d pc (p2 + 1) (bJ op a b) := by
  intro L M w M' h
  obtain ⟨⟨x, M1⟩, h1, h⟩ := Option.bind_eq_some_iff.mp h
  obtain ⟨⟨y, M2⟩, h2, h⟩ := Option.bind_eq_some_iff.mp h
  obtain ⟨z, h3, h4⟩ := Option.map_eq_some_iff.mp h
  cases h4
  obtain ⟨l1, k1⟩ := ha L M x M1 h1
  obtain ⟨l2, k2⟩ := hb L M1 y M2 h2
  exact ⟨l1.tr l2, fun G st C hs hw hr k => k1 G st C hs hw (hr.dn l2) (k2 G _ C (csum_long x hs) (hw.up l1) hr (hop G L st M2 x y w C h3 k))⟩
theorem ij_add {a b : DJ} (ha : IE .long I d pc p1 a) (hb : IE .long I (d + 2) p1 p2 b) (hd : decode I.1 p2 = .ok (.ladd, 1)) : IE .long I d pc (p2 + 1) (bJ jAdd a b) :=
  ij_bin ha hb fun G L st M x y z C h k => by cases h; exact pt_ladd C hd k
theorem ij_mul {a b : DJ} (ha : IE .long I d pc p1 a) (hb : IE .long I (d + 2) p1 p2 b) (hd : decode I.1 p2 = .ok (.lmul, 1)) : IE .long I d pc (p2 + 1) (bJ jMul a b) :=
  ij_bin ha hb fun G L st M x y z C h k => by cases h; exact pt_lmul C hd k
/-- what a class's field row asks: its number, its table, the words -/
abbrev FW (ci : Nat) (Cn : String) (T : u_T) (N : Nat) : Prop := vwCl[ci]? = some (Cn, T, N) ∧ ∀ w ∈ u_ws Cn T N, w ∈ TG
theorem rdF_spec {ci k a : Nat} {M : Mm} {v : Value} (h : rdF ci k a M = some v) : ∃ fs, M.2.2 a = .inr (ci, fs) ∧ fs[k]? = some v := by
  unfold rdF at h
  split at h
  · rename_i c fs hM
    split at h
    · rename_i hc
      subst hc
      exact ⟨fs, hM, h⟩
    · cases h
  · cases h
theorem ie_fld {ci k index N : Nat} {Cn : String} {T : u_T} {e : DA} (he : IE va_rf I d pc p1 e) (hF : FW ci Cn T N) (hk : k < N) (hw : Cond.fieldLink I.2.1 index (T k).1 (T k).2.1 (T k).2.2.1 ∈ TG) (hd : decode I.1 p1 = .ok (.getfield index, 3)) : IE .int I d pc (p1 + 3) (fI ci k e) := by
  intro L M w M' h
  obtain ⟨⟨r, M1⟩, h1, h⟩ := Option.bind_eq_some_iff.mp h
  obtain ⟨a, h2, h⟩ := Option.bind_eq_some_iff.mp h
  obtain ⟨v, h3, h⟩ := Option.bind_eq_some_iff.mp h
  obtain ⟨x, h4, h5⟩ := Option.map_eq_some_iff.mp h
  cases h5
  have h2 : r = some a := h2
  subst h2
  rw [asI_i h4] at h3
  obtain ⟨fs, hM, hv⟩ := rdF_spec h3
  obtain ⟨l1, k1⟩ := he L M _ M1 h1
  exact ⟨l1, fun G st C hs hw1 hr k2 => k1 G st C hs hw1 hr (pt_get C hM hv hF.1 hk hF.2 hw hd k2)⟩
theorem ia_fld {ci k index N : Nat} {Cn : String} {T : u_T} {e : DA} (he : IE va_rf I d pc p1 e) (hF : FW ci Cn T N) (hk : k < N) (hw : Cond.fieldLink I.2.1 index (T k).1 (T k).2.1 (T k).2.2.1 ∈ TG) (hd : decode I.1 p1 = .ok (.getfield index, 3)) : IE va_rf I d pc (p1 + 3) (fA ci k e) := by
  intro L M w M' h
  obtain ⟨⟨r, M1⟩, h1, h⟩ := Option.bind_eq_some_iff.mp h
  obtain ⟨a, h2, h⟩ := Option.bind_eq_some_iff.mp h
  obtain ⟨v, h3, h⟩ := Option.bind_eq_some_iff.mp h
  obtain ⟨x, h4, h5⟩ := Option.map_eq_some_iff.mp h
  cases h5
  have h2 : r = some a := h2
  subst h2
  rw [asA_rf h4] at h3
  obtain ⟨fs, hM, hv⟩ := rdF_spec h3
  obtain ⟨l1, k1⟩ := he L M _ M1 h1
  exact ⟨l1, fun G st C hs hw1 hr k2 => k1 G st C hs hw1 hr (pt_get C hM hv hF.1 hk hF.2 hw hd k2)⟩
theorem rdI_spec {t a : Nat} {i x : Int32} {M : Mm} (h : rdI t a i M = some x) : ∃ n f, M.2.2 a = .inl (t, n, .inl f) ∧ vp_in i n ∧ x = f i.toNatClampNeg := by
  unfold rdI at h
  split at h
  · rename_i t' n f hM
    split at h
    · rename_i hc
      obtain ⟨rfl, hc⟩ := hc
      cases h
      exact ⟨n, f, hM, inb_in hc, rfl⟩
    · cases h
  · cases h
theorem rdJ_spec {a : Nat} {i : Int32} {x : Int64} {M : Mm} (h : rdJ a i M = some x) : ∃ n f, M.2.2 a = .inl (2, n, .inr (.inl f)) ∧ vp_in i n ∧ x = f i.toNatClampNeg := by
  unfold rdJ at h
  split at h
  · rename_i t' n f hM
    split at h
    · rename_i hc
      obtain ⟨rfl, hc⟩ := hc
      cases h
      exact ⟨n, f, hM, inb_in hc, rfl⟩
    · cases h
  · cases h
theorem rdA_spec {t a : Nat} {i : Int32} {x : Option Nat} {M : Mm} (h : rdA t a i M = some x) : ∃ n f, M.2.2 a = .inl (t, n, .inr (.inr (.inr (.inr f)))) ∧ vp_in i n ∧ x = f i.toNatClampNeg := by
  unfold rdA at h
  split at h
  · rename_i t' n f hM
    split at h
    · rename_i hc
      obtain ⟨rfl, hc⟩ := hc
      cases h
      exact ⟨n, f, hM, inb_in hc, rfl⟩
    · cases h
  · cases h
theorem ie_ald {e : DA} {i : DI} (he : IE va_rf I d pc p1 e) (hi : IE .int I (d + 1) p1 p2 i) (hd : decode I.1 p2 = .ok (.iaload, 1)) : IE .int I d pc (p2 + 1) (gI 0 e i) := by
  intro L M w M' h
  obtain ⟨⟨r, M1⟩, h1, h⟩ := Option.bind_eq_some_iff.mp h
  obtain ⟨a, h2, h⟩ := Option.bind_eq_some_iff.mp h
  obtain ⟨⟨j, M2⟩, h3, h⟩ := Option.bind_eq_some_iff.mp h
  obtain ⟨x, h4, h5⟩ := Option.map_eq_some_iff.mp h
  cases h5
  have h2 : r = some a := h2
  subst h2
  obtain ⟨n, f, hM, hin, rfl⟩ := rdI_spec h4
  obtain ⟨l1, k1⟩ := he L M _ M1 h1
  obtain ⟨l2, k2⟩ := hi L M1 _ M2 h3
  exact ⟨l1.tr l2, fun G st C hs hw hr k => k1 G st C hs hw (hr.dn l2) (k2 G _ C (csum_rf _ hs) (hw.up l1) hr (pt_iald C hM hin hd k))⟩
theorem ie_zald {e : DA} {i : DI} (he : IE va_rf I d pc p1 e) (hi : IE .int I (d + 1) p1 p2 i) (hd : decode I.1 p2 = .ok (.baload, 1)) : IE .int I d pc (p2 + 1) (gI 1 e i) := by
  intro L M w M' h
  obtain ⟨⟨r, M1⟩, h1, h⟩ := Option.bind_eq_some_iff.mp h
  obtain ⟨a, h2, h⟩ := Option.bind_eq_some_iff.mp h
  obtain ⟨⟨j, M2⟩, h3, h⟩ := Option.bind_eq_some_iff.mp h
  obtain ⟨x, h4, h5⟩ := Option.map_eq_some_iff.mp h
  cases h5
  have h2 : r = some a := h2
  subst h2
  obtain ⟨n, f, hM, hin, rfl⟩ := rdI_spec h4
  obtain ⟨l1, k1⟩ := he L M _ M1 h1
  obtain ⟨l2, k2⟩ := hi L M1 _ M2 h3
  exact ⟨l1.tr l2, fun G st C hs hw hr k => k1 G st C hs hw (hr.dn l2) (k2 G _ C (csum_rf _ hs) (hw.up l1) hr (pt_zald C hM hin hd k))⟩
theorem ij_ald {e : DA} {i : DI} (he : IE va_rf I d pc p1 e) (hi : IE .int I (d + 1) p1 p2 i) (hd : decode I.1 p2 = .ok (.laload, 1)) : IE .long I d pc (p2 + 1) (gJ e i) := by
  intro L M w M' h
  obtain ⟨⟨r, M1⟩, h1, h⟩ := Option.bind_eq_some_iff.mp h
  obtain ⟨a, h2, h⟩ := Option.bind_eq_some_iff.mp h
  obtain ⟨⟨j, M2⟩, h3, h⟩ := Option.bind_eq_some_iff.mp h
  obtain ⟨x, h4, h5⟩ := Option.map_eq_some_iff.mp h
  cases h5
  have h2 : r = some a := h2
  subst h2
  obtain ⟨n, f, hM, hin, rfl⟩ := rdJ_spec h4
  obtain ⟨l1, k1⟩ := he L M _ M1 h1
  obtain ⟨l2, k2⟩ := hi L M1 _ M2 h3
  exact ⟨l1.tr l2, fun G st C hs hw hr k => k1 G st C hs hw (hr.dn l2) (k2 G _ C (csum_rf _ hs) (hw.up l1) hr (pt_lald C hM hin hd k))⟩
theorem ia_ald {t : Nat} {e : DA} {i : DI} (he : IE va_rf I d pc p1 e) (hi : IE .int I (d + 1) p1 p2 i) (ht : 3 ≤ t ∧ t ≤ 5) (hd : decode I.1 p2 = .ok (.aaload, 1)) : IE va_rf I d pc (p2 + 1) (gA t e i) := by
  intro L M w M' h
  obtain ⟨⟨r, M1⟩, h1, h⟩ := Option.bind_eq_some_iff.mp h
  obtain ⟨a, h2, h⟩ := Option.bind_eq_some_iff.mp h
  obtain ⟨⟨j, M2⟩, h3, h⟩ := Option.bind_eq_some_iff.mp h
  obtain ⟨x, h4, h5⟩ := Option.map_eq_some_iff.mp h
  cases h5
  have h2 : r = some a := h2
  subst h2
  obtain ⟨n, f, hM, hin, rfl⟩ := rdA_spec h4
  obtain ⟨l1, k1⟩ := he L M _ M1 h1
  obtain ⟨l2, k2⟩ := hi L M1 _ M2 h3
  exact ⟨l1.tr l2, fun G st C hs hw hr k => k1 G st C hs hw (hr.dn l2) (k2 G _ C (csum_rf _ hs) (hw.up l1) hr (pt_aald C hM ht hin hd k))⟩
theorem ie_len {e : DA} (he : IE va_rf I d pc p1 e) (hd : decode I.1 p1 = .ok (.arraylength, 1)) : IE .int I d pc (p1 + 1) (nA e) := by
  intro L M w M' h
  obtain ⟨⟨r, M1⟩, h1, h⟩ := Option.bind_eq_some_iff.mp h
  obtain ⟨a, h2, h⟩ := Option.bind_eq_some_iff.mp h
  obtain ⟨n, h4, h5⟩ := Option.map_eq_some_iff.mp h
  cases h5
  have h2 : r = some a := h2
  subst h2
  unfold lenA at h4
  split at h4
  · rename_i t x hM
    split at h4
    · rename_i ht
      obtain ⟨l1, k1⟩ := he L M _ M1 h1
      exact ⟨l1, fun G st C hs hw hr k => k1 G st C hs hw hr (pt_alen C hM ht (Option.some.inj h4) rfl hd k)⟩
    · cases h4
  · cases h4
theorem ie_ofV {e : DV} (he : IV I d pc p1 e) : IE .int I d pc p1 (vI e) := by
  intro L M w M' h
  obtain ⟨⟨r, M1⟩, h1, h⟩ := Option.bind_eq_some_iff.mp h
  obtain ⟨v, h2, h⟩ := Option.bind_eq_some_iff.mp h
  obtain ⟨x, h4, h5⟩ := Option.map_eq_some_iff.mp h
  cases h5
  have h2 : r = some v := h2
  subst h2
  rw [asI_i h4] at h1
  obtain ⟨l1, k1⟩ := he L M _ M1 h1
  exact ⟨l1, fun G st C hs hw hr k => k1 G st C hs hw hr k⟩
theorem ia_ofV {e : DV} (he : IV I d pc p1 e) : IE va_rf I d pc p1 (vA e) := by
  intro L M w M' h
  obtain ⟨⟨r, M1⟩, h1, h⟩ := Option.bind_eq_some_iff.mp h
  obtain ⟨v, h2, h⟩ := Option.bind_eq_some_iff.mp h
  obtain ⟨x, h4, h5⟩ := Option.map_eq_some_iff.mp h
  cases h5
  have h2 : r = some v := h2
  subst h2
  rw [asA_rf h4] at h1
  obtain ⟨l1, k1⟩ := he L M _ M1 h1
  exact ⟨l1, fun G st C hs hw hr k => k1 G st C hs hw hr k⟩
/-- c ? a : b -/
theorem ie_tern {α : Type} {em : α → Value} {pT pF pTe pe : Nat} {c : DC} {a b : Lv → Mm → Option (α × Mm)} (hc : IC I d pc pT pF c) (ha : IE em I d pT pTe a) (hj : Jp I pTe pe) (hb : IE em I d pF p2 b) (hj2 : Jp I p2 pe) :
    IE em I d pc pe (fun L M => (c L M).bind fun q => if q.1 = true then a L q.2 else b L q.2) := by
  intro L M w M' h
  obtain ⟨⟨r, M1⟩, h1, h⟩ := Option.bind_eq_some_iff.mp h
  obtain ⟨l1, k1⟩ := hc L M _ M1 h1
  cases r with
  | true =>
    obtain ⟨l2, k2⟩ := ha L M1 w M' h
    exact ⟨l1.tr l2, fun G st C hs hw hr k => k1 G st C hs hw (hr.dn l2) (fun _ => k2 G st C hs (hw.up l1) hr (hj.pt C k)) (fun q => by cases q)⟩
  | false =>
    obtain ⟨l2, k2⟩ := hb L M1 w M' h
    exact ⟨l1.tr l2, fun G st C hs hw hr k => k1 G st C hs hw (hr.dn l2) (fun q => by cases q) (fun _ => k2 G st C hs (hw.up l1) hr (hj2.pt C k))⟩
/-- a condition's value: 1 or 0 -/
theorem ie_bool {pT pF pe : Nat} {c : DC} (hc : IC I d pc pT pF c) (h1 : decode I.1 pT = .ok (.iconst 1, 1)) (hj : Jp I (pT + 1) pe) (h0 : decode I.1 pF = .ok (.iconst 0, 1)) (hj2 : Jp I (pF + 1) pe) : IE .int I d pc pe (zI c) := by
  intro L M w M' h
  obtain ⟨⟨r, M1⟩, h2, h⟩ := Option.map_eq_some_iff.mp h
  cases h
  obtain ⟨l1, k1⟩ := hc L M _ M1 h2
  refine ⟨l1, fun G st C hs hw hr k => k1 G st C hs hw hr (fun q => ?_) (fun q => ?_)⟩
  · have q : r = true := q
    subst q
    exact pt_iconst C h1 rfl (hj.pt C k)
  · have q : r = false := q
    subst q
    exact pt_iconst C h0 rfl (hj2.pt C k)
end Exprs
