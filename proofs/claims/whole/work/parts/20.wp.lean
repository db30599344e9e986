/-! WEAKEST PRECONDITIONS of what the Java means -/
def wF (f : FN) (as : List Value) (M : Mm) (Q : Option Value → Mm → Prop) : Prop := ∃ v M', f as M = some (v, M') ∧ Q v M'
def wI (e : DI) (L : Lv) (M : Mm) (Q : Int32 → Mm → Prop) : Prop := ∃ v M', e L M = some (v, M') ∧ Q v M'
def wA (e : DA) (L : Lv) (M : Mm) (Q : Option Nat → Mm → Prop) : Prop := ∃ v M', e L M = some (v, M') ∧ Q v M'
def wJ (e : DJ) (L : Lv) (M : Mm) (Q : Int64 → Mm → Prop) : Prop := ∃ v M', e L M = some (v, M') ∧ Q v M'
def wC (e : DC) (L : Lv) (M : Mm) (Q : Bool → Mm → Prop) : Prop := ∃ v M', e L M = some (v, M') ∧ Q v M'
def wR (e : DR) (L : Lv) (M : Mm) (Q : List Value → Mm → Prop) : Prop := ∃ v M', e L M = some (v, M') ∧ Q v M'
def wV (e : DV) (L : Lv) (M : Mm) (Q : Option Value → Mm → Prop) : Prop := ∃ v M', e L M = some (v, M') ∧ Q v M'
def wS (s : DS) (L : Lv) (M : Mm) (Q : Lv → Mm → Nat → Option Value → Prop) : Prop := ∃ L' M' c v, s L M = some (L', M', c, v) ∧ Q L' M' c v
-- values by kind
def okI (o : Option Value) : Bool := match o with
  | some (.int _) => true
  | _ => false
def vlI (o : Option Value) : Int32 := match o with
  | some (.int x) => x
  | _ => 0
def okA (o : Option Value) : Bool := match o with
  | some (.ref _) => true
  | some .null => true
  | _ => false
def vlA (o : Option Value) : Option Nat := match o with
  | some (.ref a) => some a
  | _ => none
def okJ (o : Option Value) : Bool := match o with
  | some (.long _) => true
  | _ => false
def vlJ (o : Option Value) : Int64 := match o with
  | some (.long x) => x
  | _ => 0
def lkp (L : Lv) (i : Nat) : Option Value := (L[i]?).bind id
theorem okI_spec {o : Option Value} (h : okI o = true) : o = some (.int (vlI o)) := by
  cases o with
  | none => cases h
  | some v => cases v <;> first | rfl | cases h
theorem okA_spec {o : Option Value} (h : okA o = true) : o = some (va_rf (vlA o)) := by
  cases o with
  | none => cases h
  | some v => cases v <;> first | rfl | cases h
theorem okJ_spec {o : Option Value} (h : okJ o = true) : o = some (.long (vlJ o)) := by
  cases o with
  | none => cases h
  | some v => cases v <;> first | rfl | cases h
theorem asA_of (r : Option Nat) : asA (va_rf r) = some r := by cases r <;> rfl
theorem lkp_spec {L : Lv} {i : Nat} {v : Value} (h : lkp L i = some v) : L[i]? = some (some v) := by
  unfold lkp at h
  obtain ⟨o, h1, h2⟩ := Option.bind_eq_some_iff.mp h
  have h2 : o = some v := h2
  rw [h1, h2]
section WP
variable {L : Lv} {M : Mm}
theorem wI_cI {v : Int32} {Q : Int32 → Mm → Prop} (h : Q v M) : wI (cI v) L M Q := ⟨v, M, rfl, h⟩
theorem wI_lI {i : Nat} {v : Value} {x : Int32} {Q : Int32 → Mm → Prop} (h : lkp L i = some v) (h1 : asI v = some x) (k : Q x M) : wI (lI i) L M Q := by
  refine ⟨x, M, ?_, k⟩
  unfold lI
  rw [lkp_spec h]
  simp only [Option.bind_some, h1, Option.map_some]
theorem wA_lA {i : Nat} {v : Value} {x : Option Nat} {Q : Option Nat → Mm → Prop} (h : lkp L i = some v) (h1 : asA v = some x) (k : Q x M) : wA (lA i) L M Q := by
  refine ⟨x, M, ?_, k⟩
  unfold lA
  rw [lkp_spec h]
  simp only [Option.bind_some, h1, Option.map_some]
theorem wJ_lJ {i : Nat} {v : Value} {x : Int64} {Q : Int64 → Mm → Prop} (h : lkp L i = some v) (h1 : asJ v = some x) (k : Q x M) : wJ (lJ i) L M Q := by
  refine ⟨x, M, ?_, k⟩
  unfold lJ
  rw [lkp_spec h]
  simp only [Option.bind_some, h1, Option.map_some]
theorem wA_cN {Q : Option Nat → Mm → Prop} (h : Q none M) : wA cN L M Q := ⟨none, M, rfl, h⟩
theorem wA_cS {i : Nat} {Q : Option Nat → Mm → Prop} (h : Q (some i) M) : wA (cS i) L M Q := ⟨some i, M, rfl, h⟩
theorem wI_bI {op : Int32 → Int32 → Option Int32} {a b : DI} {Q : Int32 → Mm → Prop} (h : wI a L M fun x M1 => wI b L M1 fun y M2 => ∃ z, op x y = some z ∧ Q z M2) : wI (bI op a b) L M Q := by
  obtain ⟨x, M1, h1, y, M2, h2, z, h3, h4⟩ := h
  refine ⟨z, M2, ?_, h4⟩
  simp only [bI, h1, h2, h3, Option.bind_some, Option.map_some]
theorem wI_add {a b : DI} {Q : Int32 → Mm → Prop} (h : wI a L M fun x M1 => wI b L M1 fun y M2 => Q (x + y) M2) : wI (bI oAdd a b) L M Q := by
  obtain ⟨x, M1, h1, y, M2, h2, h4⟩ := h
  exact wI_bI ⟨x, M1, h1, y, M2, h2, _, rfl, h4⟩
theorem wI_sub {a b : DI} {Q : Int32 → Mm → Prop} (h : wI a L M fun x M1 => wI b L M1 fun y M2 => Q (x - y) M2) : wI (bI oSub a b) L M Q := by
  obtain ⟨x, M1, h1, y, M2, h2, h4⟩ := h
  exact wI_bI ⟨x, M1, h1, y, M2, h2, _, rfl, h4⟩
theorem wI_mul {a b : DI} {Q : Int32 → Mm → Prop} (h : wI a L M fun x M1 => wI b L M1 fun y M2 => Q (x * y) M2) : wI (bI oMul a b) L M Q := by
  obtain ⟨x, M1, h1, y, M2, h2, h4⟩ := h
  exact wI_bI ⟨x, M1, h1, y, M2, h2, _, rfl, h4⟩
theorem wI_and {a b : DI} {Q : Int32 → Mm → Prop} (h : wI a L M fun x M1 => wI b L M1 fun y M2 => Q (x &&& y) M2) : wI (bI oAnd a b) L M Q := by
  obtain ⟨x, M1, h1, y, M2, h2, h4⟩ := h
  exact wI_bI ⟨x, M1, h1, y, M2, h2, _, rfl, h4⟩
theorem wI_max {a b : DI} {Q : Int32 → Mm → Prop} (h : wI a L M fun x M1 => wI b L M1 fun y M2 => Q (if x < y then y else x) M2) : wI (bI oMax a b) L M Q := by
  obtain ⟨x, M1, h1, y, M2, h2, h4⟩ := h
  exact wI_bI ⟨x, M1, h1, y, M2, h2, _, rfl, h4⟩
theorem wI_min {a b : DI} {Q : Int32 → Mm → Prop} (h : wI a L M fun x M1 => wI b L M1 fun y M2 => Q (if y < x then y else x) M2) : wI (bI oMin a b) L M Q := by
  obtain ⟨x, M1, h1, y, M2, h2, h4⟩ := h
  exact wI_bI ⟨x, M1, h1, y, M2, h2, _, rfl, h4⟩
theorem wI_div {a b : DI} {Q : Int32 → Mm → Prop} (h : wI a L M fun x M1 => wI b L M1 fun y M2 => ¬ y = 0 ∧ Q (x / y) M2) : wI (bI oDiv a b) L M Q := by
  obtain ⟨x, M1, h1, y, M2, h2, h3, h4⟩ := h
  exact wI_bI ⟨x, M1, h1, y, M2, h2, _, by unfold oDiv; rw [if_neg h3], h4⟩
theorem wI_rem {a b : DI} {Q : Int32 → Mm → Prop} (h : wI a L M fun x M1 => wI b L M1 fun y M2 => ¬ y = 0 ∧ Q (x - x / y * y) M2) : wI (bI oRem a b) L M Q := by
  obtain ⟨x, M1, h1, y, M2, h2, h3, h4⟩ := h
  exact wI_bI ⟨x, M1, h1, y, M2, h2, _, by unfold oRem; rw [if_neg h3], h4⟩
theorem wI_neg {a : DI} {Q : Int32 → Mm → Prop} (h : wI a L M fun x M1 => Q (-x) M1) : wI (nI1 a) L M Q := by
  obtain ⟨x, M1, h1, h4⟩ := h
  exact ⟨-x, M1, by simp only [nI1, h1, Option.map_some], h4⟩
theorem wI_fI {ci k : Nat} {e : DA} {Q : Int32 → Mm → Prop} (h : wA e L M fun r M1 => ∃ a v x, r = some a ∧ rdF ci k a M1 = some v ∧ asI v = some x ∧ Q x M1) : wI (fI ci k e) L M Q := by
  obtain ⟨r, M1, h1, a, v, x, rfl, h2, h3, h4⟩ := h
  exact ⟨x, M1, by simp only [fI, h1, h2, h3, Option.bind_some, Option.map_some], h4⟩
theorem wA_fA {ci k : Nat} {e : DA} {Q : Option Nat → Mm → Prop} (h : wA e L M fun r M1 => ∃ a v x, r = some a ∧ rdF ci k a M1 = some v ∧ asA v = some x ∧ Q x M1) : wA (fA ci k e) L M Q := by
  obtain ⟨r, M1, h1, a, v, x, rfl, h2, h3, h4⟩ := h
  exact ⟨x, M1, by simp only [fA, h1, h2, h3, Option.bind_some, Option.map_some], h4⟩
theorem wI_gI {t : Nat} {e : DA} {i : DI} {Q : Int32 → Mm → Prop} (h : wA e L M fun r M1 => ∃ a, r = some a ∧ wI i L M1 fun j M2 => ∃ x, rdI t a j M2 = some x ∧ Q x M2) : wI (gI t e i) L M Q := by
  obtain ⟨r, M1, h1, a, rfl, j, M2, h3, x, hx, h5⟩ := h
  exact ⟨x, M2, by simp only [gI, h1, h3, hx, Option.bind_some, Option.map_some], h5⟩
theorem wA_gA {t : Nat} {e : DA} {i : DI} {Q : Option Nat → Mm → Prop} (h : wA e L M fun r M1 => ∃ a, r = some a ∧ wI i L M1 fun j M2 => ∃ x, rdA t a j M2 = some x ∧ Q x M2) : wA (gA t e i) L M Q := by
  obtain ⟨r, M1, h1, a, rfl, j, M2, h3, x, hx, h5⟩ := h
  exact ⟨x, M2, by simp only [gA, h1, h3, hx, Option.bind_some, Option.map_some], h5⟩
theorem wI_nA {e : DA} {Q : Int32 → Mm → Prop} (h : wA e L M fun r M1 => ∃ a n, r = some a ∧ lenA a M1 = some n ∧ Q (nI n) M1) : wI (nA e) L M Q := by
  obtain ⟨r, M1, h1, a, x, rfl, hx, h5⟩ := h
  exact ⟨_, M1, by simp only [nA, h1, hx, Option.bind_some, Option.map_some]; rfl, h5⟩
theorem wI_vI {e : DV} {Q : Int32 → Mm → Prop} (h : wV e L M fun v M1 => ∃ x, v = some (.int x) ∧ Q x M1) : wI (vI e) L M Q := by
  obtain ⟨v, M1, h1, x, rfl, h3⟩ := h
  exact ⟨x, M1, by simp only [vI, h1, asI, Option.bind_some, Option.map_some], h3⟩
theorem wA_vA {e : DV} {Q : Option Nat → Mm → Prop} (h : wV e L M fun v M1 => ∃ w x, v = some w ∧ asA w = some x ∧ Q x M1) : wA (vA e) L M Q := by
  obtain ⟨v, M1, h1, w, x, rfl, h2, h3⟩ := h
  exact ⟨x, M1, by simp only [vA, h1, h2, Option.bind_some, Option.map_some], h3⟩
theorem wI_tI {c : DC} {a b : DI} {Q : Int32 → Mm → Prop} (h : wC c L M fun r M1 => (r = true → wI a L M1 Q) ∧ (r = false → wI b L M1 Q)) : wI (tI c a b) L M Q := by
  obtain ⟨r, M1, h1, h2, h3⟩ := h
  cases r with
  | true =>
    obtain ⟨x, M2, h4, h5⟩ := h2 rfl
    exact ⟨x, M2, by simp only [tI, h1, h4, Option.bind_some, if_true], h5⟩
  | false =>
    obtain ⟨x, M2, h4, h5⟩ := h3 rfl
    exact ⟨x, M2, by simp only [tI, h1, h4, Option.bind_some]; rfl, h5⟩
theorem wA_tA {c : DC} {a b : DA} {Q : Option Nat → Mm → Prop} (h : wC c L M fun r M1 => (r = true → wA a L M1 Q) ∧ (r = false → wA b L M1 Q)) : wA (tA c a b) L M Q := by
  obtain ⟨r, M1, h1, h2, h3⟩ := h
  cases r with
  | true =>
    obtain ⟨x, M2, h4, h5⟩ := h2 rfl
    exact ⟨x, M2, by simp only [tA, h1, h4, Option.bind_some, if_true], h5⟩
  | false =>
    obtain ⟨x, M2, h4, h5⟩ := h3 rfl
    exact ⟨x, M2, by simp only [tA, h1, h4, Option.bind_some]; rfl, h5⟩
theorem wI_zI {c : DC} {Q : Int32 → Mm → Prop} (h : wC c L M fun r M1 => Q (if r = true then 1 else 0) M1) : wI (zI c) L M Q := by
  obtain ⟨r, M1, h1, h2⟩ := h
  exact ⟨_, M1, by simp only [zI, h1, Option.map_some], h2⟩
theorem wC_kI {op : Int32 → Int32 → Bool} {a b : DI} {Q : Bool → Mm → Prop} (h : wI a L M fun x M1 => wI b L M1 fun y M2 => Q (op x y) M2) : wC (kI op a b) L M Q := by
  obtain ⟨x, M1, h1, y, M2, h2, h4⟩ := h
  exact ⟨_, M2, by simp only [kI, h1, h2, Option.bind_some, Option.map_some], h4⟩
theorem wC_kJ {op : Int64 → Int64 → Bool} {a b : DJ} {Q : Bool → Mm → Prop} (h : wJ a L M fun x M1 => wJ b L M1 fun y M2 => Q (op x y) M2) : wC (kJ op a b) L M Q := by
  obtain ⟨x, M1, h1, y, M2, h2, h4⟩ := h
  exact ⟨_, M2, by simp only [kJ, h1, h2, Option.bind_some, Option.map_some], h4⟩
theorem wC_isN {e : DA} {Q : Bool → Mm → Prop} (h : wA e L M fun r M1 => Q r.isNone M1) : wC (isN e) L M Q := by
  obtain ⟨r, M1, h1, h2⟩ := h
  exact ⟨_, M1, by simp only [isN, h1, Option.map_some], h2⟩
theorem wC_notN {e : DA} {Q : Bool → Mm → Prop} (h : wA e L M fun r M1 => Q r.isSome M1) : wC (notN e) L M Q := by
  obtain ⟨r, M1, h1, h2⟩ := h
  exact ⟨_, M1, by simp only [notN, h1, Option.map_some], h2⟩
theorem wC_eqA {a b : DA} {Q : Bool → Mm → Prop} (h : wA a L M fun x M1 => wA b L M1 fun y M2 => hiA x = true ∧ hiA y = true ∧ Q (decide (x = y)) M2) : wC (eqA a b) L M Q := by
  obtain ⟨x, M1, h1, y, M2, h2, h3, h4, h5⟩ := h
  exact ⟨_, M2, by simp only [eqA, h1, h2, Option.bind_some]; rw [if_pos ⟨h3, h4⟩], h5⟩
theorem wC_and {a b : DC} {Q : Bool → Mm → Prop} (h : wC a L M fun r M1 => (r = true → wC b L M1 Q) ∧ (r = false → Q false M1)) : wC (andC a b) L M Q := by
  obtain ⟨r, M1, h1, h2, h3⟩ := h
  cases r with
  | true =>
    obtain ⟨x, M2, h4, h5⟩ := h2 rfl
    exact ⟨x, M2, by simp only [andC, h1, h4, Option.bind_some, if_true], h5⟩
  | false => exact ⟨false, M1, by simp only [andC, h1, Option.bind_some]; rfl, h3 rfl⟩
theorem wC_or {a b : DC} {Q : Bool → Mm → Prop} (h : wC a L M fun r M1 => (r = true → Q true M1) ∧ (r = false → wC b L M1 Q)) : wC (orC a b) L M Q := by
  obtain ⟨r, M1, h1, h2, h3⟩ := h
  cases r with
  | true => exact ⟨true, M1, by simp only [orC, h1, Option.bind_some, if_true], h2 rfl⟩
  | false =>
    obtain ⟨x, M2, h4, h5⟩ := h3 rfl
    exact ⟨x, M2, by simp only [orC, h1, Option.bind_some]; exact h4, h5⟩
theorem wC_not {a : DC} {Q : Bool → Mm → Prop} (h : wC a L M fun r M1 => Q (!r) M1) : wC (notC a) L M Q := by
  obtain ⟨r, M1, h1, h2⟩ := h
  exact ⟨_, M1, by simp only [notC, h1, Option.map_some], h2⟩
theorem wJ_cJ {v : Int64} {Q : Int64 → Mm → Prop} (h : Q v M) : wJ (cJ v) L M Q := ⟨v, M, rfl, h⟩
theorem wJ_iJ {a : DI} {Q : Int64 → Mm → Prop} (h : wI a L M fun x M1 => Q x.toInt64 M1) : wJ (iJ a) L M Q := by
  obtain ⟨x, M1, h1, h2⟩ := h
  exact ⟨_, M1, by simp only [iJ, h1, Option.map_some], h2⟩
theorem wJ_add {a b : DJ} {Q : Int64 → Mm → Prop} (h : wJ a L M fun x M1 => wJ b L M1 fun y M2 => Q (x + y) M2) : wJ (bJ jAdd a b) L M Q := by
  obtain ⟨x, M1, h1, y, M2, h2, h4⟩ := h
  exact ⟨x + y, M2, by simp only [bJ, h1, h2, jAdd, Option.bind_some, Option.map_some], h4⟩
theorem wJ_mul {a b : DJ} {Q : Int64 → Mm → Prop} (h : wJ a L M fun x M1 => wJ b L M1 fun y M2 => Q (x * y) M2) : wJ (bJ jMul a b) L M Q := by
  obtain ⟨x, M1, h1, y, M2, h2, h4⟩ := h
  exact ⟨x * y, M2, by simp only [bJ, h1, h2, jMul, Option.bind_some, Option.map_some], h4⟩
theorem wJ_gJ {e : DA} {i : DI} {Q : Int64 → Mm → Prop} (h : wA e L M fun r M1 => ∃ a, r = some a ∧ wI i L M1 fun j M2 => ∃ x, rdJ a j M2 = some x ∧ Q x M2) : wJ (gJ e i) L M Q := by
  obtain ⟨r, M1, h1, a, rfl, j, M2, h3, x, hx, h5⟩ := h
  exact ⟨x, M2, by simp only [gJ, h1, h3, hx, Option.bind_some, Option.map_some], h5⟩
theorem wR_0 {Q : List Value → Mm → Prop} (h : Q [] M) : wR r0 L M Q := ⟨[], M, rfl, h⟩
theorem wR_I {e : DI} {r : DR} {Q : List Value → Mm → Prop} (h : wI e L M fun x M1 => wR r L M1 fun vs M2 => Q (.int x :: vs) M2) : wR (rI e r) L M Q := by
  obtain ⟨x, M1, h1, vs, M2, h2, h3⟩ := h
  exact ⟨_, M2, by simp only [rI, h1, h2, Option.bind_some, Option.map_some], h3⟩
theorem wR_A {e : DA} {r : DR} {Q : List Value → Mm → Prop} (h : wA e L M fun x M1 => wR r L M1 fun vs M2 => Q (va_rf x :: vs) M2) : wR (rA e r) L M Q := by
  obtain ⟨x, M1, h1, vs, M2, h2, h3⟩ := h
  exact ⟨_, M2, by simp only [rA, h1, h2, Option.bind_some, Option.map_some], h3⟩
theorem wV_S {f : FN} {r : DR} {Q : Option Value → Mm → Prop} (h : wR r L M fun vs M1 => wF f vs M1 Q) : wV (ivS f r) L M Q := by
  obtain ⟨vs, M1, h1, v, M2, h2, h3⟩ := h
  exact ⟨v, M2, by simp only [ivS, h1, Option.bind_some]; exact h2, h3⟩
def isR (ci : Nat) (M : Mm) (vs : List Value) : Bool := match vs with
  | .ref b :: _ => isC ci M b
  | _ => false
theorem wV_V {ci : Nat} {f : FN} {r : DR} {Q : Option Value → Mm → Prop} (h : wR r L M fun vs M1 => isR ci M1 vs = true ∧ wF f vs M1 Q) : wV (ivV ci f r) L M Q := by
  obtain ⟨vs, M1, h1, h0, v, M2, h2, h3⟩ := h
  refine ⟨v, M2, ?_, h3⟩
  simp only [ivV, h1, Option.bind_some]
  unfold isR at h0
  split at h0
  · dsimp only
    rw [if_pos h0]
    exact h2
  · cases h0
theorem wS_nop {Q : Lv → Mm → Nat → Option Value → Prop} (h : Q L M 0 none) : wS nop L M Q := ⟨L, M, 0, none, rfl, h⟩
theorem wS_brk {Q : Lv → Mm → Nat → Option Value → Prop} (h : Q L M 1 none) : wS brk L M Q := ⟨L, M, 1, none, rfl, h⟩
theorem wS_cnt {Q : Lv → Mm → Nat → Option Value → Prop} (h : Q L M 2 none) : wS cnt L M Q := ⟨L, M, 2, none, rfl, h⟩
theorem wS_retV {Q : Lv → Mm → Nat → Option Value → Prop} (h : Q L M 3 none) : wS retV L M Q := ⟨L, M, 3, none, rfl, h⟩
theorem wS_retI {e : DI} {Q : Lv → Mm → Nat → Option Value → Prop} (h : wI e L M fun x M1 => Q L M1 3 (some (.int x))) : wS (retI e) L M Q := by
  obtain ⟨x, M1, h1, h2⟩ := h
  exact ⟨L, M1, 3, _, by simp only [retI, h1, Option.map_some], h2⟩
theorem wS_retZ {e : DI} {Q : Lv → Mm → Nat → Option Value → Prop} (h : wI e L M fun x M1 => (x = 0 ∨ x = 1) ∧ Q L M1 3 (some (.int x))) : wS (retZ e) L M Q := by
  obtain ⟨x, M1, h1, h2, h3⟩ := h
  exact ⟨L, M1, 3, _, by simp only [retZ, h1, Option.bind_some]; rw [if_pos h2], h3⟩
theorem wS_retA {e : DA} {Q : Lv → Mm → Nat → Option Value → Prop} (h : wA e L M fun x M1 => Q L M1 3 (some (va_rf x))) : wS (retA e) L M Q := by
  obtain ⟨x, M1, h1, h2⟩ := h
  exact ⟨L, M1, 3, _, by simp only [retA, h1, Option.map_some], h2⟩
theorem wS_seq {a b : DS} {Q : Lv → Mm → Nat → Option Value → Prop} (h : wS a L M fun L1 M1 c v => (c = 0 → wS b L1 M1 Q) ∧ (¬ c = 0 → Q L1 M1 c v)) : wS (seqS a b) L M Q := by
  obtain ⟨L1, M1, c, v, h1, h2, h3⟩ := h
  by_cases hc : c = 0
  · obtain ⟨L2, M2, c2, v2, h4, h5⟩ := h2 hc
    exact ⟨L2, M2, c2, v2, by simp only [seqS, h1, Option.bind_some]; rw [if_pos hc]; exact h4, h5⟩
  · exact ⟨L1, M1, c, v, by simp only [seqS, h1, Option.bind_some]; rw [if_neg hc], h3 hc⟩
theorem wS_setI {i : Nat} {e : DI} {Q : Lv → Mm → Nat → Option Value → Prop} (h : wI e L M fun x M1 => Q (stL i (.int x) L) M1 0 none) : wS (setI i e) L M Q := by
  obtain ⟨x, M1, h1, h2⟩ := h
  exact ⟨_, M1, 0, none, by simp only [setI, h1, Option.map_some], h2⟩
theorem wS_setJ {i : Nat} {e : DJ} {Q : Lv → Mm → Nat → Option Value → Prop} (h : wJ e L M fun x M1 => Q (stJ i (.long x) L) M1 0 none) : wS (setJ i e) L M Q := by
  obtain ⟨x, M1, h1, h2⟩ := h
  exact ⟨_, M1, 0, none, by simp only [setJ, h1, Option.map_some], h2⟩
theorem wS_setA {i : Nat} {e : DA} {Q : Lv → Mm → Nat → Option Value → Prop} (h : wA e L M fun x M1 => Q (stL i (va_rf x) L) M1 0 none) : wS (setA i e) L M Q := by
  obtain ⟨x, M1, h1, h2⟩ := h
  exact ⟨_, M1, 0, none, by simp only [setA, h1, Option.map_some], h2⟩
theorem wS_inc {i : Nat} {n : Int32} {v : Value} {x : Int32} {Q : Lv → Mm → Nat → Option Value → Prop} (h : lkp L i = some v) (h1 : asI v = some x) (k : Q (stL i (.int (x + n)) L) M 0 none) : wS (incI i n) L M Q := by
  refine ⟨_, M, 0, none, ?_, k⟩
  unfold incI
  rw [lkp_spec h]
  simp only [Option.bind_some, h1, Option.map_some]
theorem wS_pfI {ci k : Nat} {o : DA} {e : DI} {Q : Lv → Mm → Nat → Option Value → Prop} (h : wA o L M fun r M1 => ∃ a, r = some a ∧ wI e L M1 fun x M2 => ∃ M3, wrF ci k a (.int x) M2 = some M3 ∧ Q L M3 0 none) : wS (pfI ci k o e) L M Q := by
  obtain ⟨r, M1, h1, a, rfl, x, M2, h3, M3, hx, h5⟩ := h
  exact ⟨L, M3, 0, none, by simp only [pfI, h1, h3, hx, Option.bind_some, Option.map_some], h5⟩
theorem wS_pfA {ci k : Nat} {o e : DA} {Q : Lv → Mm → Nat → Option Value → Prop} (h : wA o L M fun r M1 => ∃ a, r = some a ∧ wA e L M1 fun x M2 => ∃ M3, wrF ci k a (va_rf x) M2 = some M3 ∧ Q L M3 0 none) : wS (pfA ci k o e) L M Q := by
  obtain ⟨r, M1, h1, a, rfl, x, M2, h3, M3, hx, h5⟩ := h
  exact ⟨L, M3, 0, none, by simp only [pfA, h1, h3, hx, Option.bind_some, Option.map_some], h5⟩
theorem wS_upF {ci k : Nat} {o : DA} {op : Int32 → Int32 → Option Int32} {g : Int32 → Int32 → Int32} (hg : op = fun x y => some (g x y)) {e : DI} {Q : Lv → Mm → Nat → Option Value → Prop} (h : wA o L M fun r M1 => ∃ a v x, r = some a ∧ rdF ci k a M1 = some v ∧ asI v = some x ∧ wI e L M1 fun y M2 => ∃ M3, wrF ci k a (.int (g x y)) M2 = some M3 ∧ Q L M3 0 none) : wS (upF ci k o op e) L M Q := by
  subst hg
  obtain ⟨r, M1, h1, a, v, x, rfl, h2, h3, y, M2, h4, M3, h5, h6⟩ := h
  exact ⟨L, M3, 0, none, by simp only [upF, h1, h2, h3, h4, h5, Option.bind_some, Option.map_some], h6⟩
theorem wS_upAdd {ci k : Nat} {o : DA} {e : DI} {Q : Lv → Mm → Nat → Option Value → Prop} (h : wA o L M fun r M1 => ∃ a v x, r = some a ∧ rdF ci k a M1 = some v ∧ asI v = some x ∧ wI e L M1 fun y M2 => ∃ M3, wrF ci k a (.int (x + y)) M2 = some M3 ∧ Q L M3 0 none) : wS (upF ci k o oAdd e) L M Q := wS_upF (g := fun x y => x + y) rfl h
theorem wS_upSub {ci k : Nat} {o : DA} {e : DI} {Q : Lv → Mm → Nat → Option Value → Prop} (h : wA o L M fun r M1 => ∃ a v x, r = some a ∧ rdF ci k a M1 = some v ∧ asI v = some x ∧ wI e L M1 fun y M2 => ∃ M3, wrF ci k a (.int (x - y)) M2 = some M3 ∧ Q L M3 0 none) : wS (upF ci k o oSub e) L M Q := wS_upF (g := fun x y => x - y) rfl h
theorem wS_paI {t : Nat} {o : DA} {i e : DI} {Q : Lv → Mm → Nat → Option Value → Prop} (h : wA o L M fun r M1 => ∃ a, r = some a ∧ wI i L M1 fun j M2 => wI e L M2 fun x M3 => (t = 0 ∨ (t = 1 ∧ (x = 0 ∨ x = 1))) ∧ ∃ M4, wrI t a j x M3 = some M4 ∧ Q L M4 0 none) : wS (paI t o i e) L M Q := by
  obtain ⟨r, M1, h1, a, rfl, j, M2, h3, x, M3, h4, h0, M4, hx, h6⟩ := h
  refine ⟨L, M4, 0, none, ?_, h6⟩
  simp only [paI, h1, h3, h4, Option.bind_some]
  rw [if_pos h0, hx]
  rfl
theorem wS_paA {t : Nat} {o : DA} {i : DI} {e : DA} {Q : Lv → Mm → Nat → Option Value → Prop} (h : wA o L M fun r M1 => ∃ a, r = some a ∧ wI i L M1 fun j M2 => wA e L M2 fun x M3 => ∃ M4, wrA t a j x M3 = some M4 ∧ Q L M4 0 none) : wS (paA t o i e) L M Q := by
  obtain ⟨r, M1, h1, a, rfl, j, M2, h3, x, M3, h4, M4, hx, h6⟩ := h
  refine ⟨L, M4, 0, none, ?_, h6⟩
  simp only [paA, h1, h3, h4, Option.bind_some]
  rw [hx]
  rfl
theorem wS_exV {e : DV} {Q : Lv → Mm → Nat → Option Value → Prop} (h : wV e L M fun v M1 => v = none ∧ Q L M1 0 none) : wS (exV e) L M Q := by
  obtain ⟨v, M1, h1, rfl, h3⟩ := h
  exact ⟨L, M1, 0, none, by simp only [exV, h1, Option.bind_some], h3⟩
theorem wS_exP {e : DV} {Q : Lv → Mm → Nat → Option Value → Prop} (h : wV e L M fun v M1 => ∃ x, v = some (.int x) ∧ Q L M1 0 none) : wS (exP e) L M Q := by
  obtain ⟨v, M1, h1, x, rfl, h3⟩ := h
  refine ⟨L, M1, 0, none, ?_, h3⟩
  simp only [exP, h1, Option.bind_some]
  exact if_pos rfl
theorem wS_if {c : DC} {a b : DS} {Q : Lv → Mm → Nat → Option Value → Prop} (h : wC c L M fun r M1 => (r = true → wS a L M1 Q) ∧ (r = false → wS b L M1 Q)) : wS (ifS c a b) L M Q := by
  obtain ⟨r, M1, h1, h2, h3⟩ := h
  cases r with
  | true =>
    obtain ⟨L2, M2, c2, v2, h4, h5⟩ := h2 rfl
    exact ⟨L2, M2, c2, v2, by simp only [ifS, h1, Option.bind_some, if_true]; exact h4, h5⟩
  | false =>
    obtain ⟨L2, M2, c2, v2, h4, h5⟩ := h3 rfl
    exact ⟨L2, M2, c2, v2, by simp only [ifS, h1, Option.bind_some]; exact h4, h5⟩
theorem wS_scp {k : Nat} {a : DS} {Q : Lv → Mm → Nat → Option Value → Prop} (h : wS a L M fun L1 M1 c v => Q (clr k L1) M1 c v) : wS (scp k a) L M Q := by
  obtain ⟨L1, M1, c, v, h1, h2⟩ := h
  exact ⟨_, M1, c, v, by simp only [scp, h1, Option.map_some], h2⟩
theorem wS_sup {Q : Lv → Mm → Nat → Option Value → Prop} (h : wA (lA 0) L M fun r M1 => ∃ a, r = some a ∧ Q L M1 0 none) : wS sup L M Q := by
  obtain ⟨r, M1, h1, a, rfl, h3⟩ := h
  exact ⟨L, M1, 0, none, by simp only [sup, h1, Option.bind_some], h3⟩
theorem wF_run {n : Nat} {b : DS} {as : List Value} {Q : Option Value → Mm → Prop} (h : cat1 as = true ∧ as.length ≤ n ∧ wS b (mkL n as) M fun _ M1 c v => c = 3 ∧ Q v M1) : wF (runM n b) as M Q := by
  obtain ⟨h1, h2, L1, M1, c, v, h3, h4, h5⟩ := h
  refine ⟨v, M1, ?_, h5⟩
  unfold runM
  rw [if_pos ⟨h1, h2⟩, h3]
  simp only [Option.bind_some]
  rw [if_pos h4]
theorem wF_of {f : FN} {as : List Value} {v : Option Value} {M' : Mm} {Q : Option Value → Mm → Prop} (h : f as M = some (v, M')) (k : Q v M') : wF f as M Q := ⟨v, M', h, k⟩
theorem wF_eq {f : FN} {as : List Value} {v : Option Value} {M' : Mm} (h : wF f as M fun w M1 => w = v ∧ M1 = M') : f as M = some (v, M') := by
  obtain ⟨w, M1, h1, rfl, rfl⟩ := h
  exact h1
theorem wF.mono {f : FN} {as : List Value} {Q Q' : Option Value → Mm → Prop} (h : wF f as M Q) (k : ∀ v M', Q v M' → Q' v M') : wF f as M Q' := by
  obtain ⟨v, M', h1, h2⟩ := h
  exact ⟨v, M', h1, k v M' h2⟩
theorem wS.mono {s : DS} {Q Q' : Lv → Mm → Nat → Option Value → Prop} (h : wS s L M Q) (k : ∀ L' M' c v, Q L' M' c v → Q' L' M' c v) : wS s L M Q' := by
  obtain ⟨L', M', c, v, h1, h2⟩ := h
  exact ⟨L', M', c, v, h1, k _ _ _ _ h2⟩
end WP
theorem rdF_of {ci k a : Nat} {M : Mm} {fs : List Value} {v : Value} (h : M.2.2 a = .inr (ci, fs)) (hv : fs[k]? = some v) : rdF ci k a M = some v := by
  unfold rdF
  rw [h]
  exact (if_pos rfl).trans hv
theorem wrF_of {ci k a : Nat} {M : Mm} {fs : List Value} {v : Value} (h : M.2.2 a = .inr (ci, fs)) (hl : k < fs.length) : wrF ci k a v M = some (setC M a (.inr (ci, fs.set k v))) := by
  unfold wrF
  rw [h]
  exact if_pos ⟨rfl, hl⟩
theorem rdI_of {t a n : Nat} {M : Mm} {f : Nat → Int32} {j : Int32} (h : M.2.2 a = .inl (t, n, .inl f)) (hj : inb j n = true) : rdI t a j M = some (f j.toNatClampNeg) := by
  unfold rdI
  rw [h]
  exact if_pos ⟨rfl, hj⟩
theorem rdA_of {t a n : Nat} {M : Mm} {f : Nat → Option Nat} {j : Int32} (h : M.2.2 a = .inl (t, n, .inr (.inr (.inr (.inr f))))) (hj : inb j n = true) : rdA t a j M = some (f j.toNatClampNeg) := by
  unfold rdA
  rw [h]
  exact if_pos ⟨rfl, hj⟩
theorem wrI_of {t a n : Nat} {M : Mm} {f : Nat → Int32} {j x : Int32} (h : M.2.2 a = .inl (t, n, .inl f)) (h5 : 5 ≤ a) (hj : inb j n = true) : wrI t a j x M = some (setC M a (.inl (t, n, .inl (upd f j.toNatClampNeg x)))) := by
  unfold wrI
  rw [h]
  exact if_pos ⟨rfl, hj, h5⟩
theorem wrA_of {t a n : Nat} {M : Mm} {f : Nat → Option Nat} {j : Int32} {r : Option Nat} (h : M.2.2 a = .inl (t, n, .inr (.inr (.inr (.inr f))))) (h5 : 5 ≤ a) (hj : inb j n = true) (hr : isE t M r = true) : wrA t a j r M = some (setC M a (.inl (t, n, .inr (.inr (.inr (.inr (va_up f j.toNatClampNeg r))))))) := by
  unfold wrA
  rw [h]
  exact if_pos ⟨rfl, hj, h5, hr⟩
theorem lenA_of {t a : Nat} {M : Mm} {x : vp_A} (h : M.2.2 a = .inl (t, x)) (ht : t ≤ 5) : lenA a M = some x.1 := by
  unfold lenA
  rw [h]
  exact if_pos ht
theorem isC_of {ci a : Nat} {M : Mm} {fs : List Value} (h : M.2.2 a = .inr (ci, fs)) : isC ci M a = true := by
  unfold isC
  rw [h]
  exact beq_self_eq_true ci
theorem isR_of {ci a : Nat} {M : Mm} {fs as : List Value} (h : M.2.2 a = .inr (ci, fs)) : isR ci M (.ref a :: as) = true := isC_of h
theorem inb_nI {j n : Nat} (h : j < n) (hn : n < 2 ^ 31) : inb (nI j) n = true := by
  unfold inb
  have := nI_toInt (n := j) (by omega)
  rw [this]
  simp
  omega
/-- a loop: I n holds with n rounds left at most -/
theorem wS_wh {c : DC} {b u : DS} {Q : Lv → Mm → Nat → Option Value → Prop} (I : Nat → Lv → Mm → Prop)
    (hs : ∀ n L M, I n L M → wC c L M fun r M1 => (r = false → Q L M1 0 none) ∧ (r = true → wS b L M1 fun L2 M2 k v => (k = 1 → Q L2 M2 0 none) ∧ (k = 3 → Q L2 M2 3 v) ∧ (¬ k = 1 → ¬ k = 3 → wS u L2 M2 fun L3 M3 k3 _ => k3 = 0 ∧ ∃ m, m < n ∧ I m L3 M3))) :
    ∀ (n : Nat) (L : Lv) (M : Mm), I n L M → n < big → wS (whS c b u) L M Q := by
  have key : ∀ (N n : Nat) (L : Lv) (M : Mm), I n L M → n < N → wS (whN c b u N) L M Q := by
    intro N
    induction N with
    | zero => intro n L M _ h; exact absurd h (Nat.not_lt_zero _)
    | succ N ih =>
      intro n L M hI hn
      obtain ⟨r, M1, h1, h2, h3⟩ := hs n L M hI
      cases r with
      | false => exact ⟨L, M1, 0, none, by simp only [whN, h1, Option.bind_some]; rfl, h2 rfl⟩
      | true =>
        obtain ⟨L2, M2, k, v, h4, h5, h6, h7⟩ := h3 rfl
        by_cases k1 : k = 1
        · exact ⟨L2, M2, 0, none, by simp only [whN, h1, h4, Option.bind_some, if_true]; rw [if_pos k1], h5 k1⟩
        · by_cases k3 : k = 3
          · refine ⟨L2, M2, 3, v, ?_, h6 k3⟩
            simp only [whN, h1, h4, Option.bind_some, if_true]
            rw [if_neg k1, if_pos k3, k3]
          · obtain ⟨L3, M3, c3, v3, h8, h9, m, hm, hI'⟩ := h7 k1 k3
            obtain ⟨L4, M4, c4, v4, g1, g2⟩ := ih m L3 M3 hI' (by omega)
            refine ⟨L4, M4, c4, v4, ?_, g2⟩
            simp only [whN, h1, h4, Option.bind_some, if_true]
            rw [if_neg k1, if_neg k3, h8]
            simp only [Option.bind_some]
            rw [if_pos h9]
            exact g1
  intro n L M hI hn
  exact key big n L M hI hn
