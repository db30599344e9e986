/-! what changes nothing: conditions and values told at once, with no branches -/
section PUR
variable {L : Lv} {M : Mm}
def pI (e : DI) (L : Lv) (M : Mm) (v : Int32) : Prop := e L M = some (v, M)
def pC (c : DC) (L : Lv) (M : Mm) (b : Bool) : Prop := c L M = some (b, M)
def pA (e : DA) (L : Lv) (M : Mm) (r : Option Nat) : Prop := e L M = some (r, M)
def pR (r : DR) (L : Lv) (M : Mm) (vs : List Value) : Prop := r L M = some (vs, M)
theorem wI_p {e : DI} {v : Int32} {Q : Int32 → Mm → Prop} (h : pI e L M v) (k : Q v M) : wI e L M Q := ⟨v, M, h, k⟩
theorem wC_p {c : DC} {v : Bool} {Q : Bool → Mm → Prop} (h : pC c L M v) (k : Q v M) : wC c L M Q := ⟨v, M, h, k⟩
theorem wA_p {e : DA} {v : Option Nat} {Q : Option Nat → Mm → Prop} (h : pA e L M v) (k : Q v M) : wA e L M Q := ⟨v, M, h, k⟩
theorem pI_of {e : DI} {v : Int32} (h : wI e L M fun x M1 => x = v ∧ M1 = M) : pI e L M v := by
  obtain ⟨x, M1, h1, rfl, rfl⟩ := h
  exact h1
theorem pC_of {e : DC} {v : Bool} (h : wC e L M fun x M1 => x = v ∧ M1 = M) : pC e L M v := by
  obtain ⟨x, M1, h1, rfl, rfl⟩ := h
  exact h1
theorem pA_of {e : DA} {v : Option Nat} (h : wA e L M fun x M1 => x = v ∧ M1 = M) : pA e L M v := by
  obtain ⟨x, M1, h1, rfl, rfl⟩ := h
  exact h1
theorem pR_of {e : DR} {v : List Value} (h : wR e L M fun x M1 => x = v ∧ M1 = M) : pR e L M v := by
  obtain ⟨x, M1, h1, rfl, rfl⟩ := h
  exact h1
theorem pI_cI {v : Int32} : pI (cI v) L M v := rfl
theorem pI_lI {i : Nat} {x : Int32} (h : lkp L i = some (.int x)) : pI (lI i) L M x := pI_of (wI_lI h rfl ⟨rfl, rfl⟩)
theorem pA_lA {i : Nat} {a : Nat} (h : lkp L i = some (.ref a)) : pA (lA i) L M (some a) := pA_of (wA_lA h rfl ⟨rfl, rfl⟩)
theorem pI_fI {ci k a : Nat} {e : DA} {fs : List Value} {x : Int32} (h : pA e L M (some a)) (hM : M.2.2 a = .inr (ci, fs)) (hf : fs[k]? = some (.int x)) : pI (fI ci k e) L M x := pI_of (wI_fI (wA_p h ⟨a, _, x, rfl, rdF_of hM hf, rfl, rfl, rfl⟩))
theorem pA_fA {ci k a b : Nat} {e : DA} {fs : List Value} (h : pA e L M (some a)) (hM : M.2.2 a = .inr (ci, fs)) (hf : fs[k]? = some (.ref b)) : pA (fA ci k e) L M (some b) := pA_of (wA_fA (wA_p h ⟨a, _, some b, rfl, rdF_of hM hf, rfl, rfl, rfl⟩))
theorem pI_gI {t a n : Nat} {e : DA} {i : DI} {f : Nat → Int32} {j : Int32} (h : pA e L M (some a)) (hi : pI i L M j) (hM : M.2.2 a = aI t n f) (hj : inb j n = true) : pI (gI t e i) L M (f j.toNatClampNeg) := pI_of (wI_gI (wA_p h ⟨a, rfl, wI_p hi ⟨_, rdI_of hM hj, rfl, rfl⟩⟩))
theorem pA_gA {t a n : Nat} {e : DA} {i : DI} {f : Nat → Option Nat} {j : Int32} (h : pA e L M (some a)) (hi : pI i L M j) (hM : M.2.2 a = aR t n f) (hj : inb j n = true) : pA (gA t e i) L M (f j.toNatClampNeg) := pA_of (wA_gA (wA_p h ⟨a, rfl, wI_p hi ⟨_, rdA_of hM hj, rfl, rfl⟩⟩))
theorem pI_add {a b : DI} {x y : Int32} (h : pI a L M x) (g : pI b L M y) : pI (bI oAdd a b) L M (x + y) := pI_of (wI_add (wI_p h (wI_p g ⟨rfl, rfl⟩)))
theorem pI_sub {a b : DI} {x y : Int32} (h : pI a L M x) (g : pI b L M y) : pI (bI oSub a b) L M (x - y) := pI_of (wI_sub (wI_p h (wI_p g ⟨rfl, rfl⟩)))
theorem pI_mul {a b : DI} {x y : Int32} (h : pI a L M x) (g : pI b L M y) : pI (bI oMul a b) L M (x * y) := pI_of (wI_mul (wI_p h (wI_p g ⟨rfl, rfl⟩)))
theorem pI_div {a b : DI} {x y : Int32} (h : pI a L M x) (g : pI b L M y) (h0 : ¬ y = 0) : pI (bI oDiv a b) L M (x / y) := pI_of (wI_div (wI_p h (wI_p g ⟨h0, rfl, rfl⟩)))
theorem pI_rem {a b : DI} {x y : Int32} (h : pI a L M x) (g : pI b L M y) (h0 : ¬ y = 0) : pI (bI oRem a b) L M (x - x / y * y) := pI_of (wI_rem (wI_p h (wI_p g ⟨h0, rfl, rfl⟩)))
theorem pI_zI {c : DC} {b : Bool} (h : pC c L M b) : pI (zI c) L M (if b = true then 1 else 0) := pI_of (wI_zI (wC_p h ⟨rfl, rfl⟩))
theorem pI_tI {c : DC} {a e : DI} {b : Bool} {x y : Int32} (h : pC c L M b) (ha : pI a L M x) (he : pI e L M y) : pI (tI c a e) L M (if b = true then x else y) := pI_of (wI_tI (wC_p h ⟨fun hb => wI_p ha ⟨by rw [if_pos hb], rfl⟩, fun hb => wI_p he ⟨by rw [hb]; rfl, rfl⟩⟩))
theorem pC_kI {op : Int32 → Int32 → Bool} {a b : DI} {x y : Int32} (h : pI a L M x) (g : pI b L M y) : pC (kI op a b) L M (op x y) := pC_of (wC_kI (wI_p h (wI_p g ⟨rfl, rfl⟩)))
theorem pC_and {a b : DC} {x y : Bool} (h : pC a L M x) (g : pC b L M y) : pC (andC a b) L M (x && y) := pC_of (wC_and (wC_p h ⟨fun hb => wC_p g ⟨by rw [hb]; rfl, rfl⟩, fun hb => ⟨by rw [hb]; rfl, rfl⟩⟩))
theorem pC_or {a b : DC} {x y : Bool} (h : pC a L M x) (g : pC b L M y) : pC (orC a b) L M (x || y) := pC_of (wC_or (wC_p h ⟨fun hb => ⟨by rw [hb]; rfl, rfl⟩, fun hb => wC_p g ⟨by rw [hb]; rfl, rfl⟩⟩))
theorem pC_not {a : DC} {x : Bool} (h : pC a L M x) : pC (notC a) L M (!x) := pC_of (wC_not (wC_p h ⟨rfl, rfl⟩))
theorem pC_isN {e : DA} {r : Option Nat} (h : pA e L M r) : pC (isN e) L M r.isNone := pC_of (wC_isN (wA_p h ⟨rfl, rfl⟩))
theorem pC_notN {e : DA} {r : Option Nat} (h : pA e L M r) : pC (notN e) L M r.isSome := pC_of (wC_notN (wA_p h ⟨rfl, rfl⟩))
theorem pR_0 : pR r0 L M [] := rfl
theorem pR_I {e : DI} {r : DR} {x : Int32} {vs : List Value} (h : pI e L M x) (g : pR r L M vs) : pR (rI e r) L M (.int x :: vs) := pR_of (wR_I (wI_p h ⟨vs, M, g, rfl, rfl⟩))
theorem pR_A {e : DA} {r : DR} {x : Option Nat} {vs : List Value} (h : pA e L M x) (g : pR r L M vs) : pR (rA e r) L M (va_rf x :: vs) := pR_of (wR_A (wA_p h ⟨vs, M, g, rfl, rfl⟩))
theorem pI_vS {f : FN} {r : DR} {vs : List Value} {x : Int32} (h : pR r L M vs) (hf : f vs M = some (some (.int x), M)) : pI (vI (ivS f r)) L M x := pI_of (wI_vI (wV_S ⟨vs, M, h, _, M, hf, x, rfl, rfl, rfl⟩))
theorem pI_vV {ci a : Nat} {f : FN} {r : DR} {vs : List Value} {fs : List Value} {x : Int32} (h : pR r L M (.ref a :: vs)) (hM : M.2.2 a = .inr (ci, fs)) (hf : f (.ref a :: vs) M = some (some (.int x), M)) : pI (vI (ivV ci f r)) L M x := pI_of (wI_vI (wV_V ⟨_, M, h, isR_of hM, _, M, hf, x, rfl, rfl, rfl⟩))
end PUR
def bz (b : Bool) : Int32 := if b = true then 1 else 0
theorem bz_ne (b : Bool) : oNe (bz b) 0 = b := by cases b <;> rfl
theorem bz_01 (b : Bool) : bz b = 0 ∨ bz b = 1 := by cases b <;> simp [bz]
def isIn (v a b : Int32) : Bool := decide (a ≤ v) && decide (v ≤ b)
theorem sp_in (v a b : Int32) (M : Mm) : F_X12_in [.int v, .int a, .int b] M = some (some (.int (bz (isIn v a b))), M) := by
  apply wF_eq
  refine wF_run ⟨rfl, Nat.le_of_ble_eq_true rfl, wS_retZ (wI_p (pI_zI (pC_and (pC_kI (pI_lI rfl) (pI_lI rfl)) (pC_kI (pI_lI rfl) (pI_lI rfl)))) ⟨bz_01 _, rfl, rfl, rfl⟩)⟩
