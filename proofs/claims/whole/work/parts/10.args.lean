/-! THE CODE DOES WHAT IT MEANS, third part: arguments, calls, new cells, statements, methods -/
def MA (y : MethodName) (I : MI) (f : FN) : Prop := (∀ (as : List Value) (M : Mm) (v : Option Value) (M' : Mm), f as M = some (v, M') → LE M M') ∧ ∀ l : Launch, l.flags = flags0 → MS l y I f
section Args
variable {I J : MI} {d pc p1 p2 n : Nat}
theorem ir_nil : IR I d pc pc 0 r0 := by
  intro L M w M' h
  obtain ⟨rfl, rfl⟩ := some2 h
  exact ⟨LE.rf _, rfl, fun G st C hs hw hr k => k⟩
theorem ir_int {e : DI} {r : DR} (he : IE .int I d pc p1 e) (hrr : IR I (d + 1) p1 p2 n r) : IR I d pc p2 (n + 1) (rI e r) := by
  intro L M w M' h
  obtain ⟨⟨x, M1⟩, h1, h⟩ := Option.bind_eq_some_iff.mp h
  obtain ⟨⟨vs, M2⟩, h2, h⟩ := Option.map_eq_some_iff.mp h
  cases h
  obtain ⟨l1, k1⟩ := he L M x M1 h1
  obtain ⟨l2, n2, k2⟩ := hrr L M1 vs M2 h2
  refine ⟨l1.tr l2, by rw [List.length_cons, n2], fun G st C hs hw hr k => k1 G st C hs hw (hr.dn l2) (k2 G _ C (csum_int x hs) (hw.up l1) hr ?_)⟩
  have e : (Value.int x :: vs).reverse ++ st = vs.reverse ++ .int x :: st := by simp
  rw [← e]
  exact k
theorem ir_ref {e : DA} {r : DR} (he : IE va_rf I d pc p1 e) (hrr : IR I (d + 1) p1 p2 n r) : IR I d pc p2 (n + 1) (rA e r) := by
  intro L M w M' h
  obtain ⟨⟨x, M1⟩, h1, h⟩ := Option.bind_eq_some_iff.mp h
  obtain ⟨⟨vs, M2⟩, h2, h⟩ := Option.map_eq_some_iff.mp h
  cases h
  obtain ⟨l1, k1⟩ := he L M x M1 h1
  obtain ⟨l2, n2, k2⟩ := hrr L M1 vs M2 h2
  refine ⟨l1.tr l2, by rw [List.length_cons, n2], fun G st C hs hw hr k => k1 G st C hs hw (hr.dn l2) (k2 G _ C (csum_rf x hs) (hw.up l1) hr ?_)⟩
  have e : (va_rf x :: vs).reverse ++ st = vs.reverse ++ va_rf x :: st := by simp
  rw [← e]
  exact k
/-- the words of a call: the link's own apart -/
abbrev WC (y : MethodName) (J : MI) : Prop := Cond.initialized y.cls ∈ TG ∧ Cond.code y J.1 J.2.2.1 J.2.2.2.2.2.2 ∈ TG ∧ y.cls ≠ "java/lang/invoke/MethodHandle" ∧ y.cls ≠ "java/lang/invoke/VarHandle"
abbrev RC (I J : MI) (d : Nat) : Prop := J.2.2.2.1 + 1 ≤ I.2.2.2.1 ∧ 8 + (J.2.2.1 + 11) + J.2.2.2.2.1 ≤ I.2.2.2.2.1 ∧ d ≤ 8
/-- what a call's row asks of the heap -/
theorem iv_callS {y : MethodName} {f : FN} {r : DR} {index : Nat} (hrr : IR I d pc p1 n r) (hf : MA y J f) (hw : WC y J) (w1 : Cond.methodLink I.2.1 index y ∈ TG) (w2 : Cond.static y ∈ TG) (hn : (parseMethodDescriptor y.desc).map (fun d => d.parameters.length) = some n) (hR : RC I J d)
    (hd : decode I.1 p1 = .ok (.invokestatic index, 3)) : IV I d pc (p1 + 3) (ivS f r) := by
  intro L M w M' h
  obtain ⟨⟨vs, M1⟩, h1, h⟩ := Option.bind_eq_some_iff.mp h
  obtain ⟨l1, n1, k1⟩ := hrr L M vs M1 h1
  have l2 : LE M1 M' := hf.1 vs M1 w M' h
  exact ⟨l1.tr l2, fun G st C hs hw1 hr k => k1 G st C hs hw1 (hr.dn l2) (pt_callS C (hf.2 (gl G) C.2.2.2.2.2.2.2.2.2.2.2) h w1 w2 hw.1 hw.2.1 ⟨hw.2.2.1, hw.2.2.2, by rw [n1]; exact hn⟩ hR.1 hR.2.1 (Nat.le_trans hs hR.2.2) (hw1.up l1) hr hd k)⟩
theorem iv_callSN {y : MethodName} {f : FN} {r : DR} {index : Nat} {host : String} (hrr : IR I d pc p1 n r) (hf : MA y J f) (hw : WC y J) (w1 : Cond.methodLinkNest I.2.1 index y host ∈ NWL) (w2 : Cond.static y ∈ TG) (hn : (parseMethodDescriptor y.desc).map (fun d => d.parameters.length) = some n) (hR : RC I J d)
    (hd : decode I.1 p1 = .ok (.invokestatic index, 3)) : IV I d pc (p1 + 3) (ivS f r) := by
  intro L M w M' h
  obtain ⟨⟨vs, M1⟩, h1, h⟩ := Option.bind_eq_some_iff.mp h
  obtain ⟨l1, n1, k1⟩ := hrr L M vs M1 h1
  have l2 : LE M1 M' := hf.1 vs M1 w M' h
  exact ⟨l1.tr l2, fun G st C hs hw1 hr k => k1 G st C hs hw1 (hr.dn l2) (pt_callSN C (hf.2 (gl G) C.2.2.2.2.2.2.2.2.2.2.2) h w1 w2 hw.1 hw.2.1 ⟨hw.2.2.1, hw.2.2.2, by rw [n1]; exact hn⟩ hR.1 hR.2.1 (Nat.le_trans hs hR.2.2) (hw1.up l1) hr hd k)⟩
theorem isC_spec {ci b : Nat} {M : Mm} (h : isC ci M b = true) : ∃ fs, M.2.2 b = .inr (ci, fs) := by
  unfold isC at h
  split at h
  · rename_i c fs hM
    have : c = ci := by simpa using h
    subst this
    exact ⟨fs, hM⟩
  · cases h
theorem iv_callV {y : MethodName} {f : FN} {r : DR} {index ci N : Nat} {T : u_T} (hrr : IR I d pc p1 (n + 1) r) (hf : MA y J f) (hw : WC y J) (hc : vwCl[ci]? = some (y.cls, T, N)) (w1 : Cond.methodLink I.2.1 index y ∈ TG) (w2 : Cond.instanceMethod y ∈ TG) (w3 : Cond.selects y.cls y y ∈ TG) (hn : (parseMethodDescriptor y.desc).map (fun d => d.parameters.length) = some n) (hR : RC I J d)
    (hd : decode I.1 p1 = .ok (.invokevirtual index, 3)) : IV I d pc (p1 + 3) (ivV ci f r) := by
  intro L M w M' h
  obtain ⟨⟨vs, M1⟩, h1, h⟩ := Option.bind_eq_some_iff.mp h
  obtain ⟨l1, n1, k1⟩ := hrr L M vs M1 h1
  dsimp only at h
  split at h
  · rename_i b as
    split at h
    · rename_i hb
      obtain ⟨fs, hM⟩ := isC_spec hb
      have l2 : LE M1 M' := hf.1 _ M1 w M' h
      have n2 : as.length = n := by simpa using n1
      exact ⟨l1.tr l2, fun G st C hs hw1 hr k => k1 G st C hs hw1 (hr.dn l2) (pt_callV C (hf.2 (gl G) C.2.2.2.2.2.2.2.2.2.2.2) h hM hc w1 w2 w3 hw.1 hw.2.1 ⟨hw.2.2.1, hw.2.2.2, by rw [n2]; exact hn⟩ hR.1 hR.2.1 (Nat.le_trans hs hR.2.2) (hw1.up l1) hr hd k)⟩
    · cases h
  · cases h
/-- what a new object's row asks of its class -/
abbrev NW (ci : Nat) (Cn : String) (T : u_T) (N : Nat) (fs : List Value) : Prop := FW ci Cn T N ∧ (∃ ty0 : Nat → FieldType, (∀ k, k < N → parseFieldDescriptor (T k).2.2.1 = some (ty0 k)) ∧ ∀ j, j < N → defaultValue (ty0 j) = vp_V fs j) ∧ (∀ X : GF, fs.map (up X) = fs) ∧ Cond.instantiable Cn N ∈ TG ∧ Cond.initialized Cn ∈ TG
theorem new_le {M : Mm} {k : Nat} {c : MC} : LE M (newC M k c) := ⟨Nat.le_succ _, Nat.le_add_right _ _⟩
theorem ia_newO {y : MethodName} {f : FN} {r : DR} {index i2 ci N : Nat} {Cn : String} {T : u_T} {fs : List Value} (hN : NW ci Cn T N fs) (w0 : Cond.classLink I.2.1 index Cn ∈ TG) (hd : decode I.1 pc = .ok (.new index, 3)) (hd2 : decode I.1 (pc + 3) = .ok (.dup, 1))
    (hrr : IR I (d + 2) (pc + 4) p1 n r) (hf : MA y J f) (hy : y.name = "<init>") (hret : J.2.2.2.2.2.2 = none) (hw : WC y J) (w1 : Cond.methodLink I.2.1 i2 y ∈ TG ∨ ∃ host, Cond.methodLinkNest I.2.1 i2 y host ∈ NWL) (w2 : Cond.instanceMethod y ∈ TG) (hn : (parseMethodDescriptor y.desc).map (fun d => d.parameters.length) = some n) (hR : RC I J (d + 1))
    (hd3 : decode I.1 p1 = .ok (.invokespecial i2, 3)) : IE va_rf I d pc (p1 + 3) (newO ci N fs f r) := by
  intro L M w M' h
  obtain ⟨⟨vs, M1⟩, h1, h⟩ := Option.bind_eq_some_iff.mp h
  obtain ⟨⟨o, M2⟩, h2, h⟩ := Option.bind_eq_some_iff.mp h
  obtain ⟨l1, n1, k1⟩ := hrr L _ vs M1 h1
  have l2 : LE M1 M2 := hf.1 _ M1 _ M2 h2
  dsimp only at h
  split at h
  · rename_i ho
    cases h
    refine ⟨new_le.tr (l1.tr l2), fun G st C hs hw1 hr k => ?_⟩
    obtain ⟨⟨hc, hin⟩, ⟨ty0, hty, hfs⟩, hup, q1, q2⟩ := hN
    have hr1 : RM G (newC M N (.inr (ci, fs))) := hr.dn (l1.tr l2)
    refine pt_new C hc hin ty0 hty hfs hup w0 q1 q2 hw1 ⟨hr1.1, hr1.2⟩ hd ?_
    refine pt_dup C hd2 rfl ?_
    refine k1 G _ C (by have := csum_ref M.1 (csum_ref M.1 hs); omega) (hw1.up new_le) (hr.dn l2) ?_
    have e : vs.reverse ++ Value.ref M.1 :: Value.ref M.1 :: st = (Value.ref M.1 :: vs).reverse ++ .ref M.1 :: st := by simp
    rw [e]
    have hwc : Cond.code y J.1 J.2.2.1 none ∈ TG := by have := hw.2.1; rw [hret] at this; exact this
    have hcs : csum (Value.ref M.1 :: st) ≤ 8 := Nat.le_trans (csum_ref M.1 hs) hR.2.2
    rcases w1 with w1 | ⟨host, w1⟩
    · exact pt_callI C hy hret (hf.2 (gl G) C.2.2.2.2.2.2.2.2.2.2.2) h2 w1 w2 hw.1 hwc ⟨hw.2.2.1, hw.2.2.2, by rw [n1]; exact hn⟩ hR.1 hR.2.1 hcs (hw1.up (new_le.tr l1)) hr hd3 k
    · exact pt_callIN C hy hret (hf.2 (gl G) C.2.2.2.2.2.2.2.2.2.2.2) h2 w1 w2 hw.1 hwc ⟨hw.2.2.1, hw.2.2.2, by rw [n1]; exact hn⟩ hR.1 hR.2.1 hcs (hw1.up (new_le.tr l1)) hr hd3 k
  · cases h
theorem cl_of {x : Int32} (h : 0 ≤ x.toInt ∧ x.toInt ≤ 100000) : ¬ x < 0 ∧ x.toNatClampNeg ≤ 100000 := by
  refine ⟨fun q => ?_, ?_⟩
  · rw [Int32.lt_iff_toInt_lt, Int32.toInt_zero] at q
    omega
  · have : (x.toNatClampNeg : Int) = x.toInt := by
      show ((x.toInt.toNat : Nat) : Int) = x.toInt
      omega
    omega
theorem ia_newI {t : Nat} {atype : ArrayType} {e : DI} (he : IE .int I d pc p1 e) (ht : t ≤ 1) (hat : newarray.typeOf atype = atT t) (w1 : Cond.arrayClass (atT t) ∈ TG) (hd : decode I.1 p1 = .ok (.newarray atype, 2)) : IE va_rf I d pc (p1 + 2) (newI t e) := by
  intro L M w M' h
  obtain ⟨⟨x, M1⟩, h1, h⟩ := Option.bind_eq_some_iff.mp h
  dsimp only at h
  split at h
  · rename_i hx
    cases h
    obtain ⟨l1, k1⟩ := he L M x M1 h1
    obtain ⟨x1, x2⟩ := cl_of hx
    exact ⟨l1.tr new_le, fun G st C hs hw hr k => k1 G st C hs hw (hr.dn new_le) (pt_newa C (t := t) (by omega) hat w1 x1 rfl x2 (fun X cA => by rcases (show t = 0 ∨ t = 1 by omega) with rfl | rfl <;> rfl) (hw.up l1) hr hd k)⟩
  · cases h
theorem ia_newJ {e : DI} (he : IE .int I d pc p1 e) (w1 : Cond.arrayClass .long ∈ TG) (hd : decode I.1 p1 = .ok (.newarray .long, 2)) : IE va_rf I d pc (p1 + 2) (newJ e) := by
  intro L M w M' h
  obtain ⟨⟨x, M1⟩, h1, h⟩ := Option.bind_eq_some_iff.mp h
  dsimp only at h
  split at h
  · rename_i hx
    cases h
    obtain ⟨l1, k1⟩ := he L M x M1 h1
    obtain ⟨x1, x2⟩ := cl_of hx
    exact ⟨l1.tr new_le, fun G st C hs hw hr k => k1 G st C hs hw (hr.dn new_le) (pt_newa C (t := 2) (by omega) rfl w1 x1 rfl x2 (fun X cA => rfl) (hw.up l1) hr hd k)⟩
  · cases h
theorem ia_newA {t index : Nat} {Cn : String} {e : DI} (he : IE .int I d pc p1 e) (ht : 3 ≤ t ∧ t ≤ 5) (hat : atT t = .object Cn) (w1 : Cond.classLink I.2.1 index Cn ∈ TG) (w2 : Cond.arrayOver (.object Cn) ∈ NWL) (hd : decode I.1 p1 = .ok (.anewarray index, 3)) : IE va_rf I d pc (p1 + 3) (newA t e) := by
  intro L M w M' h
  obtain ⟨⟨x, M1⟩, h1, h⟩ := Option.bind_eq_some_iff.mp h
  dsimp only at h
  split at h
  · rename_i hx
    cases h
    obtain ⟨l1, k1⟩ := he L M x M1 h1
    obtain ⟨x1, x2⟩ := cl_of hx
    exact ⟨l1.tr new_le, fun G st C hs hw hr k => k1 G st C hs hw (hr.dn new_le) (pt_anew C ht hat w1 w2 x1 rfl x2 (hw.up l1) hr hd k)⟩
  · cases h
theorem wrI_spec {t a : Nat} {i x : Int32} {M M' : Mm} (h : wrI t a i x M = some M') : ∃ n f, M.2.2 a = .inl (t, n, .inl f) ∧ vp_in i n ∧ 5 ≤ a ∧ M' = setC M a (.inl (t, n, .inl (upd f i.toNatClampNeg x))) := by
  unfold wrI at h
  split at h
  · rename_i t' n f hM
    split at h
    · rename_i hc
      obtain ⟨rfl, hc, h5⟩ := hc
      cases h
      exact ⟨n, f, hM, inb_in hc, h5, rfl⟩
    · cases h
  · cases h
theorem wrA_spec {t a : Nat} {i : Int32} {x : Option Nat} {M M' : Mm} (h : wrA t a i x M = some M') : ∃ n f, M.2.2 a = .inl (t, n, .inr (.inr (.inr (.inr f)))) ∧ vp_in i n ∧ 5 ≤ a ∧ isE t M x = true ∧ M' = setC M a (.inl (t, n, .inr (.inr (.inr (.inr (va_up f i.toNatClampNeg x)))))) := by
  unfold wrA at h
  split at h
  · rename_i t' n f hM
    split at h
    · rename_i hc
      obtain ⟨rfl, hc, h5, h6⟩ := hc
      cases h
      exact ⟨n, f, hM, inb_in hc, h5, h6, rfl⟩
    · cases h
  · cases h
theorem wrF_spec {ci k a : Nat} {v : Value} {M M' : Mm} (h : wrF ci k a v M = some M') : ∃ fs, M.2.2 a = .inr (ci, fs) ∧ k < fs.length ∧ M' = setC M a (.inr (ci, fs.set k v)) := by
  unfold wrF at h
  split at h
  · rename_i c fs hM
    split at h
    · rename_i hc
      obtain ⟨rfl, hc⟩ := hc
      cases h
      exact ⟨fs, hM, hc, rfl⟩
    · cases h
  · cases h
theorem set_le {M : Mm} {a : Nat} {c : MC} : LE M (setC M a c) := ⟨Nat.le_refl _, Nat.le_refl _⟩
/-- one place of an array written out -/
def litE (e : DA) (i v : DI) : DA := fun L M => (e L M).bind fun q => q.1.bind fun a => (i L q.2).bind fun j => (v L j.2).bind fun x => (wrI 0 a j.1 x.1 x.2).map fun M2 => (some a, M2)
theorem ia_lit {p3 : Nat} {e : DA} {i v : DI} (he : IE va_rf I d pc p1 e) (hd : decode I.1 p1 = .ok (.dup, 1)) (hi : IE .int I (d + 2) (p1 + 1) p2 i) (hv : IE .int I (d + 3) p2 p3 v) (hd2 : decode I.1 p3 = .ok (.iastore, 1)) : IE va_rf I d pc (p3 + 1) (litE e i v) := by
  intro L M w M' h
  obtain ⟨⟨r, M1⟩, h1, h⟩ := Option.bind_eq_some_iff.mp h
  obtain ⟨a, h2, h⟩ := Option.bind_eq_some_iff.mp h
  obtain ⟨⟨j, M2⟩, h3, h⟩ := Option.bind_eq_some_iff.mp h
  obtain ⟨⟨x, M3⟩, h4, h⟩ := Option.bind_eq_some_iff.mp h
  obtain ⟨M4, h5, h6⟩ := Option.map_eq_some_iff.mp h
  cases h6
  have h2 : r = some a := h2
  subst h2
  obtain ⟨l1, k1⟩ := he L M _ M1 h1
  obtain ⟨l2, k2⟩ := hi L M1 _ M2 h3
  obtain ⟨l3, k3⟩ := hv L M2 _ M3 h4
  obtain ⟨n, f, hM, hin, ha5, rfl⟩ := wrI_spec h5
  refine ⟨l1.tr (l2.tr (l3.tr set_le)), fun G st C hs hw hr k => ?_⟩
  have c2 := csum_rf (some a) (csum_rf (some a) hs)
  exact k1 G st C hs hw (hr.dn (l2.tr (l3.tr set_le))) (pt_dup C hd rfl (k2 G _ C (by omega) (hw.up l1) (hr.dn (l3.tr set_le)) (k3 G _ C (csum_int j (by omega)) (hw.up (l1.tr l2)) (hr.dn set_le) (pt_iast C hM ha5 hin hd2 k))))
theorem ia_clone {e : DA} {index i2 : Nat} (he : IE va_rf I d pc p1 e) (w1 : Cond.methodLink I.2.1 index ⟨"[I", "clone", "()Ljava/lang/Object;"⟩ ∈ TG) (w2 : Cond.sameMethod "[I" "java/lang/Object" "clone" "()Ljava/lang/Object;" ∈ TG)
    (w3 : Cond.native ⟨"java/lang/Object", "clone", "()Ljava/lang/Object;"⟩ ∈ TG) (w4 : Cond.instanceMethod ⟨"java/lang/Object", "clone", "()Ljava/lang/Object;"⟩ ∈ TG) (w5 : Cond.selects "[I" ⟨"[I", "clone", "()Ljava/lang/Object;"⟩ ⟨"java/lang/Object", "clone", "()Ljava/lang/Object;"⟩ ∈ TG) (w6 : Cond.castable "[I" "java/lang/Cloneable" ∈ NWL)
    (w7 : Cond.classLink I.2.1 i2 "[I" ∈ TG) (hfr : 1 ≤ I.2.2.2.1) (hlo : d + 14 ≤ I.2.2.2.2.1) (hd : decode I.1 p1 = .ok (.invokevirtual index, 3)) (hd2 : decode I.1 (p1 + 3) = .ok (.checkcast i2, 3)) : IE va_rf I d pc (p1 + 3 + 3) (cloI e) := by
  intro L M w M' h
  obtain ⟨⟨r, M1⟩, h1, h⟩ := Option.bind_eq_some_iff.mp h
  obtain ⟨a, h2, h⟩ := Option.bind_eq_some_iff.mp h
  have h2 : r = some a := h2
  subst h2
  dsimp only at h
  split at h
  · rename_i n f hM
    split at h
    · rename_i h5
      cases h
      obtain ⟨l1, k1⟩ := he L M _ M1 h1
      refine ⟨l1.tr new_le, fun G st C hs hw hr k => k1 G st C hs hw (hr.dn new_le) ?_⟩
      refine pt_clone C hM h5 w1 w2 w3 w4 w5 w6 hfr (Nat.le_trans (Nat.add_le_add_right hs 14) hlo) (hw.up l1) hr hd ?_
      intro ls H locs hl hR hS
      exact pt_castA C (a := M1.1) (n := n) (f := f) (show (if M1.1 = M1.1 then _ else _) = _ from if_pos rfl) (by have : 5 ≤ M1.1 + 1 := hR.1.1; have h8 := hR.ltA (a := a) (t := 0) (x := (n, .inl f)) (show (if a = M1.1 then _ else M1.2.2 a) = _ by split <;> first | rfl | exact hM); have h9 : a < M1.1 + 1 := h8; omega) w7 hd2 k ls H locs hl hR hS
    · cases h
  · cases h
end Args
