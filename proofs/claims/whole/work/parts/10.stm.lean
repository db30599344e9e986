/-! THE CODE DOES WHAT IT MEANS, last part: statements, methods -/
theorem PT.weak {G : GT} {pc : Nat} {L1 L2 : Lv} {st : List Value} {M : Mm} (h : ∀ (i : Nat) (v : Value), L2[i]? = some (some v) → L1[i]? = some (some v)) (k : PT G pc L2 st M) : PT G pc L1 st M :=
  fun ls H locs hl hR hS => k ls H locs ⟨hl.1, hl.2.1, fun i v q => hl.2.2 i v (h i v q)⟩ hR hS
theorem clr_get {k i : Nat} {L : Lv} {v : Value} (h : (clr k L)[i]? = some (some v)) : L[i]? = some (some v) := by
  unfold clr at h
  by_cases hi : i < (L.take k).length
  · rw [List.getElem?_append_left hi] at h
    rw [List.getElem?_take] at h
    split at h
    · exact h
    · cases h
  · rw [List.getElem?_append_right (by omega)] at h
    have := List.getElem?_eq_some_iff.mp h
    obtain ⟨h1, h2⟩ := this
    rw [List.getElem_replicate] at h2
    cases h2
section Stms
variable {I J : MI} {pc p1 p2 p3 tN tB tC : Nat}
theorem csum0 : csum [] ≤ 0 := Nat.le_refl _
theorem is_nop (hj : Jp I pc tN) : IS I pc tN tB tC nop := by
  intro L M L' M' c v h
  cases h
  exact ⟨LE.rf _, fun G C hw hr k0 _ _ _ => hj.pt C (k0 rfl)⟩
theorem is_brk (hj : Jp I pc tB) : IS I pc tN tB tC brk := by
  intro L M L' M' c v h
  cases h
  exact ⟨LE.rf _, fun G C hw hr _ k1 _ _ => hj.pt C (k1 rfl)⟩
theorem is_cnt (hj : Jp I pc tC) : IS I pc tN tB tC cnt := by
  intro L M L' M' c v h
  cases h
  exact ⟨LE.rf _, fun G C hw hr _ _ k2 _ => hj.pt C (k2 rfl)⟩
theorem is_thr : IS I pc tN tB tC thr := by
  intro L M L' M' c v h
  cases h
theorem is_seq {pm : Nat} {a b : DS} (ha : IS I pc pm tB tC a) (hb : IS I pm tN tB tC b) : IS I pc tN tB tC (seqS a b) := by
  intro L M L' M' c v h
  obtain ⟨⟨L1, M1, c1, v1⟩, h1, h⟩ := Option.bind_eq_some_iff.mp h
  obtain ⟨l1, k1⟩ := ha L M L1 M1 c1 v1 h1
  dsimp only at h
  split at h
  · rename_i hc
    subst hc
    obtain ⟨l2, k2⟩ := hb L1 M1 L' M' c v h
    exact ⟨l1.tr l2, fun G C hw hr q0 q1 q2 q3 => k1 G C hw (hr.dn l2) (fun _ => k2 G C (hw.up l1) hr q0 q1 q2 q3) (fun z => by cases z) (fun z => by cases z) (fun z => by cases z)⟩
  · rename_i hc
    cases h
    exact ⟨l1, fun G C hw hr q0 q1 q2 q3 => k1 G C hw hr (fun z => absurd z hc) q1 q2 q3⟩
theorem is_setI_n {q : Fin 4} {i : Nat} {e : DI} (he : IE .int I 0 pc p1 e) (hd : decode I.1 p1 = .ok (.istore_n q, 1)) (hi : (q : Nat) = i) (hn : i < I.2.2.1) (hj : Jp I (p1 + 1) tN) : IS I pc tN tB tC (setI i e) := by
  intro L M L' M' c v h
  obtain ⟨⟨x, M1⟩, h1, h⟩ := Option.map_eq_some_iff.mp h
  cases h
  obtain ⟨l1, k1⟩ := he L M _ _ h1
  exact ⟨l1, fun G C hw hr q0 _ _ _ => k1 G [] C csum0 hw hr (pt_istore_n C hd hi hn (hj.pt C (q0 rfl)))⟩
theorem is_setI {i : Nat} {e : DI} (he : IE .int I 0 pc p1 e) (hd : decode I.1 p1 = .ok (.istore i, 2)) (hn : i < I.2.2.1) (hj : Jp I (p1 + 2) tN) : IS I pc tN tB tC (setI i e) := by
  intro L M L' M' c v h
  obtain ⟨⟨x, M1⟩, h1, h⟩ := Option.map_eq_some_iff.mp h
  cases h
  obtain ⟨l1, k1⟩ := he L M _ _ h1
  exact ⟨l1, fun G C hw hr q0 _ _ _ => k1 G [] C csum0 hw hr (pt_istore C hd hn (hj.pt C (q0 rfl)))⟩
theorem is_setJ {i : Nat} {e : DJ} (he : IE .long I 0 pc p1 e) (hd : decode I.1 p1 = .ok (.lstore i, 2)) (hn : i + 1 < I.2.2.1) (hj : Jp I (p1 + 2) tN) : IS I pc tN tB tC (setJ i e) := by
  intro L M L' M' c v h
  obtain ⟨⟨x, M1⟩, h1, h⟩ := Option.map_eq_some_iff.mp h
  cases h
  obtain ⟨l1, k1⟩ := he L M _ _ h1
  exact ⟨l1, fun G C hw hr q0 _ _ _ => k1 G [] C csum0 hw hr (pt_lstore C hd hn (hj.pt C (q0 rfl)))⟩
theorem is_setA_n {q : Fin 4} {i : Nat} {e : DA} (he : IE va_rf I 0 pc p1 e) (hd : decode I.1 p1 = .ok (.astore_n q, 1)) (hi : (q : Nat) = i) (hn : i < I.2.2.1) (hj : Jp I (p1 + 1) tN) : IS I pc tN tB tC (setA i e) := by
  intro L M L' M' c v h
  obtain ⟨⟨x, M1⟩, h1, h⟩ := Option.map_eq_some_iff.mp h
  cases h
  obtain ⟨l1, k1⟩ := he L M _ _ h1
  exact ⟨l1, fun G C hw hr q0 _ _ _ => k1 G [] C csum0 hw hr (pt_astore_n C hd hi hn (hj.pt C (q0 rfl)))⟩
theorem is_setA {i : Nat} {e : DA} (he : IE va_rf I 0 pc p1 e) (hd : decode I.1 p1 = .ok (.astore i, 2)) (hn : i < I.2.2.1) (hj : Jp I (p1 + 2) tN) : IS I pc tN tB tC (setA i e) := by
  intro L M L' M' c v h
  obtain ⟨⟨x, M1⟩, h1, h⟩ := Option.map_eq_some_iff.mp h
  cases h
  obtain ⟨l1, k1⟩ := he L M _ _ h1
  exact ⟨l1, fun G C hw hr q0 _ _ _ => k1 G [] C csum0 hw hr (pt_astore C hd hn (hj.pt C (q0 rfl)))⟩
theorem is_inc {i : Nat} {n : Int} {w : Int32} (hd : decode I.1 pc = .ok (.iinc i n, 3)) (hw0 : Int32.ofInt n = w) (hn : i < I.2.2.1) (hj : Jp I (pc + 3) tN) : IS I pc tN tB tC (incI i w) := by
  intro L M L' M' c v h
  obtain ⟨o, h1, h⟩ := Option.bind_eq_some_iff.mp h
  obtain ⟨u, rfl, h⟩ := Option.bind_eq_some_iff.mp h
  obtain ⟨x, h2, h3⟩ := Option.map_eq_some_iff.mp h
  cases h3
  rw [asI_i h2] at h1
  exact ⟨LE.rf _, fun G C hw hr q0 _ _ _ => pt_iinc C hd h1 (by rw [hw0]) hn (hj.pt C (q0 rfl))⟩
/-- what a store into a field asks of its class -/
abbrev PW (Cn : String) (T : u_T) (N : Nat) : Prop := ∃ ty0 : Nat → FieldType, (∀ k, k < N → parseFieldDescriptor (T k).2.2.1 = some (ty0 k)) ∧ ∀ a, a < N → ∀ b, b < N → a ≠ b → (T a).2.1 ≠ (T b).2.1
abbrev PF (I : MI) (T : u_T) (k : Nat) : Prop := (T k).2.2.2 = false ∨ ((T k).2.2.2 = true ∧ I.2.2.2.2.2.1 = "<init>" ∧ (T k).1 = I.2.1)
theorem rf_arr (t : FieldType) (X : GF) (r : Option Nat) : narrow (.array t) (up X (va_rf r)) = up X (va_rf r) ∧ fits (.array t) (up X (va_rf r)) = true := by cases r <;> exact ⟨rfl, rfl⟩
theorem rf_obj (t : String) (X : GF) (r : Option Nat) : narrow (.object t) (up X (va_rf r)) = up X (va_rf r) ∧ fits (.object t) (up X (va_rf r)) = true := by cases r <;> exact ⟨rfl, rfl⟩
theorem pt_putX {G : GT} {L : Lv} {st : List Value} {M : Mm} (C : CX G I) {a ci k index N : Nat} {fs : List Value} {v : Value} {Cn : String} {T : u_T} {ty : FieldType} (hM : M.2.2 a = .inr (ci, fs)) (hl : k < fs.length) (hF : FW ci Cn T N) (hP : PW Cn T N) (hk : k < N) (hf : PF I T k) (hw : Cond.fieldLink I.2.1 index (T k).1 (T k).2.1 (T k).2.2.1 ∈ TG)
    (hty1 : parseFieldDescriptor (T k).2.2.1 = some ty) (hn : ∀ X : GF, narrow ty (up X v) = up X v ∧ fits ty (up X v) = true) (hd : decode I.1 pc = .ok (.putfield index, 3)) (kk : PT G (pc + 3) L st (setC M a (.inr (ci, fs.set k v)))) : PT G pc L (v :: .ref a :: st) M := by
  obtain ⟨ty0, hty, hnm⟩ := hP
  rcases hf with hf | ⟨hf, h1, h2⟩
  · exact pt_put C hM hl hF.1 hk hF.2 ty0 hty hnm hw hf hty1 hn hd kk
  · exact pt_putF C hM hl hF.1 hk hF.2 ty0 hty hnm hw hf h1 h2 hty1 hn hd kk
theorem is_pfI {ci k index N : Nat} {Cn : String} {T : u_T} {o : DA} {e : DI} (ho : IE va_rf I 0 pc p1 o) (he : IE .int I 1 p1 p2 e) (hF : FW ci Cn T N) (hP : PW Cn T N) (hk : k < N) (hf : PF I T k) (hw : Cond.fieldLink I.2.1 index (T k).1 (T k).2.1 (T k).2.2.1 ∈ TG) (hty : parseFieldDescriptor (T k).2.2.1 = some .int)
    (hd : decode I.1 p2 = .ok (.putfield index, 3)) (hj : Jp I (p2 + 3) tN) : IS I pc tN tB tC (pfI ci k o e) := by
  intro L M L' M' c v h
  obtain ⟨⟨r, M1⟩, h1, h⟩ := Option.bind_eq_some_iff.mp h
  obtain ⟨a, h2, h⟩ := Option.bind_eq_some_iff.mp h
  obtain ⟨⟨x, M2⟩, h3, h⟩ := Option.bind_eq_some_iff.mp h
  obtain ⟨M3, h4, h5⟩ := Option.map_eq_some_iff.mp h
  cases h5
  have h2 : r = some a := h2
  subst h2
  obtain ⟨fs, hM, hl, rfl⟩ := wrF_spec h4
  obtain ⟨l1, k1⟩ := ho L M _ M1 h1
  obtain ⟨l2, k2⟩ := he L M1 _ M2 h3
  exact ⟨l1.tr (l2.tr set_le), fun G C hw1 hr q0 _ _ _ => k1 G [] C csum0 hw1 (hr.dn (l2.tr set_le)) (k2 G _ C (csum_rf _ csum0) (hw1.up l1) (hr.dn set_le) (pt_putX C hM hl hF hP hk hf hw hty (fun X => ⟨rfl, rfl⟩) hd (hj.pt C (q0 rfl))))⟩
theorem is_pfA {ci k index N : Nat} {Cn : String} {T : u_T} {ty : FieldType} {o e : DA} (ho : IE va_rf I 0 pc p1 o) (he : IE va_rf I 1 p1 p2 e) (hF : FW ci Cn T N) (hP : PW Cn T N) (hk : k < N) (hf : PF I T k) (hw : Cond.fieldLink I.2.1 index (T k).1 (T k).2.1 (T k).2.2.1 ∈ TG) (hty : parseFieldDescriptor (T k).2.2.1 = some ty) (hn : ∀ (X : GF) (r : Option Nat), narrow ty (up X (va_rf r)) = up X (va_rf r) ∧ fits ty (up X (va_rf r)) = true)
    (hd : decode I.1 p2 = .ok (.putfield index, 3)) (hj : Jp I (p2 + 3) tN) : IS I pc tN tB tC (pfA ci k o e) := by
  intro L M L' M' c v h
  obtain ⟨⟨r, M1⟩, h1, h⟩ := Option.bind_eq_some_iff.mp h
  obtain ⟨a, h2, h⟩ := Option.bind_eq_some_iff.mp h
  obtain ⟨⟨x, M2⟩, h3, h⟩ := Option.bind_eq_some_iff.mp h
  obtain ⟨M3, h4, h5⟩ := Option.map_eq_some_iff.mp h
  cases h5
  have h2 : r = some a := h2
  subst h2
  obtain ⟨fs, hM, hl, rfl⟩ := wrF_spec h4
  obtain ⟨l1, k1⟩ := ho L M _ M1 h1
  obtain ⟨l2, k2⟩ := he L M1 _ M2 h3
  exact ⟨l1.tr (l2.tr set_le), fun G C hw1 hr q0 _ _ _ => k1 G [] C csum0 hw1 (hr.dn (l2.tr set_le)) (k2 G _ C (csum_rf _ csum0) (hw1.up l1) (hr.dn set_le) (pt_putX C hM hl hF hP hk hf hw hty (fun X => hn X x) hd (hj.pt C (q0 rfl))))⟩
/-- o.f op= e, with op one instruction -/
theorem is_upF {ci k index i2 N : Nat} {Cn : String} {T : u_T} {op : Int32 → Int32 → Option Int32} {o : DA} {e : DI} (ho : IE va_rf I 0 pc p1 o) (hd1 : decode I.1 p1 = .ok (.dup, 1)) (hd2 : decode I.1 (p1 + 1) = .ok (.getfield i2, 3)) (he : IE .int I 2 (p1 + 4) p2 e) (hF : FW ci Cn T N) (hP : PW Cn T N) (hk : k < N) (hf : PF I T k) (hw2 : Cond.fieldLink I.2.1 i2 (T k).1 (T k).2.1 (T k).2.2.1 ∈ TG) (hw : Cond.fieldLink I.2.1 index (T k).1 (T k).2.1 (T k).2.2.1 ∈ TG) (hty : parseFieldDescriptor (T k).2.2.1 = some .int)
    (hop : ∀ (G : GT) (L : Lv) (st : List Value) (M : Mm) (x y z : Int32), CX G I → op x y = some z → PT G (p2 + 1) L (.int z :: st) M → PT G p2 L (.int y :: .int x :: st) M)
    (hd : decode I.1 (p2 + 1) = .ok (.putfield index, 3)) (hj : Jp I (p2 + 1 + 3) tN) : IS I pc tN tB tC (upF ci k o op e) := by
  intro L M L' M' c v h
  obtain ⟨⟨r, M1⟩, h1, h⟩ := Option.bind_eq_some_iff.mp h
  obtain ⟨a, h2, h⟩ := Option.bind_eq_some_iff.mp h
  obtain ⟨u, h3, h⟩ := Option.bind_eq_some_iff.mp h
  obtain ⟨x, h4, h⟩ := Option.bind_eq_some_iff.mp h
  obtain ⟨⟨y, M2⟩, h5, h⟩ := Option.bind_eq_some_iff.mp h
  obtain ⟨z, h6, h⟩ := Option.bind_eq_some_iff.mp h
  obtain ⟨M3, h7, h8⟩ := Option.map_eq_some_iff.mp h
  cases h8
  have h2 : r = some a := h2
  subst h2
  rw [asI_i h4] at h3
  obtain ⟨fs0, hM0, hv0⟩ := rdF_spec h3
  obtain ⟨fs, hM, hl, rfl⟩ := wrF_spec h7
  obtain ⟨l1, k1⟩ := ho L M _ M1 h1
  obtain ⟨l2, k2⟩ := he L M1 _ M2 h5
  refine ⟨l1.tr (l2.tr set_le), fun G C hw1 hr q0 _ _ _ => k1 G [] C csum0 hw1 (hr.dn (l2.tr set_le)) ?_⟩
  refine pt_dup C hd1 rfl ?_
  refine pt_get C hM0 hv0 hF.1 hk hF.2 hw2 hd2 ?_
  refine k2 G _ C (csum_int x (csum_rf (some a) csum0)) (hw1.up l1) (hr.dn set_le) ?_
  exact hop G L _ M2 x y z C h6 (pt_putX C hM hl hF hP hk hf hw hty (fun X => ⟨rfl, rfl⟩) hd (hj.pt C (q0 rfl)))
theorem is_paI {o : DA} {i e : DI} (ho : IE va_rf I 0 pc p1 o) (hi : IE .int I 1 p1 p2 i) (he : IE .int I 2 p2 p3 e) (hd : decode I.1 p3 = .ok (.iastore, 1)) (hj : Jp I (p3 + 1) tN) : IS I pc tN tB tC (paI 0 o i e) := by
  intro L M L' M' c v h
  obtain ⟨⟨r, M1⟩, h1, h⟩ := Option.bind_eq_some_iff.mp h
  obtain ⟨a, h2, h⟩ := Option.bind_eq_some_iff.mp h
  obtain ⟨⟨j, M2⟩, h3, h⟩ := Option.bind_eq_some_iff.mp h
  obtain ⟨⟨x, M3⟩, h4, h⟩ := Option.bind_eq_some_iff.mp h
  dsimp only at h
  rw [if_pos (Or.inl rfl)] at h
  obtain ⟨M4, h5, h6⟩ := Option.map_eq_some_iff.mp h
  cases h6
  have h2 : r = some a := h2
  subst h2
  obtain ⟨n, f, hM, hin, h5a, rfl⟩ := wrI_spec h5
  obtain ⟨l1, k1⟩ := ho L M _ M1 h1
  obtain ⟨l2, k2⟩ := hi L M1 _ M2 h3
  obtain ⟨l3, k3⟩ := he L M2 _ M3 h4
  exact ⟨l1.tr (l2.tr (l3.tr set_le)), fun G C hw1 hr q0 _ _ _ => k1 G [] C csum0 hw1 (hr.dn (l2.tr (l3.tr set_le))) (k2 G _ C (csum_rf _ csum0) (hw1.up l1) (hr.dn (l3.tr set_le)) (k3 G _ C (csum_int _ (csum_rf _ csum0)) (hw1.up (l1.tr l2)) (hr.dn set_le) (pt_iast C hM h5a hin hd (hj.pt C (q0 rfl)))))⟩
theorem is_paZ {o : DA} {i e : DI} (ho : IE va_rf I 0 pc p1 o) (hi : IE .int I 1 p1 p2 i) (he : IE .int I 2 p2 p3 e) (hd : decode I.1 p3 = .ok (.bastore, 1)) (hj : Jp I (p3 + 1) tN) : IS I pc tN tB tC (paI 1 o i e) := by
  intro L M L' M' c v h
  obtain ⟨⟨r, M1⟩, h1, h⟩ := Option.bind_eq_some_iff.mp h
  obtain ⟨a, h2, h⟩ := Option.bind_eq_some_iff.mp h
  obtain ⟨⟨j, M2⟩, h3, h⟩ := Option.bind_eq_some_iff.mp h
  obtain ⟨⟨x, M3⟩, h4, h⟩ := Option.bind_eq_some_iff.mp h
  dsimp only at h
  split at h
  · rename_i hz
    obtain ⟨M4, h5, h6⟩ := Option.map_eq_some_iff.mp h
    cases h6
    have h2 : r = some a := h2
    subst h2
    have hx : x = 0 ∨ x = 1 := hz.elim (fun q => by cases q) (fun q => q.2)
    obtain ⟨n, f, hM, hin, h5a, rfl⟩ := wrI_spec h5
    obtain ⟨l1, k1⟩ := ho L M _ M1 h1
    obtain ⟨l2, k2⟩ := hi L M1 _ M2 h3
    obtain ⟨l3, k3⟩ := he L M2 _ M3 h4
    exact ⟨l1.tr (l2.tr (l3.tr set_le)), fun G C hw1 hr q0 _ _ _ => k1 G [] C csum0 hw1 (hr.dn (l2.tr (l3.tr set_le))) (k2 G _ C (csum_rf _ csum0) (hw1.up l1) (hr.dn (l3.tr set_le)) (k3 G _ C (csum_int _ (csum_rf _ csum0)) (hw1.up (l1.tr l2)) (hr.dn set_le) (pt_zast C hM h5a hin hx hd (hj.pt C (q0 rfl)))))⟩
  · cases h
theorem is_paA {t : Nat} {o : DA} {i : DI} {e : DA} (ht : 3 ≤ t ∧ t ≤ 5) (ho : IE va_rf I 0 pc p1 o) (hi : IE .int I 1 p1 p2 i) (he : IE va_rf I 2 p2 p3 e) (hd : decode I.1 p3 = .ok (.aastore, 1)) (hj : Jp I (p3 + 1) tN) : IS I pc tN tB tC (paA t o i e) := by
  intro L M L' M' c v h
  obtain ⟨⟨r, M1⟩, h1, h⟩ := Option.bind_eq_some_iff.mp h
  obtain ⟨a, h2, h⟩ := Option.bind_eq_some_iff.mp h
  obtain ⟨⟨j, M2⟩, h3, h⟩ := Option.bind_eq_some_iff.mp h
  obtain ⟨⟨x, M3⟩, h4, h⟩ := Option.bind_eq_some_iff.mp h
  obtain ⟨M4, h5, h6⟩ := Option.map_eq_some_iff.mp h
  cases h6
  have h2 : r = some a := h2
  subst h2
  obtain ⟨n, f, hM, hin, h5a, hE, rfl⟩ := wrA_spec h5
  obtain ⟨l1, k1⟩ := ho L M _ M1 h1
  obtain ⟨l2, k2⟩ := hi L M1 _ M2 h3
  obtain ⟨l3, k3⟩ := he L M2 _ M3 h4
  refine ⟨l1.tr (l2.tr (l3.tr set_le)), fun G C hw1 hr q0 _ _ _ => k1 G [] C csum0 hw1 (hr.dn (l2.tr (l3.tr set_le))) (k2 G _ C (csum_rf _ csum0) (hw1.up l1) (hr.dn (l3.tr set_le)) (k3 G _ C (csum_int _ (csum_rf _ csum0)) (hw1.up (l1.tr l2)) (hr.dn set_le) (pt_aast C hM ht h5a hin (fun b hb => ?_) hd (hj.pt C (q0 rfl)))))⟩
  have hb : x = some b := hb
  subst hb
  exact isC_spec hE
theorem is_exV {e : DV} (he : IV I 0 pc p1 e) (hj : Jp I p1 tN) : IS I pc tN tB tC (exV e) := by
  intro L M L' M' c v h
  obtain ⟨⟨r, M1⟩, h1, h⟩ := Option.bind_eq_some_iff.mp h
  dsimp only at h
  split at h
  · cases h
    obtain ⟨l1, k1⟩ := he L M _ _ h1
    exact ⟨l1, fun G C hw1 hr q0 _ _ _ => k1 G [] C csum0 hw1 hr (hj.pt C (q0 rfl))⟩
  · cases h
theorem is_exP {e : DV} (he : IV I 0 pc p1 e) (hd : decode I.1 p1 = .ok (.pop, 1)) (hj : Jp I (p1 + 1) tN) : IS I pc tN tB tC (exP e) := by
  intro L M L' M' c v h
  obtain ⟨⟨r, M1⟩, h1, h⟩ := Option.bind_eq_some_iff.mp h
  dsimp only at h
  split at h
  · cases h
  · rename_i w
    split at h
    · rename_i hc
      cases h
      obtain ⟨l1, k1⟩ := he L M _ _ h1
      exact ⟨l1, fun G C hw1 hr q0 _ _ _ => k1 G [] C csum0 hw1 hr (pt_pop C hd hc (hj.pt C (q0 rfl)))⟩
    · cases h
theorem is_if {pT pF : Nat} {cd : DC} {a b : DS} (hc : IC I 0 pc pT pF cd) (ha : IS I pT tN tB tC a) (hb : IS I pF tN tB tC b) : IS I pc tN tB tC (ifS cd a b) := by
  intro L M L' M' c v h
  obtain ⟨⟨r, M1⟩, h1, h⟩ := Option.bind_eq_some_iff.mp h
  obtain ⟨l1, k1⟩ := hc L M _ M1 h1
  cases r with
  | true =>
    obtain ⟨l2, k2⟩ := ha L M1 L' M' c v h
    exact ⟨l1.tr l2, fun G C hw hr q0 q1 q2 q3 => k1 G [] C csum0 hw (hr.dn l2) (fun _ => k2 G C (hw.up l1) hr q0 q1 q2 q3) (fun z => by cases z)⟩
  | false =>
    obtain ⟨l2, k2⟩ := hb L M1 L' M' c v h
    exact ⟨l1.tr l2, fun G C hw hr q0 q1 q2 q3 => k1 G [] C csum0 hw (hr.dn l2) (fun z => by cases z) (fun _ => k2 G C (hw.up l1) hr q0 q1 q2 q3)⟩
theorem is_retV (hd : decode I.1 pc = .ok (.return_, 1)) (ht : I.2.2.2.2.2.2 = none) : IS I pc tN tB tC retV := by
  intro L M L' M' c v h
  cases h
  exact ⟨LE.rf _, fun G C hw hr _ _ _ k3 => k3 rfl L pc (by rw [ht]; exact hd) (by rw [ht]; rfl)⟩
theorem is_retI {e : DI} (he : IE .int I 0 pc p1 e) (hd : decode I.1 p1 = .ok (.ireturn, 1)) (ht : I.2.2.2.2.2.2 = some .int) : IS I pc tN tB tC (retI e) := by
  intro L M L' M' c v h
  obtain ⟨⟨x, M1⟩, h1, h⟩ := Option.map_eq_some_iff.mp h
  cases h
  obtain ⟨l1, k1⟩ := he L M _ _ h1
  exact ⟨l1, fun G C hw hr _ _ _ k3 => k1 G [] C csum0 hw hr (k3 rfl L p1 (by rw [ht]; exact hd) (by rw [ht]; exact ⟨x, rfl⟩))⟩
theorem is_retZ {e : DI} (he : IE .int I 0 pc p1 e) (hd : decode I.1 p1 = .ok (.ireturn, 1)) (ht : I.2.2.2.2.2.2 = some .boolean) : IS I pc tN tB tC (retZ e) := by
  intro L M L' M' c v h
  obtain ⟨⟨x, M1⟩, h1, h⟩ := Option.bind_eq_some_iff.mp h
  dsimp only at h
  split at h
  · rename_i hx
    cases h
    obtain ⟨l1, k1⟩ := he L M _ _ h1
    exact ⟨l1, fun G C hw hr _ _ _ k3 => k1 G [] C csum0 hw hr (k3 rfl L p1 (by rw [ht]; exact hd) (by rw [ht]; exact ⟨x, hx, rfl⟩))⟩
  · cases h
theorem is_retA {e : DA} {Cn : String} (he : IE va_rf I 0 pc p1 e) (hd : decode I.1 p1 = .ok (.areturn, 1)) (ht : I.2.2.2.2.2.2 = some (.object Cn)) : IS I pc tN tB tC (retA e) := by
  intro L M L' M' c v h
  obtain ⟨⟨x, M1⟩, h1, h⟩ := Option.map_eq_some_iff.mp h
  cases h
  obtain ⟨l1, k1⟩ := he L M _ _ h1
  exact ⟨l1, fun G C hw hr _ _ _ k3 => k1 G [] C csum0 hw hr (k3 rfl L p1 (by rw [ht]; exact hd) (by rw [ht]; exact ⟨x, rfl⟩))⟩
theorem is_scp {k : Nat} {a : DS} (ha : IS I pc tN tB tC a) : IS I pc tN tB tC (scp k a) := by
  intro L M L' M' c v h
  obtain ⟨⟨L1, M1, c1, v1⟩, h1, h⟩ := Option.map_eq_some_iff.mp h
  cases h
  obtain ⟨l1, k1⟩ := ha L M _ _ _ _ h1
  exact ⟨l1, fun G C hw hr q0 q1 q2 q3 => k1 G C hw hr (fun z => (q0 z).weak fun i v => clr_get) (fun z => (q1 z).weak fun i v => clr_get) (fun z => (q2 z).weak fun i v => clr_get) q3⟩
theorem is_whN {pB pX pU x1 x2 : Nat} {cd : DC} {b u : DS} (hc : IC I 0 pc pB pX cd) (hb : IS I pB pU tN pU b) (hu : IS I pU pc x1 x2 u) (hj : Jp I pX tN) : ∀ n : Nat, IS I pc tN tB tC (whN cd b u n) := by
  intro n
  induction n with
  | zero =>
    intro L M L' M' c v h
    cases h
  | succ n ih =>
    intro L M L' M' c v h
    obtain ⟨⟨r, M1⟩, h1, h⟩ := Option.bind_eq_some_iff.mp h
    obtain ⟨l1, k1⟩ := hc L M _ M1 h1
    cases r with
    | false =>
      cases h
      exact ⟨l1, fun G C hw hr q0 _ _ _ => k1 G [] C csum0 hw hr (fun z => by cases z) (fun _ => hj.pt C (q0 rfl))⟩
    | true =>
      obtain ⟨⟨L2, M2, c2, v2⟩, h2, h⟩ := Option.bind_eq_some_iff.mp h
      obtain ⟨l2, k2⟩ := hb L M1 L2 M2 c2 v2 h2
      dsimp only at h
      split at h
      · rename_i hc1
        cases h
        exact ⟨l1.tr l2, fun G C hw hr q0 _ _ _ => k1 G [] C csum0 hw (hr.dn l2) (fun _ => k2 G C (hw.up l1) hr (fun z => by rw [hc1] at z; cases z) (fun _ => q0 rfl) (fun z => by rw [hc1] at z; cases z) (fun z => by rw [hc1] at z; cases z)) (fun z => by cases z)⟩
      · split at h
        · rename_i hc1 hc3
          cases h
          have hc3 : c = 3 := hc3
          subst hc3
          exact ⟨l1.tr l2, fun G C hw hr _ _ _ q3 => k1 G [] C csum0 hw (hr.dn l2) (fun _ => k2 G C (hw.up l1) hr (fun z => by cases z) (fun z => by cases z) (fun z => by cases z) q3) (fun z => by cases z)⟩
        · rename_i hc1 hc3
          obtain ⟨⟨L3, M3, c3, v3⟩, h3, h⟩ := Option.bind_eq_some_iff.mp h
          obtain ⟨l3, k3⟩ := hu L2 M2 L3 M3 c3 v3 h3
          dsimp only at h
          split at h
          · rename_i hc0
            subst hc0
            obtain ⟨l4, k4⟩ := ih L3 M3 L' M' c v h
            refine ⟨l1.tr (l2.tr (l3.tr l4)), fun G C hw hr q0 q1 q2 q3 => k1 G [] C csum0 hw (hr.dn (l2.tr (l3.tr l4))) (fun _ => ?_) (fun z => by cases z)⟩
            have go : PT G pU L2 [] M2 := k3 G C (hw.up (l1.tr l2)) (hr.dn l4) (fun _ => k4 G C (hw.up (l1.tr (l2.tr l3))) hr q0 q1 q2 q3) (fun z => by cases z) (fun z => by cases z) (fun z => by cases z)
            exact k2 G C (hw.up l1) (hr.dn (l3.tr l4)) (fun _ => go) (fun z => absurd z hc1) (fun _ => go) (fun z => absurd z hc3)
          · cases h
theorem is_whS {pB pX pU x1 x2 : Nat} {cd : DC} {b u : DS} (hc : IC I 0 pc pB pX cd) (hb : IS I pB pU tN pU b) (hu : IS I pU pc x1 x2 u) (hj : Jp I pX tN) : IS I pc tN tB tC (whS cd b u) := is_whN hc hb hu hj big
theorem is_sw {lo hi dflt : Int} {offs : Array Int} {len pD : Nat} {e : DI} {cs : List DS} {dS : DS} (he : IE .int I 0 pc p1 e) (hd : decode I.1 p1 = .ok (.tableswitch dflt lo hi offs, len)) (hD : (p1 : Int) + dflt = (pD : Int)) (hds : IS I pD tN tN tC dS) (hlen : (cs.length : Int) = hi - lo + 1)
    (hcs : ∀ (j : Nat) (S : DS), cs[j]? = some S → ∃ (off : Int) (tgt : Nat), offs[j]? = some off ∧ (p1 : Int) + off = (tgt : Int) ∧ IS I tgt tN tN tC S) : IS I pc tN tB tC (swS e lo cs dS) := by
  intro L M L' M' c v h
  obtain ⟨⟨x, M1⟩, h1, h⟩ := Option.bind_eq_some_iff.mp h
  obtain ⟨⟨L2, M2, c2, v2⟩, h2, h⟩ := Option.map_eq_some_iff.mp h
  obtain ⟨l1, k1⟩ := he L M _ _ h1
  have fin : ∀ (S : DS) (tgt : Nat), IS I tgt tN tN tC S → S L M1 = some (L2, M2, c2, v2) → (∀ (G : GT), CX G I → PT G tgt L [] M1 → PT G p1 L [.int x] M1) → LE M M' ∧ ∀ (G : GT), CX G I → LW G M → RM G M' → (c = 0 → PT G tN L' [] M') → (c = 1 → PT G tB L' [] M') → (c = 2 → PT G tC L' [] M') → (c = 3 → RT G I v M') → PT G pc L [] M := by
    intro S tgt hS hr2 go
    obtain ⟨l2, k2⟩ := hS L M1 L2 M2 c2 v2 hr2
    dsimp only at h
    split at h
    · rename_i hc1
      cases h
      exact ⟨l1.tr l2, fun G C hw hr q0 _ _ _ => k1 G [] C csum0 hw (hr.dn l2) (go G C (k2 G C (hw.up l1) hr (fun _ => q0 rfl) (fun _ => q0 rfl) (fun z => by rw [hc1] at z; cases z) (fun z => by rw [hc1] at z; cases z)))⟩
    · rename_i hc1
      cases h
      exact ⟨l1.tr l2, fun G C hw hr q0 q1 q2 q3 => k1 G [] C csum0 hw (hr.dn l2) (go G C (k2 G C (hw.up l1) hr q0 (fun z => absurd z hc1) q2 q3))⟩
  dsimp only at h2
  by_cases hlo : x.toInt < lo
  · rw [if_pos hlo] at h2
    exact fin dS pD hds h2 (fun G C k => pt_tableOut C hd (Or.inl hlo) hD k)
  · rw [if_neg hlo] at h2
    cases hS : cs[(x.toInt - lo).toNat]? with
    | none =>
      rw [hS] at h2
      have : cs.length ≤ (x.toInt - lo).toNat := by simpa using hS
      exact fin dS pD hds h2 (fun G C k => pt_tableOut C hd (Or.inr (by omega)) hD k)
    | some S =>
      rw [hS] at h2
      have hlt := (List.getElem?_eq_some_iff.mp hS).1
      obtain ⟨off, tgt, g1, g2, g3⟩ := hcs _ S hS
      exact fin S tgt g3 h2 (fun G C k => pt_tableIn C hd hlo (by omega) g1 g2 k)
end Stms
def sup : DS := fun L M => (lA 0 L M).bind fun q => q.1.bind fun _ => some (L, q.2, 0, none)
theorem is_sup {I : MI} {pc p1 index tN tB tC : Nat} (ha : IE va_rf I 0 pc p1 (lA 0)) (w1 : Cond.methodLink I.2.1 index Lib.objectInit ∈ TG) (w2 : Cond.instanceMethod Lib.objectInit ∈ TG) (w3 : Cond.code Lib.objectInit ⟨#[0xb1]⟩ 1 none ∈ TG) (hfr : 1 ≤ I.2.2.2.1) (hlo : 0 + 12 ≤ I.2.2.2.2.1)
    (hd : decode I.1 p1 = .ok (.invokespecial index, 3)) (hj : Jp I (p1 + 3) tN) : IS I pc tN tB tC sup := by
  intro L M L' M' c v h
  obtain ⟨⟨r, M1⟩, h1, h⟩ := Option.bind_eq_some_iff.mp h
  obtain ⟨a, h2, h⟩ := Option.bind_eq_some_iff.mp h
  cases h
  have h2 : r = some a := h2
  subst h2
  obtain ⟨l1, k1⟩ := ha L M _ _ h1
  exact ⟨l1, fun G C hw hr q0 _ _ _ => k1 G [] C csum0 hw hr (pt_objInit C w1 w2 w3 hfr hlo hd (hj.pt C (q0 rfl)))⟩
theorem ic_jt {I : MI} {d pc p t pF : Nat} {c : DC} (hj : Jp I p t) (hc : IC I d pc p pF c) : IC I d pc t pF c := by
  intro L M w M' h
  obtain ⟨l1, k1⟩ := hc L M w M' h
  exact ⟨l1, fun G st C hs hw hr kt kf => k1 G st C hs hw hr (fun q => hj.pt C (kt q)) kf⟩
theorem mkL_get {n i : Nat} {as : List Value} {v : Value} (h : (mkL n as)[i]? = some (some v)) : as[i]? = some v := by
  unfold mkL at h
  by_cases hi : i < (as.map some).length
  · rw [List.getElem?_append_left hi, List.getElem?_map] at h
    cases ha : as[i]? with
    | none => rw [ha] at h; cases h
    | some w => rw [ha] at h; cases h; rfl
  · rw [List.getElem?_append_right (by omega)] at h
    obtain ⟨h1, h2⟩ := List.getElem?_eq_some_iff.mp h
    rw [List.getElem_replicate] at h2
    cases h2
theorem lg_sl1 : ∀ (vs : List Value), (∀ v ∈ vs, v.category = 1) → lg_sl vs = vs.map Slot.val := by
  intro vs
  induction vs with
  | nil => intro _; rfl
  | cons v t ih =>
    intro h
    have h1 : v.category = 1 := h v List.mem_cons_self
    have h2 := ih (fun w hw => h w (List.mem_cons_of_mem _ hw))
    unfold lg_sl at h2 ⊢
    rw [List.flatMap_cons, h2, if_neg (by rw [h1]; decide)]
    rfl
theorem entry_loc {X : GF} {n : Nat} {as : List Value} (hc : cat1 as = true) (hn : as.length ≤ n) : LOC X ((lg_sl (as.map (up X)) ++ List.replicate (n - (lg_sl (as.map (up X))).length) Slot.unset).toArray) n (mkL n as) := by
  have h1 : ∀ v ∈ as.map (up X), v.category = 1 := by
    intro v hv
    obtain ⟨w, hw, rfl⟩ := List.mem_map.mp hv
    rw [up_cat]
    have := List.all_eq_true.mp hc w hw
    simpa using this
  have e := lg_sl1 _ h1
  have hlen : (lg_sl (as.map (up X))).length = as.length := by rw [e]; simp
  have hl := lv_entry (as.map (up X)) (n := n) (by rw [hlen]; exact hn)
  refine ⟨hl.1, hl.2.1, fun i v hi => ?_⟩
  have ha := mkL_get hi
  rw [e]
  have hlt := (List.getElem?_eq_some_iff.mp ha).1
  simp only [List.getElem?_toArray]
  rw [List.getElem?_append_left (by simpa using hlt), List.getElem?_map, List.getElem?_map, ha]
  rfl
theorem sameRet {G : GT} {I : MI} {X : GF} {v : Option Value} {M : Mm} (hX : gX G = X) (C : CX G I) (hQ : gQ G = MQ (gb G) (Qcv X v M) (ga G) (gs G) (M.1 - gn G) (M.2.1 - gz G) (AA X)) : RT G I v M := by
  intro L pc hd hok ls H locs hl hR hS
  subst hX
  rw [hQ]
  have hq : ∀ (t : State), t.heap = H → (gs G).WarmedH t.vm → Qcv (gX G) v M (ga G) (gs G) (.returned (v.map (up (gX G)))) t := fun t ht hW => ⟨rfl, by rw [ht]; exact hR.warm hW, hS.F ht⟩
  have hf : ∀ q ∈ locs, AA (gX G) q.base := hS.2.2
  have hlk := C.2.2.2.2.2.2.2.2.2.1
  have hret := C.2.2.2.2.2.2.2.2.1
  rcases hr : I.2.2.2.2.2.2 with _ | t
  · rw [hr] at hd hok hret
    have hok : v = none := hok
    subst hok
    exact W.vret C.1 C.2.1 hret hq hf hd hlk
  · rw [hr] at hd hok hret
    cases t with
    | int =>
      obtain ⟨x, rfl⟩ := hok
      exact W.zret C.1 C.2.1 hret rfl hq hf hd hlk
    | boolean =>
      obtain ⟨x, hx, rfl⟩ := hok
      exact W.zret C.1 C.2.1 hret (by rcases hx with rfl | rfl <;> rfl) hq hf hd hlk
    | object n =>
      obtain ⟨r, rfl⟩ := hok
      have k := W.aret (p := gp G) (l := gl G) (e := ge G) (R := gR G) (s := gs G) (m := gm G) (args := ga G) (below := gb G) (meth := gh G) (c := gc G) (H := H) (locs := locs) (cells := M.1 - gn G) (slots := M.2.1 - gz G) (v := up (gX G) (va_rf r)) C.1 C.2.1 hret (Or.inl ⟨n, rfl⟩) (by cases r <;> first | exact Or.inl rfl | exact Or.inr ⟨_, rfl⟩) hq hf (ls := ls) hd hlk
      exact k
    | array n =>
      obtain ⟨r, rfl⟩ := hok
      have k := W.aret (p := gp G) (l := gl G) (e := ge G) (R := gR G) (s := gs G) (m := gm G) (args := ga G) (below := gb G) (meth := gh G) (c := gc G) (H := H) (locs := locs) (cells := M.1 - gn G) (slots := M.2.1 - gz G) (v := up (gX G) (va_rf r)) C.1 C.2.1 hret (Or.inr ⟨n, rfl⟩) (by cases r <;> first | exact Or.inl rfl | exact Or.inr ⟨_, rfl⟩) hq hf (ls := ls) hd hlk
      exact k
    | _ => exact hok.elim
/-- a method whose body does what it means has its contract -/
theorem ma_of {y : MethodName} {I : MI} {body : DS} {a b c : Nat} (hy : plainName y.cls = true) (hcls : y.cls = I.2.1) (hnm : y.name = I.2.2.2.2.2.1) (hb : IS I 0 a b c body) : MA y I (runM I.2.2.1 body) := by
  have mono : ∀ (as : List Value) (M : Mm) (v : Option Value) (M' : Mm), runM I.2.2.1 body as M = some (v, M') → LE M M' := by
    intro as M v M' h
    unfold runM at h
    split at h
    · obtain ⟨⟨L1, M1, c1, v1⟩, h1, h⟩ := Option.bind_eq_some_iff.mp h
      dsimp only at h
      split at h
      · cases h
        exact (hb _ _ _ _ _ _ h1).1
      · cases h
    · cases h
  refine ⟨mono, fun l hfl X as M v M' h => ⟨mono as M v M' h, ?_⟩⟩
  unfold runM at h
  split at h
  · rename_i hca
    obtain ⟨⟨L1, M1, c1, v1⟩, h1, h⟩ := Option.bind_eq_some_iff.mp h
    dsimp only at h
    split at h
    · rename_i hc3
      cases h
      subst hc3
      obtain ⟨hle, k⟩ := hb _ _ _ _ _ _ h1
      refine Met.ofW (cc := I.1) (maxL := I.2.2.1) (ret := I.2.2.2.2.2.2) hy rfl ?_
      intro p e s m args below meth c s₁ B hml hv
      obtain ⟨rfl, hR, hB⟩ := hv
      have hts := atoms_spec (ws := .code y I.1 I.2.2.1 I.2.2.2.2.2.2 :: TG) B.pre
      have hloc := entry_loc (X := X) hca.1 hca.2
      rw [lg_entry_eq]
      let G : GT := (X, p, l, e, (headSpec (.code y I.1 I.2.2.1 I.2.2.2.2.2.2 :: TG) ({ frames := I.2.2.2.1, cells := M'.1 - M.1, slots := M'.2.1 - M.2.1, locals := I.2.2.2.2.1 })).room, s, m, (as.map (up X)).toArray, below, meth, c, M.1, M.2.1, MQ below (Qcv X v M') (as.map (up X)).toArray s (M'.1 - M.1) (M'.2.1 - M.2.1) (AA X))
      have C : CX G I := ⟨B.exec, B.bytes, by rw [← hcls]; exact findClass_of_methodNamed B.named, hml, fun w hw => hts w (List.mem_cons_of_mem _ hw), rfl, rfl, fun hh => by rw [(name_of_methodNamed B.named B.method).1, hnm]; exact hh, B.returns, B.notSynchronized, hB, hfl⟩
      have hroom : RM G M' := by
        constructor
        · show M'.1 ≤ M.1 + (M'.1 - M.1)
          have := hle.1
          omega
        · show M'.2.1 ≤ M.2.1 + (M'.2.1 - M.2.1)
          have := hle.2
          omega
      have k1 : PT G 0 (mkL I.2.2.1 as) [] M := k G C ⟨Nat.le_refl _, Nat.le_refl _⟩ hroom (fun z => by cases z) (fun z => by cases z) (fun z => by cases z) (fun _ => sameRet (X := X) rfl C rfl)
      have k2 := k1 _ s.heap [] (by rw [C.2.2.2.1]; exact hloc) hR va_S.rf
      exact W.cs (cells' := M.1 - M.1) (slots' := M.2.1 - M.2.1) (by omega) (by omega) k2
    · cases h
  · cases h
