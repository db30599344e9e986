/-! ROWS of the small machine that make cells, call and return -/
section PTnew
variable {G : GT} {I : MI} {pc : Nat} {L : Lv} {st : List Value} {M : Mm}
theorem pt_new (C : CX G I) {ci index N : Nat} {fs : List Value} {Cn : String} {T : u_T} (hc : vwCl[ci]? = some (Cn, T, N)) (hin : ∀ w ∈ u_ws Cn T N, w ∈ TG) (ty0 : Nat → FieldType) (hty : ∀ k, k < N → parseFieldDescriptor (T k).2.2.1 = some (ty0 k))
    (hfs : ∀ j, j < N → defaultValue (ty0 j) = vp_V fs j) (hup : ∀ X : GF, fs.map (up X) = fs) (w1 : Cond.classLink I.2.1 index Cn ∈ TG) (w2 : Cond.instantiable Cn N ∈ TG) (w3 : Cond.initialized Cn ∈ TG) (hlow : gn G ≤ M.1 ∧ gz G ≤ M.2.1) (hroom : M.1 + 1 ≤ gn G + (gR G).cells ∧ M.2.1 + N ≤ gz G + (gR G).slots)
    (hd : decode I.1 pc = .ok (.new index, 3)) (kk : PT G (pc + 3) L (.ref M.1 :: st) (newC M N (.inr (ci, fs)))) : PT G pc L st M := by
  intro ls H locs hl hR hS
  have hKn := hR.K.1 ci _ hc
  refine W.newcK C.1 C.2.1 C.2.2.1 (C.2.2.2.2.1 _ w1) (C.2.2.2.2.1 _ w2) (C.2.2.2.2.1 _ w3) rfl hd (by omega) (by omega) hKn.2.1 rfl fun H1 kC hkC e1 z1 o1 => ?_
  have hb : va_at (gX G).1 vwCl (H.size, upC (gX G) (.inr (ci, fs))) H1 := by
    rw [upC_o, hup]
    exact ⟨_, hc, (u_born ty0 C.2.2.2.2.1 hin hKn hkC e1 hty).to hfs⟩
  have k1 := kk ls H1 locs hl (hR.new N z1 (Or.inr hb) o1) (hS.new5 z1 o1)
  have e2 : H.size = adr (gX G) M.1 := by rw [adr_hi _ hR.1.1]; exact hR.1.2
  rw [e2]
  refine W.cs (cells' := (newC M N (.inr (ci, fs))).1 - gn G) (slots' := (newC M N (.inr (ci, fs))).2.1 - gz G) ?_ ?_ k1
  · show M.1 - gn G + 1 = M.1 + 1 - gn G
    omega
  · show M.2.1 - gz G + N = M.2.1 + N - gz G
    omega
theorem pt_newa (C : CX G I) {t : Nat} {atype : ArrayType} {n : Int32} {N : Nat} {x : vp_A} (ht : t ≤ 2) (hat : newarray.typeOf atype = atT t) (w1 : Cond.arrayClass (atT t) ∈ TG) (hn : ¬ n < 0) (hN : n.toNatClampNeg = N) (hbig : N ≤ 100000)
    (hx : ∀ (X : GF) (cA : ClassId), vp_cell cA (upA X x) = arrV cA N (fun _ => defaultValue (atT t))) (hlow : gn G ≤ M.1 ∧ gz G ≤ M.2.1) (hroom : M.1 + 1 ≤ gn G + (gR G).cells ∧ M.2.1 + N ≤ gz G + (gR G).slots)
    (hd : decode I.1 pc = .ok (.newarray atype, 2)) (kk : PT G (pc + 2) L (.ref M.1 :: st) (newC M N (.inl (t, x)))) : PT G pc L (.int n :: st) M := by
  intro ls H locs hl hR hS
  have hby : N * componentBytes (newarray.typeOf atype) ≤ 536870912 := by
    rw [hat]
    have : componentBytes (atT t) ≤ 8 := by rcases (show t = 0 ∨ t = 1 ∨ t = 2 by omega) with rfl | rfl | rfl <;> decide
    calc N * componentBytes (atT t) ≤ 100000 * 8 := Nat.mul_le_mul hbig this
      _ ≤ 536870912 := by decide
  refine va_newaK C.1 C.2.1 (by rw [hat]; exact C.2.2.2.2.1 _ w1) rfl hd rfl hn hN hby (by omega) (by omega) rfl fun H1 cA e1 z1 o1 hAr hNm => ?_
  rw [hat] at e1 hNm
  have hk := (hR.K.2 t _ (TYS_at (gX G) (show t ≤ 5 by omega))).2
  have hcA : cA = (gX G).2.1 t := by
    rcases (show t = 0 ∨ t = 1 ∨ t = 2 by omega) with rfl | rfl | rfl <;> exact Option.some.inj (hNm.symm.trans hk)
  have hb : va_at (gX G).1 vwCl (H.size, upC (gX G) (.inl (t, x))) H1 := by
    show H1[H.size]? = some (vp_cell ((gX G).2.1 t) (upA (gX G) x))
    rw [hx, e1, hcA]
  have k1 := kk ls H1 locs hl (hR.new N z1 (Or.inr hb) o1) (hS.new5 z1 o1)
  have e2 : H.size = adr (gX G) M.1 := by rw [adr_hi _ hR.1.1]; exact hR.1.2
  rw [e2]
  refine W.cs (cells' := (newC M N (.inl (t, x))).1 - gn G) (slots' := (newC M N (.inl (t, x))).2.1 - gz G) ?_ ?_ k1
  · show M.1 - gn G + 1 = M.1 + 1 - gn G
    omega
  · show M.2.1 - gz G + N = M.2.1 + N - gz G
    omega
theorem pt_anew (C : CX G I) {t index : Nat} {Cn : String} {n : Int32} {N : Nat} (ht : 3 ≤ t ∧ t ≤ 5) (hat : atT t = .object Cn) (w1 : Cond.classLink I.2.1 index Cn ∈ TG) (w2 : Cond.arrayOver (.object Cn) ∈ NWL) (hn : ¬ n < 0) (hN : n.toNatClampNeg = N) (hbig : N ≤ 100000)
    (hlow : gn G ≤ M.1 ∧ gz G ≤ M.2.1) (hroom : M.1 + 1 ≤ gn G + (gR G).cells ∧ M.2.1 + N ≤ gz G + (gR G).slots)
    (hd : decode I.1 pc = .ok (.anewarray index, 3)) (kk : PT G (pc + 3) L (.ref M.1 :: st) (newC M N (.inl (t, N, .inr (.inr (.inr (.inr (fun _ => none)))))))) : PT G pc L (.int n :: st) M := by
  intro ls H locs hl hR hS
  subst hN
  refine W.anew C.1 C.2.1 C.2.2.1 (C.2.2.2.2.1 _ w1) (va_AO.use (A := ga G) (hR.W _ w2)) rfl hd rfl hn (by omega) (by omega) (by omega) fun cA kA comp f1 f2 f3 f4 => ?_
  generalize hH1 : H.push ({ cls := cA, slots := Array.replicate n.toNatClampNeg .null, vm := .none } : Cell) = H1
  have z1 : H1.size = H.size + 1 := by rw [← hH1, Array.size_push]
  have e1 : H1[H.size]? = some (arrV cA n.toNatClampNeg (fun _ => .null)) := by rw [← hH1, Array.getElem?_push_size, ← arrV_new]
  have o1 : ∀ q : Nat, q < H.size → H1[q]? = H[q]? := fun q hq => by rw [← hH1, Array.getElem?_push, if_neg (Nat.ne_of_lt hq)]
  have hk := hR.K.2 t _ (TYS_at (gX G) ht.2)
  rw [hat] at hk
  obtain ⟨kA', comp', k1, k2, k3, k4⟩ := hk.2
  have hcA : cA = (gX G).2.1 t := Option.some.inj (f1.symm.trans k4)
  have hb : va_at (gX G).1 vwCl (H.size, upC (gX G) (.inl (t, n.toNatClampNeg, .inr (.inr (.inr (.inr (fun _ => none))))))) H1 := by
    show H1[H.size]? = some (vp_cell ((gX G).2.1 t) (upA (gX G) _))
    rw [ve_q, e1, hcA]
    rfl
  have k1 := kk ls H1 locs hl (hR.new _ z1 (Or.inr hb) o1) (hS.new5 z1 o1)
  have e2 : H.size = adr (gX G) M.1 := by rw [adr_hi _ hR.1.1]; exact hR.1.2
  rw [e2]
  refine W.cs (cells' := (newC M n.toNatClampNeg (.inl (t, n.toNatClampNeg, .inr (.inr (.inr (.inr (fun _ => none))))))).1 - gn G) (slots' := (newC M n.toNatClampNeg (.inl (t, n.toNatClampNeg, .inr (.inr (.inr (.inr (fun _ => none))))))).2.1 - gz G) ?_ ?_ k1
  · show M.1 - gn G + 1 = M.1 + 1 - gn G
    omega
  · show M.2.1 - gz G + n.toNatClampNeg = M.2.1 + n.toNatClampNeg - gz G
    omega
/-- clone of an int array -/
theorem pt_clone (C : CX G I) {a n index : Nat} {f : Nat → Int32} (hM : M.2.2 a = .inl (0, n, .inl f)) (h5 : 5 ≤ a) (w1 : Cond.methodLink I.2.1 index ⟨"[I", "clone", "()Ljava/lang/Object;"⟩ ∈ TG) (w2 : Cond.sameMethod "[I" "java/lang/Object" "clone" "()Ljava/lang/Object;" ∈ TG)
    (w3 : Cond.native ⟨"java/lang/Object", "clone", "()Ljava/lang/Object;"⟩ ∈ TG) (w4 : Cond.instanceMethod ⟨"java/lang/Object", "clone", "()Ljava/lang/Object;"⟩ ∈ TG) (w5 : Cond.selects "[I" ⟨"[I", "clone", "()Ljava/lang/Object;"⟩ ⟨"java/lang/Object", "clone", "()Ljava/lang/Object;"⟩ ∈ TG) (w6 : Cond.castable "[I" "java/lang/Cloneable" ∈ NWL)
    (hfr : 1 ≤ I.2.2.2.1) (hlo : csum st + 14 ≤ I.2.2.2.2.1) (hlow : gn G ≤ M.1 ∧ gz G ≤ M.2.1) (hroom : M.1 + 1 ≤ gn G + (gR G).cells ∧ M.2.1 + n ≤ gz G + (gR G).slots)
    (hd : decode I.1 pc = .ok (.invokevirtual index, 3)) (kk : PT G (pc + 3) L (.ref M.1 :: st) (newC M n (.inl (0, n, .inl f)))) : PT G pc L (.ref a :: st) M := by
  intro ls H locs hl hR hS
  have hlt := hR.ltA hM
  have hP := hR.P hM rfl h5 hlt
  have hk0 := hR.K.2 0 _ (TYS_at (gX G) (t := 0) (by decide))
  have hnm : (gs G).vm.findClass "[I" = some ((gX G).2.1 0) := hk0.2
  obtain ⟨c0, t0', f1, f2, f3⟩ := Cond.castable_spec (va_Nw.use (A := ga G) rfl (hR.W _ w6))
  cases hnm.symm.trans f1
  intro T hT X
  have hcellT : T.heap[adr (gX G) a]? = some (vp_cell ((gX G).2.1 0) (n, .inl f)) := by rw [hT]; exact hP 0 _ rfl
  have hsz : (vp_cell ((gX G).2.1 0) (n, .inl f)).slots.size = n := arrV_size _ _ _
  obtain ⟨-, kA, hkA, comp, hkind⟩ := State.isArrayOf_alike X.warmed.alike (hk0.1 0 (fun _ => .null))
  obtain ⟨-, kS, hkS, compS, hkindS⟩ := hk0.1 0 (fun _ => .null)
  obtain ⟨vm', X', st'⟩ := X.cloneArray C.1 C.2.2.1 (C.2.2.2.2.1 _ w1) (C.2.2.2.2.1 _ w2) (C.2.2.2.2.1 _ w3) (C.2.2.2.2.1 _ w4) (C.2.2.2.2.1 _ w5) (a := adr (gX G) a) (cell := vp_cell ((gX G).2.1 0) (n, .inl f)) hcellT (fun k h => by cases h) (fun h => by cases h) hnm f2 f3
    (fun i v hv => by
      have hk' : T.vm.classes[(gX G).2.1 0]? = some kA := hkA
      have hcl0 : (vp_cell ((gX G).2.1 0) (n, .inl f)).cls = (gX G).2.1 0 := rfl
      rw [hcl0]
      have hlt2 := (Array.getElem?_eq_some_iff.mp hv).1
      rw [hsz] at hlt2
      have : (vp_cell ((gX G).2.1 0) (n, .inl f)).slots[i]? = some (.int (f i)) := arrV_read _ _ hlt2
      rw [this] at hv
      cases hv
      simp [State.fitsSlot, State.slotType?, hk', hkind, atT, fits])
    (g := F0 (gm G) pc ls (.ref (adr (gX G) a) :: st.map (up (gX G)))) rfl hl.1 rfl (by rw [C.2.1]; exact hd) (by rw [C.2.2.2.2.2.1]; exact hfr) (by show 2 * 0 + ((st.map (up (gX G))).map fun v => v.category).sum + 14 ≤ _; rw [csum_up, C.2.2.2.2.2.2.1]; omega) (by omega) (by rw [hsz]; omega) (hloader := Vm.clonesLoader_of_array hkS hkindS)
  rw [hsz] at X'
  generalize hH1 : H.push (vp_cell ((gX G).2.1 0) (n, .inl f)) = H1
  have z1 : H1.size = H.size + 1 := by rw [← hH1, Array.size_push]
  have e1 : H1[H.size]? = some (vp_cell ((gX G).2.1 0) (n, .inl f)) := by rw [← hH1, Array.getElem?_push_size]
  have o1 : ∀ q : Nat, q < H.size → H1[q]? = H[q]? := fun q hq => by rw [← hH1, Array.getElem?_push, if_neg (Nat.ne_of_lt hq)]
  have hb : va_at (gX G).1 vwCl (H.size, upC (gX G) (.inl (0, n, .inl f))) H1 := e1
  have k1 := kk ls H1 locs hl (hR.new n z1 (Or.inr hb) o1) (hS.new5 z1 o1)
  have e2 : adr (gX G) M.1 = H.size := by rw [adr_hi _ hR.1.1]; exact hR.1.2.symm
  have k2 : W (gp G) (gl G) (ge G) (gR G) (gs G) (gm G) (ga G) (gb G) (gh G) (gc G) H1 locs (M.1 - gn G + 1) (M.2.1 - gz G + n) (gQ G) (F0 (gm G) (pc + 3) ls (.ref H.size :: st.map (up (gX G)))) := by
    refine W.cs (cells' := (newC M n (.inl (0, n, .inl f))).1 - gn G) (slots' := (newC M n (.inl (0, n, .inl f))).2.1 - gz G) ?_ ?_ ?_
    · show M.1 - gn G + 1 = M.1 + 1 - gn G
      omega
    · show M.2.1 - gz G + n = M.2.1 + n - gz G
      omega
    · rw [← e2]
      exact k1
  obtain ⟨t, b1, b2⟩ := k2 ((T.setVm vm').pushCell (vp_cell ((gX G).2.1 0) (n, .inl f))) (by rw [← hH1, ← hT]; rfl) X'
  refine ⟨t, st' t ?_, b2⟩
  rw [hT]
  exact b1
theorem pt_castA (C : CX G I) {a n index : Nat} {f : Nat → Int32} (hM : M.2.2 a = .inl (0, n, .inl f)) (h5 : 5 ≤ a) (w1 : Cond.classLink I.2.1 index "[I" ∈ TG) (hd : decode I.1 pc = .ok (.checkcast index, 3)) (kk : PT G (pc + 3) L (.ref a :: st) M) : PT G pc L (.ref a :: st) M := by
  intro ls H locs hl hR hS
  have hk0 := (hR.K.2 0 _ (TYS_at (gX G) (t := 0) (by decide))).2
  exact va_castA C.1 C.2.1 C.2.2.1 (C.2.2.2.2.1 _ w1) (hR.P hM rfl h5 (hR.ltA hM)) 0 rfl hk0 hd (kk ls H locs hl hR hS)
theorem pt_objInit (C : CX G I) {a index : Nat} (w1 : Cond.methodLink I.2.1 index Lib.objectInit ∈ TG) (w2 : Cond.instanceMethod Lib.objectInit ∈ TG) (w3 : Cond.code Lib.objectInit ⟨#[0xb1]⟩ 1 none ∈ TG) (hfr : 1 ≤ I.2.2.2.1) (hlo : csum st + 12 ≤ I.2.2.2.2.1)
    (hd : decode I.1 pc = .ok (.invokespecial index, 3)) (kk : PT G (pc + 3) L st M) : PT G pc L (.ref a :: st) M := by
  intro ls H locs hl hR hS
  exact W.objInit C.1 C.2.1 C.2.2.1 (C.2.2.2.2.1 _ w1) (C.2.2.2.2.1 _ w2) (C.2.2.2.2.1 _ w3) rfl hl.1 rfl hd (by rw [C.2.2.2.2.2.1]; exact hfr) (by show 2 * 0 + ((st.map (up (gX G))).map fun v => v.category).sum + 12 ≤ _; rw [csum_up, C.2.2.2.2.2.2.1]; omega) (kk ls H locs hl hR hS)
theorem pt_max (C : CX G I) {index : Nat} {x y : Int32} (w1 : Cond.methodLink I.2.1 index Lib.Math.max.name ∈ TG) (w2 : Cond.static Lib.Math.max.name ∈ TG) (w3 : Cond.initialized "java/lang/Math" ∈ TG) (w4 : Cond.code Lib.Math.max.name Lib.Math.max.code 2 (some .int) ∈ TG) (hfr : 1 ≤ I.2.2.2.1) (hlo : csum st + 13 ≤ I.2.2.2.2.1) (hroom : M.1 ≤ gn G + (gR G).cells ∧ M.2.1 ≤ gz G + (gR G).slots)
    (hd : decode I.1 pc = .ok (.invokestatic index, 3)) (kk : PT G (pc + 3) L (.int (if x < y then y else x) :: st) M) : PT G pc L (.int y :: .int x :: st) M := by
  intro ls H locs hl hR hS
  exact va_mmax C.1 C.2.1 hl.1.symm C.2.2.1 (C.2.2.2.2.1 _ w1) (C.2.2.2.2.1 _ w2) (C.2.2.2.2.1 _ w3) (C.2.2.2.2.1 _ w4) (by rw [C.2.2.2.2.2.1]; exact hfr) (by rw [csum_up, C.2.2.2.2.2.2.1]; exact hlo) (by omega) (by omega) hd (kk ls H locs hl hR hS)
theorem pt_min (C : CX G I) {index : Nat} {x y : Int32} (w1 : Cond.methodLink I.2.1 index Lib.Math.min.name ∈ TG) (w2 : Cond.static Lib.Math.min.name ∈ TG) (w3 : Cond.initialized "java/lang/Math" ∈ TG) (w4 : Cond.code Lib.Math.min.name Lib.Math.min.code 2 (some .int) ∈ TG) (hfr : 1 ≤ I.2.2.2.1) (hlo : csum st + 13 ≤ I.2.2.2.2.1) (hroom : M.1 ≤ gn G + (gR G).cells ∧ M.2.1 ≤ gz G + (gR G).slots)
    (hd : decode I.1 pc = .ok (.invokestatic index, 3)) (kk : PT G (pc + 3) L (.int (if y < x then y else x) :: st) M) : PT G pc L (.int y :: .int x :: st) M := by
  intro ls H locs hl hR hS
  refine va_mmin C.1 C.2.1 hl.1.symm C.2.2.1 (C.2.2.2.2.1 _ w1) (C.2.2.2.2.1 _ w2) (C.2.2.2.2.1 _ w3) (C.2.2.2.2.1 _ w4) (by rw [C.2.2.2.2.2.1]; exact hfr) (by rw [csum_up, C.2.2.2.2.2.2.1]; exact hlo) (by omega) (by omega) hd ?_
  have k1 := kk ls H locs hl hR hS
  exact k1
end PTnew
/-! CONTRACTS: a method and its function of the small machine -/
abbrev FN : Type := List Value → Mm → Option (Option Value × Mm)
def Pcv (X : GF) (as : List Value) (M : Mm) : Array Value → State → Prop := fun a U => a = (as.map (up X)).toArray ∧ Rp X U M U.heap ∧ X.2.2.2 ≤ U.heap.size
def Qcv (X : GF) (v : Option Value) (M' : Mm) : Array Value → State → Outcome → State → Prop := fun _ st o t => o = .returned (v.map (up X)) ∧ Rp X t M' t.heap ∧ va_F (AA X) st t
def MS (l : Launch) (y : MethodName) (I : MI) (f : FN) : Prop := ∀ (X : GF) (as : List Value) (M : Mm) (v : Option Value) (M' : Mm), f as M = some (v, M') →
  (M.1 ≤ M'.1 ∧ M.2.1 ≤ M'.2.1) ∧ Met l y (.code y I.1 I.2.2.1 I.2.2.2.2.2.2 :: TG) ({ frames := I.2.2.2.1, cells := M'.1 - M.1, slots := M'.2.1 - M.2.1, locals := I.2.2.2.2.1 }) (Pcv X as M) (Qcv X v M') (M'.1 - M.1) (M'.2.1 - M.2.1) (AA X)
theorem Pcv_blind (X : GF) (as : List Value) (M : Mm) : FrameBlind (Pcv X as M) := by
  intro a U g mk h
  obtain ⟨h1, h2, h3⟩ := h
  refine ⟨h1, ?_, h3⟩
  have hvm : U.vm = (U.calling g mk a).vm := rfl
  exact h2.move (Vm.Alike.refl U.vm) (NWL_same hvm h2.W)
theorem ws_good {y : MethodName} {b : ByteArray} {n : Nat} {r : Option FieldType} (h : Cond.code y b n r ∈ TG) : GoodIn TG (.code y b n r :: TG) := by
  intro w hw
  rcases List.mem_cons.mp hw with rfl | hw
  · exact TG_good _ h
  · exact TG_good _ hw
/-- the words of a call -/
abbrev CD (y : MethodName) (n : Nat) : Prop := y.cls ≠ "java/lang/invoke/MethodHandle" ∧ y.cls ≠ "java/lang/invoke/VarHandle" ∧ (parseMethodDescriptor y.desc).map (fun d => d.parameters.length) = some n
section PTcalls
variable {G : GT} {I J : MI} {pc : Nat} {L : Lv} {st : List Value} {M M' : Mm} {v : Option Value} {y : MethodName} {f : FN} {index : Nat}
theorem run_fin {a : Array Value} {ls : Array Slot} {H : Heap} {locs : List Loc} {free : Addr → Prop} {st0 : List Value} (hle : M.1 ≤ M'.1 ∧ M.2.1 ≤ M'.2.1) (hlow : gn G ≤ M.1 ∧ gz G ≤ M.2.1)
    (hl : LOC (gX G) ls (gc G).maxLocals L) (hR : Rp (gX G) (gs G) M H) (hS : va_S (AA (gX G)) (gs G).heap H locs) (hfree : ∀ q, free q → AA (gX G) q)
    (hr : va_Run (gp G) (gl G) (ge G) (gR G) (gs G) (gm G) (ga G) (gb G) (gh G) (gc G) H locs (M.1 - gn G) (M.2.1 - gz G) (M'.1 - M.1) (M'.2.1 - M.2.1) (F0 (gm G) pc ls st0) (st.map (up (gX G))) (Qcv (gX G) v M' a) free)
    (kk : PT G (pc + 3) L (v.toList ++ st) M') : W (gp G) (gl G) (ge G) (gR G) (gs G) (gm G) (ga G) (gb G) (gh G) (gc G) H locs (M.1 - gn G) (M.2.1 - gz G) (gQ G) (F0 (gm G) pc ls st0) := by
  intro T hT X
  obtain ⟨v', st₀, t, T', Lc, h0, X', hL, e1, e2, ⟨hv, hR', hz, hk⟩, stp⟩ := hr T hT X
  cases hv
  rw [h0] at hz hk
  have hal : (gs G).vm.Alike t.vm := by rw [← e2]; exact X'.warmed.alike
  have hR1 : Rp (gX G) (gs G) M' T'.heap := by rw [e1]; exact hR'.move hal.symm hR.W
  have hS1 : va_S (AA (gX G)) (gs G).heap T'.heap (locs ++ Lc) := ⟨Nat.le_trans hS.1 (by rw [e1]; exact hz), fun q h1 h2 => by rw [e1, hk q (Nat.lt_of_lt_of_le h1 hS.1) h2]; exact hS.2.1 q h1 h2, fun q hq => by
    rcases List.mem_append.mp hq with h | h
    · exact hS.2.2 q h
    · exact hfree _ (hL q h)⟩
  have k1 := kk ls T'.heap (locs ++ Lc) hl hR1 hS1
  have e3 : (v.toList ++ st).map (up (gX G)) = (v.map (up (gX G))).toList ++ st.map (up (gX G)) := by cases v <;> simp
  rw [e3] at k1
  have k2 : W (gp G) (gl G) (ge G) (gR G) (gs G) (gm G) (ga G) (gb G) (gh G) (gc G) T'.heap (locs ++ Lc) (M.1 - gn G + (M'.1 - M.1)) (M.2.1 - gz G + (M'.2.1 - M.2.1)) (gQ G) (F0 (gm G) (pc + 3) ls ((v.map (up (gX G))).toList ++ st.map (up (gX G)))) :=
    W.cs (by omega) (by omega) k1
  obtain ⟨t2, a1, b1⟩ := k2 T' rfl X'
  exact ⟨t2, stp t2 a1, b1⟩
theorem mroom (hf : MS (gl G) y J f) {as : List Value} (hr : f as M = some (v, M')) (hlow : gn G ≤ M.1 ∧ gz G ≤ M.2.1) (hroom : M'.1 ≤ gn G + (gR G).cells ∧ M'.2.1 ≤ gz G + (gR G).slots) : M.1 - gn G + (M'.1 - M.1) ≤ (gR G).cells ∧ M.2.1 - gz G + (M'.2.1 - M.2.1) ≤ (gR G).slots := by
  obtain ⟨⟨h1, h2⟩, -⟩ := hf (gX G) as M v M' hr
  exact ⟨by omega, by omega⟩
theorem cfix (C : CX G I) : CallFix (gp G) (gm G) (gc G) I.1 I.2.2.1 (gs G) (ga G) TG I.2.1 := ⟨C.1, C.2.1, C.2.2.2.1, C.2.2.1, C.2.2.2.2.1⟩
theorem preU (C : CX G I) {H : Heap} {locs : List Loc} (hR : Rp (gX G) (gs G) M H) (hS : va_S (AA (gX G)) (gs G).heap H locs) {as : List Value} : ∀ U : State, U.heap = H → (gs G).WarmedH U.vm → Pcv (gX G) as M (as.map (up (gX G))).toArray U := by
  intro U hU hW
  refine ⟨rfl, by rw [hU]; exact hR.warm hW, ?_⟩
  rw [hU]
  exact Nat.le_trans C.2.2.2.2.2.2.2.2.2.2.1 hS.1
theorem pt_callV (C : CX G I) (hf : MS (gl G) y J f) {b ci N : Nat} {as fs : List Value} {T : u_T} (hr : f (.ref b :: as) M = some (v, M')) (hb : M.2.2 b = .inr (ci, fs)) (hc : vwCl[ci]? = some (y.cls, T, N))
    (w1 : Cond.methodLink I.2.1 index y ∈ TG) (w2 : Cond.instanceMethod y ∈ TG) (w3 : Cond.selects y.cls y y ∈ TG) (w4 : Cond.initialized y.cls ∈ TG) (w5 : Cond.code y J.1 J.2.2.1 J.2.2.2.2.2.2 ∈ TG) (hdesc : CD y as.length)
    (hfr : J.2.2.2.1 + 1 ≤ I.2.2.2.1) (hlo : 8 + (J.2.2.1 + 11) + J.2.2.2.2.1 ≤ I.2.2.2.2.1) (hst : csum st ≤ 8) (hlow : gn G ≤ M.1 ∧ gz G ≤ M.2.1) (hroom : M'.1 ≤ gn G + (gR G).cells ∧ M'.2.1 ≤ gz G + (gR G).slots)
    (hd : decode I.1 pc = .ok (.invokevirtual index, 3)) (kk : PT G (pc + 3) L (v.toList ++ st) M') : PT G pc L ((Value.ref b :: as).reverse ++ st) M := by
  intro ls H locs hl hR hS
  obtain ⟨hle, hM⟩ := hf (gX G) _ M v M' hr
  have hroom' := mroom hf hr hlow hroom
  obtain ⟨h5, hlt⟩ := hR.ltO hb hc
  have hP := hR.P hb (tel_o hc) h5 hlt
  have e0 : ((Value.ref b :: as).reverse ++ st).map (up (gX G)) = (as.map (up (gX G))).reverse ++ .ref (adr (gX G) b) :: st.map (up (gX G)) := by simp [up]
  rw [e0]
  exact run_fin hle hlow hl hR hS (fun q h => h) (va_runV (cfix C) hM (C := y.cls) (n := as.length)
    ⟨callB_of as.length C.2.2.2.2.1 (ws_good w5) rfl rfl rfl (C.2.2.2.2.1 _ w4) (C.2.2.2.2.1 _ w1) hdesc ⟨by rw [C.2.2.2.2.2.1]; exact hfr, by rw [C.2.2.2.2.2.2.1]; exact hlo⟩, C.2.2.2.2.1 _ w2, C.2.2.2.2.1 _ w3⟩
    ⟨Pcv_blind _ _ _, va_recv hR.K hP (ci := ci) (q0 := 0) hc rfl, fun U hU hW => preU C hR hS (as := .ref b :: as) U hU hW⟩ rfl (by rw [List.length_map]) (by rw [hl.1]; exact C.2.2.2.1) rfl (lv_room (by rw [csum_up]; exact hst)) hd hroom') kk
theorem pt_callS (C : CX G I) (hf : MS (gl G) y J f) {as : List Value} (hr : f as M = some (v, M'))
    (w1 : Cond.methodLink I.2.1 index y ∈ TG) (w2 : Cond.static y ∈ TG) (w4 : Cond.initialized y.cls ∈ TG) (w5 : Cond.code y J.1 J.2.2.1 J.2.2.2.2.2.2 ∈ TG) (hdesc : CD y as.length)
    (hfr : J.2.2.2.1 + 1 ≤ I.2.2.2.1) (hlo : 8 + (J.2.2.1 + 11) + J.2.2.2.2.1 ≤ I.2.2.2.2.1) (hst : csum st ≤ 8) (hlow : gn G ≤ M.1 ∧ gz G ≤ M.2.1) (hroom : M'.1 ≤ gn G + (gR G).cells ∧ M'.2.1 ≤ gz G + (gR G).slots)
    (hd : decode I.1 pc = .ok (.invokestatic index, 3)) (kk : PT G (pc + 3) L (v.toList ++ st) M') : PT G pc L (as.reverse ++ st) M := by
  intro ls H locs hl hR hS
  obtain ⟨hle, hM⟩ := hf (gX G) _ M v M' hr
  have hroom' := mroom hf hr hlow hroom
  have e0 : (as.reverse ++ st).map (up (gX G)) = (as.map (up (gX G))).reverse ++ st.map (up (gX G)) := by simp
  rw [e0]
  exact run_fin hle hlow hl hR hS (fun q h => h) (va_runS (cfix C) hM (n := as.length)
    ⟨callB_of as.length C.2.2.2.2.1 (ws_good w5) rfl rfl rfl (C.2.2.2.2.1 _ w4) (C.2.2.2.2.1 _ w1) hdesc ⟨by rw [C.2.2.2.2.2.1]; exact hfr, by rw [C.2.2.2.2.2.2.1]; exact hlo⟩, C.2.2.2.2.1 _ w2⟩
    ⟨Pcv_blind _ _ _, fun U hU hW => preU C hR hS (as := as) U hU hW⟩ rfl (by rw [List.length_map]) (by rw [hl.1]; exact C.2.2.2.1) rfl (lv_room (by rw [csum_up]; exact hst)) hd hroom') kk
theorem pt_callI (C : CX G I) (hy : y.name = "<init>") (hret : J.2.2.2.2.2.2 = none) (hf : MS (gl G) y J f) {b : Nat} {as : List Value} (hr : f (.ref b :: as) M = some (v, M'))
    (w1 : Cond.methodLink I.2.1 index y ∈ TG) (w2 : Cond.instanceMethod y ∈ TG) (w4 : Cond.initialized y.cls ∈ TG) (w5 : Cond.code y J.1 J.2.2.1 none ∈ TG) (hdesc : CD y as.length)
    (hfr : J.2.2.2.1 + 1 ≤ I.2.2.2.1) (hlo : 8 + (J.2.2.1 + 11) + J.2.2.2.2.1 ≤ I.2.2.2.2.1) (hst : csum st ≤ 8) (hlow : gn G ≤ M.1 ∧ gz G ≤ M.2.1) (hroom : M'.1 ≤ gn G + (gR G).cells ∧ M'.2.1 ≤ gz G + (gR G).slots)
    (hd : decode I.1 pc = .ok (.invokespecial index, 3)) (kk : PT G (pc + 3) L (v.toList ++ st) M') : PT G pc L ((Value.ref b :: as).reverse ++ st) M := by
  intro ls H locs hl hR hS
  obtain ⟨hle, hM⟩ := hf (gX G) _ M v M' hr
  rw [hret] at hM
  have hroom' := mroom hf hr hlow hroom
  have e0 : ((Value.ref b :: as).reverse ++ st).map (up (gX G)) = (as.map (up (gX G))).reverse ++ .ref (adr (gX G) b) :: st.map (up (gX G)) := by simp [up]
  rw [e0]
  exact run_fin hle hlow hl hR hS (fun q h => h) (va_runI (cfix C) hM (n := as.length)
    ⟨callB_of as.length C.2.2.2.2.1 (ws_good w5) rfl rfl rfl (C.2.2.2.2.1 _ w4) (C.2.2.2.2.1 _ w1) hdesc ⟨by rw [C.2.2.2.2.2.1]; exact hfr, by rw [C.2.2.2.2.2.2.1]; exact hlo⟩, hy, C.2.2.2.2.1 _ w2⟩
    ⟨Pcv_blind _ _ _, fun U hU hW => preU C hR hS (as := .ref b :: as) U hU hW⟩ rfl (by rw [List.length_map]) (by rw [hl.1]; exact C.2.2.2.1) rfl (lv_room (by rw [csum_up]; exact hst)) hd hroom') kk
theorem pt_callSN (C : CX G I) (hf : MS (gl G) y J f) {host : String} {as : List Value} (hr : f as M = some (v, M'))
    (w1 : Cond.methodLinkNest I.2.1 index y host ∈ NWL) (w2 : Cond.static y ∈ TG) (w4 : Cond.initialized y.cls ∈ TG) (w5 : Cond.code y J.1 J.2.2.1 J.2.2.2.2.2.2 ∈ TG) (hdesc : CD y as.length)
    (hfr : J.2.2.2.1 + 1 ≤ I.2.2.2.1) (hlo : 8 + (J.2.2.1 + 11) + J.2.2.2.2.1 ≤ I.2.2.2.2.1) (hst : csum st ≤ 8) (hlow : gn G ≤ M.1 ∧ gz G ≤ M.2.1) (hroom : M'.1 ≤ gn G + (gR G).cells ∧ M'.2.1 ≤ gz G + (gR G).slots)
    (hd : decode I.1 pc = .ok (.invokestatic index, 3)) (kk : PT G (pc + 3) L (v.toList ++ st) M') : PT G pc L (as.reverse ++ st) M := by
  intro ls H locs hl hR hS
  obtain ⟨hle, hM⟩ := hf (gX G) _ M v M' hr
  have hroom' := mroom hf hr hlow hroom
  have e0 : (as.reverse ++ st).map (up (gX G)) = (as.map (up (gX G))).reverse ++ st.map (up (gX G)) := by simp
  rw [e0]
  exact run_fin hle hlow hl hR hS (fun q h => h) (va_runSN (cfix C) hM (n := as.length)
    ⟨va_cnB as.length C.2.2.2.2.1 (ws_good w5) rfl rfl rfl (hR.W _ w1) (C.2.2.2.2.1 _ w4) hdesc ⟨by rw [C.2.2.2.2.2.1]; exact hfr, by rw [C.2.2.2.2.2.2.1]; exact hlo⟩, C.2.2.2.2.1 _ w2, trivial⟩
    ⟨Pcv_blind _ _ _, fun U hU hW => preU C hR hS (as := as) U hU hW⟩ rfl (by rw [List.length_map]) (by rw [hl.1]; exact C.2.2.2.1) rfl (lv_room (by rw [csum_up]; exact hst)) hd hroom') kk
theorem pt_callIN (C : CX G I) (hy : y.name = "<init>") (hret : J.2.2.2.2.2.2 = none) (hf : MS (gl G) y J f) {host : String} {b : Nat} {as : List Value} (hr : f (.ref b :: as) M = some (v, M'))
    (w1 : Cond.methodLinkNest I.2.1 index y host ∈ NWL) (w2 : Cond.instanceMethod y ∈ TG) (w4 : Cond.initialized y.cls ∈ TG) (w5 : Cond.code y J.1 J.2.2.1 none ∈ TG) (hdesc : CD y as.length)
    (hfr : J.2.2.2.1 + 1 ≤ I.2.2.2.1) (hlo : 8 + (J.2.2.1 + 11) + J.2.2.2.2.1 ≤ I.2.2.2.2.1) (hst : csum st ≤ 8) (hlow : gn G ≤ M.1 ∧ gz G ≤ M.2.1) (hroom : M'.1 ≤ gn G + (gR G).cells ∧ M'.2.1 ≤ gz G + (gR G).slots)
    (hd : decode I.1 pc = .ok (.invokespecial index, 3)) (kk : PT G (pc + 3) L (v.toList ++ st) M') : PT G pc L ((Value.ref b :: as).reverse ++ st) M := by
  intro ls H locs hl hR hS
  obtain ⟨hle, hM⟩ := hf (gX G) _ M v M' hr
  rw [hret] at hM
  have hroom' := mroom hf hr hlow hroom
  have e0 : ((Value.ref b :: as).reverse ++ st).map (up (gX G)) = (as.map (up (gX G))).reverse ++ .ref (adr (gX G) b) :: st.map (up (gX G)) := by simp [up]
  rw [e0]
  exact run_fin hle hlow hl hR hS (fun q h => h) (va_runIN (cfix C) hM (n := as.length)
    ⟨va_cnB as.length C.2.2.2.2.1 (ws_good w5) rfl rfl rfl (hR.W _ w1) (C.2.2.2.2.1 _ w4) hdesc ⟨by rw [C.2.2.2.2.2.1]; exact hfr, by rw [C.2.2.2.2.2.2.1]; exact hlo⟩, hy, C.2.2.2.2.1 _ w2⟩
    ⟨Pcv_blind _ _ _, fun U hU hW => preU C hR hS (as := .ref b :: as) U hU hW⟩ rfl (by rw [List.length_map]) (by rw [hl.1]; exact C.2.2.2.1) rfl (lv_room (by rw [csum_up]; exact hst)) hd hroom') kk
end PTcalls
