/-! FALLEN: the one method that throws, and the law's method that catches it -/
section PXT
variable {p : Program} {l : Launch} {e : Env} {R : Room} {s : State} {m : MethodId} {args : Array Value} {below : List Frame} {meth : Method} {c : Code} {H : Heap} {locs : List Loc} {cells slots : Nat}
variable {free : Addr → Prop} {ls : Array Slot} {rest : List Value} {Qc : Array Value → State → Outcome → State → Prop} {XC : String → State → State → Prop}
/-- as vx_throw0, with one thing more: the heap has grown -/
theorem px_throw0 {cc : ByteArray} {pc : Nat} (hexec : p.tables.exec = Jvm.exec) (hb : c.code = cc) (hl : l.stackTraces = false) {own cls : String} {names : List String} {ik ic mc ms : Nat} {A : Nat → Prop}
    (hown : s.vm.findClass own = some m.cls) (hcls : Bundle.fit cls = true) (hnames : ∀ n ∈ names, Bundle.fit n = true)
    (hk : (Cond.classLink own ik cls).before args s = true) (hini : (Cond.initialized cls).before args s = true) (hat : ∀ w ∈ vx_at0 own ic cls names, w.before args s = true)
    (hgood : ∀ w ∈ Cond.classLink own ik cls :: Cond.initialized cls :: vx_at0 own ic cls names, vx_ot w = true)
    (hU : vx_Zq Bundle.tN "UNASSIGNED_STACK" Bundle.steD A s H) (hN : vx_Zq Bundle.tN "SUPPRESSED_SENTINEL" Bundle.listD A s H) (hsize : ls.size = c.maxLocals)
    (d0 : decode cc pc = .ok (.new ik, 3)) (d3 : decode cc (pc + 3) = .ok (.dup, 1)) (d4 : decode cc (pc + 4) = .ok (.invokespecial ic, 3)) (d7 : decode cc (pc + 7) = .ok (.athrow, 1))
    (hout : ∀ x ∈ c.exceptionTable.toList, covers x (pc + 7) = false)
    (hRframes : names.length + 3 < R.frames) (hRlocals : (rest.map fun v => v.category).sum + (13 * (names.length + 1) + 42) ≤ R.locals) (hRcells : cells + 1 ≤ R.cells) (hRslots : slots + 6 ≤ R.slots) (hlocks : meth.locks = false)
    (hx : ∀ t : State, s.WarmedH t.vm → H.size < t.heap.size → t.heap.size ≤ s.heap.size + mc → (∀ q : Nat, q < H.size → t.heap[q]? = H[q]?) → XC cls s t)
    (hf : ∀ z ∈ locs, free z.base) (hc : cells + 1 ≤ mc) (hs : slots + 6 ≤ ms) :
    W p l e R s m args below meth c H locs cells slots (vx_MQ below Qc XC args s mc ms free) (F0 m pc ls rest) := by
  intro T hT X
  have htr : e.platform.stackTraces = false := (show e.platform.stackTraces = l.stackTraces by rw [X.admits.platform]).trans hl
  have Y := vx_rebase X (R' := { frames := R.frames, locals := R.locals, cells := 1, slots := 6 }) (Nat.le_refl _) (Nat.le_refl _) hRcells hRslots
  obtain ⟨s', hA⟩ : ∃ z, z = (T.setVm s.vm).setFrames (.invoking m args :: below) := ⟨_, rfl⟩
  rw [← hA] at Y
  have hvm : s'.vm = s.vm := by rw [hA]; rfl
  have hhp : s'.heap = H := by rw [hA]; exact hT
  have hW0 : s.WarmedH s'.vm := by rw [hvm]; exact State.WarmedH.refl s
  have hat' : ∀ w ∈ vx_at0 own ic cls names, w.before args s' = true := fun w hw => vx_ot_at hW0 hvm.symm (hgood w (List.mem_cons_of_mem _ (List.mem_cons_of_mem _ hw))) (hat w hw)
  have hk' : (Cond.classLink own ik cls).before args s' = true := vx_ot_at hW0 hvm.symm (hgood _ List.mem_cons_self) hk
  have hini' : (Cond.initialized cls).before args s' = true := vx_ot_at hW0 hvm.symm (hgood _ (List.mem_cons_of_mem _ List.mem_cons_self)) hini
  have hU' : vx_Zq Bundle.tN "UNASSIGNED_STACK" Bundle.steD A s' s'.heap := by rw [hhp]; exact vx_Zq.moved hW0.alike hU
  have hN' : vx_Zq Bundle.tN "SUPPRESSED_SENTINEL" Bundle.listD A s' s'.heap := by rw [hhp]; exact vx_Zq.moved hW0.alike hN
  have h : ∀ w ∈ Bundle.ownAtoms0 own ic cls names, w.before args s' = true := vx_own hat' (vx_isRefq hU'.1) (vx_isRefq hN'.1) hU'.2.word hN'.2.word
  have hown' : s'.vm.findClass own = some m.cls := by rw [hvm]; exact hown
  have hins : (Cond.instantiable cls 6).before args s' = true := h _ (by simp [Bundle.ownAtoms0])
  obtain ⟨vm₁, cX, kX, hfX, hkX, -, -, X₁, st1⟩ := Y.newCold hexec (own := own) (C := cls) (index := ik) (n := 6) hown' hk' hins hini'
    (g := F0 m pc ls rest) rfl (by rw [hb]; exact d0) (Nat.le_refl _) (Nat.le_refl _)
  generalize hT1 : (T.setVm vm₁).pushCell { cls := cX, slots := kX.instanceTypes.map defaultValue, vm := .none } = T1 at X₁ st1
  have hcat : (Value.ref T.heap.size).category = 1 := rfl
  have hcellA : T1.heap[T.heap.size]? = some (freshCell cX kX) := by rw [← hT1]; exact State.heap_pushCell_size _ _
  have d3' : decode c.code (pc + 3) = .ok (.dup, 1) := by rw [hb]; exact d3
  obtain ⟨U, hsteps, hrun, hend, hW, hsame, ce, hce, hO⟩ := X₁.ctorThrow0 hexec htr (own := own) (cls := cls) (names := names) (ic := ic) hown' hcls hnames h (fun x hx => nomatch hx) hfX hkX hcellA (by rw [hhp, hT]; exact Nat.le_refl _)
    (g := { method := m, pc := pc + 4, locals := ls, stack := .ref T.heap.size :: .ref T.heap.size :: rest, locked := none }) rfl hsize rfl rfl (rest := rest) rfl
    (by rw [hb]; exact d4) (by rw [hb]; exact d7) hout hRframes (by simp only [List.map_cons, List.sum_cons, hcat]; omega) hlocks
  obtain ⟨f1, f2⟩ := vx_frame hsame
  rw [hhp] at f1 f2
  have hWs : s.WarmedH U.vm := State.WarmedH.trans hW0 hW
  have hcl : s.vm.findClass cls = some ce.cls := by
    have h9 := hO.cls
    rw [hvm] at h9
    exact h9
  have hall : s.sameButNew ({ U with vm := s.vm } : State) locs mc ms := by
    subst hA
    obtain ⟨e1, e2⟩ := hsame
    rw [State.setFrames_setFrames] at e1
    have h2 : (T.setVm s.vm).sameButNew ({ U with vm := s.vm } : State) [] (0 + 1) (0 + 6) := ⟨e1, e2⟩
    have h3 := X.same.trans h2
    rw [List.append_nil] at h3
    exact h3.mono hc hs
  refine ⟨U, ?_, .threw T.heap.size, hrun, hend, Or.inr ⟨T.heap.size, rfl, cls, ce, locs, hx U hWs (by have h9 := (Array.getElem?_eq_some_iff.mp hce).1; rw [hT] at h9; exact h9) hall.2.2.1 (fun q hq => f2 q hq (fun z hz => nomatch hz)), hce, hO.vm, hcl, hWs, hall, hf⟩⟩
  refine st1 _ ?_
  show Steps p.tables e below (T1.setTop { method := m, pc := pc + 3, locals := ls, stack := .ref T.heap.size :: rest, locked := none }) _
  jvm_step X₁.here [X₁.here.top, hexec, d3', Value.category]
  exact hsteps
end PXT
theorem at0_in : ∀ w ∈ vx_at0 RX11 282 "java/lang/IndexOutOfBoundsException" ["java/lang/RuntimeException", "java/lang/Exception"], w ∈ TG ∨ w ∈ NWL := by decide +kernel
theorem at0_ot : ∀ w ∈ Cond.classLink RX11 280 "java/lang/IndexOutOfBoundsException" :: Cond.initialized "java/lang/IndexOutOfBoundsException" :: vx_at0 RX11 282 "java/lang/IndexOutOfBoundsException" ["java/lang/RuntimeException", "java/lang/Exception"], vx_ot w = true := by decide +kernel
theorem tf_823 : Cond.classLink RX11 280 "java/lang/IndexOutOfBoundsException" ∈ TG := TG_in 822 (by decide +kernel) (by decide +kernel)
theorem tf_66 : Cond.initialized "java/lang/IndexOutOfBoundsException" ∈ TG := TG_in 66 (by decide +kernel) (by decide +kernel)
theorem tf_818 : Cond.classLink RL 13 "java/lang/IndexOutOfBoundsException" ∈ TG := TG_in 817 (by decide +kernel) (by decide +kernel)
theorem tf_825 : Cond.castable "java/lang/IndexOutOfBoundsException" "java/lang/IndexOutOfBoundsException" ∈ NWL := NWL_in 824 (by decide +kernel) (by decide +kernel)
theorem tf_819 : Cond.methodLink RL 7 yX11_fallen ∈ TG := TG_in 818 (by decide +kernel) (by decide +kernel)
theorem tf_i : Cond.instanceMethod yX11_fallen ∈ TG := TG_in 819 (by decide +kernel) (by decide +kernel)
theorem tf_s : Cond.selects yX11_fallen.cls yX11_fallen yX11_fallen ∈ TG := TG_in 820 (by decide +kernel) (by decide +kernel)
theorem tf_c : Cond.code yX11_fallen cX11_fallen 3 (some .int) ∈ TG := TG_in 821 (by decide +kernel) (by decide +kernel)
theorem tf_n : Cond.initialized yX11_fallen.cls ∈ TG := TG_in 49 (by decide +kernel) (by decide +kernel)
theorem tf_d : (parseMethodDescriptor yX11_fallen.desc).map (fun d => d.parameters.length) = some 2 := by decide +kernel
theorem tf_815 : Cond.methodLink RL 139 yL_fallen ∈ TG := TG_in 814 (by decide +kernel) (by decide +kernel)
theorem tf_816 : Cond.static yL_fallen ∈ TG := TG_in 815 (by decide +kernel) (by decide +kernel)
abbrev hhF : List (Nat × Nat × Nat × Nat) := [(0, 10, 13, 13)]
theorem tf_817 : Cond.codeWith yL_fallen cL_fallen 5 (some .int) hhF ∈ TG := TG_in 816 (by decide +kernel) (by decide +kernel)
theorem tf_48 : Cond.initialized yL_fallen.cls ∈ TG := TG_in 48 (by decide +kernel) (by decide +kernel)
theorem noTrace {l : Launch} (h : l.flags = flags0) : l.stackTraces = false := by
  unfold Launch.stackTraces
  rw [h]
  decide +kernel
def XCf (X : GF) (M : Mm) : String → State → State → Prop := fun E st t => E = "java/lang/IndexOutOfBoundsException" ∧ Rp X t (newC M 6 opq) t.heap ∧ va_F (AA X) st t
abbrev I_X11_fallenT : MI := (cX11_fallen, RX11, 3, 6, 90, "fallen", some .int)
def thF (fell p0 p1 : Int32) : Prop := p0 < 0 ∨ fell ≤ p0 ∨ 60 ≤ p0 ∨ p1 < 0 ∨ 1 < p1
theorem fallen_throws {l : Launch} (hfl : l.flags = flags0) (X : GF) {x : Nat} {p0 p1 fell : Int32} {M : Mm} {fs : List Value} (hM : M.2.2 x = .inr (10, fs)) (hf : fs[13]? = some (.int fell)) (hc : thF fell p0 p1) :
    vx_Met l yX11_fallen (.code yX11_fallen cX11_fallen 3 (some .int) :: TG) ({ frames := 6, cells := 1, slots := 6, locals := 90 }) (Pcv X [.ref x, .int p0, .int p1] M) (fun _ _ _ _ => False) (XCf X M) 1 6 (AA X) := by
  refine vx_ofW (cc := cX11_fallen) (maxL := 3) (ret := some .int) (by decide +kernel) rfl ?_
  intro p e s m args below meth c s₁ B hml hex hv
  obtain ⟨rfl, hR, hB⟩ := hv
  have hts := atoms_spec (ws := .code yX11_fallen cX11_fallen 3 (some .int) :: TG) B.pre
  have hloc := entry_loc (X := X) (n := 3) (as := [.ref x, .int p0, .int p1]) rfl (Nat.le_of_ble_eq_true rfl)
  rw [lg_entry_eq]
  let G : GT := (X, p, l, e, (headSpec (.code yX11_fallen cX11_fallen 3 (some .int) :: TG) ({ frames := 6, cells := 1, slots := 6, locals := 90 })).room, s, m, ([Value.ref x, .int p0, .int p1].map (up X)).toArray, below, meth, c, M.1, M.2.1, vx_MQ below (fun _ _ _ _ => False) (XCf X M) ([Value.ref x, .int p0, .int p1].map (up X)).toArray s 1 6 (AA X))
  have C : CX G I_X11_fallenT := ⟨B.exec, B.bytes, findClass_of_methodNamed B.named, hml, fun w hw => hts w (List.mem_cons_of_mem _ hw), rfl, rfl, fun hh => absurd hh (by decide), B.returns, B.notSynchronized, hB, hfl⟩
  have h0 : s.heap.size = X.2.2.2 + (M.1 - 5) := hR.1.2
  have thr : ∀ L : Lv, PT G 27 L [] M := by
    intro L ls H locs hl hR2 hS
    have e0 : H.size = s.heap.size := by rw [h0]; exact hR2.1.2
    refine px_throw0 (p := p) (l := l) (e := e) (s := s) (m := m) (below := below) (meth := meth) (c := c) (H := H) (locs := locs) (A := AA X) (names := ["java/lang/RuntimeException", "java/lang/Exception"]) (rest := []) C.1 C.2.1 (noTrace hfl) C.2.2.1 (by decide +kernel) (by decide +kernel) (C.2.2.2.2.1 _ tf_823) (C.2.2.2.2.1 _ tf_66) (fun w hw => ?_) at0_ot hR2.2.2.2.2.2.2.1.1 hR2.2.2.2.2.2.2.1.2 hl.1 dX11_fallen_27 dX11_fallen_30 dX11_fallen_31 dX11_fallen_34 (fun y hy => (hex y hy).elim) (Nat.le_of_ble_eq_true rfl) (Nat.le_of_ble_eq_true rfl) (by show M.1 - M.1 + 1 ≤ 1; omega) (by show M.2.1 - M.2.1 + 6 ≤ 6; omega) B.notSynchronized (fun t hal hsz hle hsame => ?_) hS.2.2 (by show M.1 - M.1 + 1 ≤ 1; omega) (by show M.2.1 - M.2.1 + 6 ≤ 6; omega)
    · rcases at0_in w hw with q | q
      · exact C.2.2.2.2.1 _ q
      · have := hR2.W w q
        exact vx_ot_at (args := #[]) (State.WarmedH.refl s) rfl (at0_ot w (List.mem_cons_of_mem _ (List.mem_cons_of_mem _ hw))) this
    · refine ⟨rfl, (hR2.new 6 (by have hle : t.heap.size ≤ s.heap.size + 1 := hle; omega) (Or.inl rfl) hsame).warm hal, by omega, fun q hq hA => ?_⟩
      rw [hsame q (by omega)]
      exact hS.2.1 q hq hA
  have k1 : PT G 0 (mkL 3 [.ref x, .int p0, .int p1]) [] M := by
    refine pt_iload_n C dX11_fallen_0 rfl (x := p0) rfl ?_
    refine pt_if_lt C dX11_fallen_1 (by decide) (fun _ => thr _) (fun h1 => ?_)
    refine pt_iload_n C dX11_fallen_4 rfl (x := p0) rfl ?_
    refine pt_aload_n (r := some x) C dX11_fallen_5 rfl rfl ?_
    refine pt_get C hM hf fw_X11.1 (by decide) fw_X11.2 tw_237 dX11_fallen_6 ?_
    refine pt_icmp_ge C dX11_fallen_9 (by decide) (fun _ => thr _) (fun h2 => ?_)
    refine pt_iload_n C dX11_fallen_12 rfl (x := p0) rfl ?_
    refine pt_bipush C dX11_fallen_13 (v := 60) (by decide) ?_
    refine pt_icmp_ge C dX11_fallen_15 (by decide) (fun _ => thr _) (fun h3 => ?_)
    refine pt_iload_n C dX11_fallen_18 rfl (x := p1) rfl ?_
    refine pt_if_lt C dX11_fallen_19 (by decide) (fun _ => thr _) (fun h4 => ?_)
    refine pt_iload_n C dX11_fallen_22 rfl (x := p1) rfl ?_
    refine pt_iconst C dX11_fallen_23 (v := 1) (by decide) ?_
    refine pt_icmp_le (tgt := 35) C dX11_fallen_24 (by decide) (fun h5 => ?_) (fun _ => thr _)
    exfalso
    rcases hc with q | q | q | q | q
    · exact h1 q
    · exact h2 q
    · exact h3 q
    · exact h4 q
    · simp only [Int32.le_iff_toInt_le, Int32.lt_iff_toInt_lt] at q h5
      omega
  have k2 := k1 _ s.heap [] (by rw [C.2.2.2.1]; exact hloc) hR va_S.rf
  exact W.cs (cells' := M.1 - M.1) (slots' := M.2.1 - M.2.1) (by omega) (by omega) k2

section LawFallen
variable {l : Launch}
/-- a method with a table of its own that returns -/
theorem met_ofWH {y : MethodName} {ws ws' : List Cond} {rm : Room} {Pc : Array Value → State → Prop} {Qc : Array Value → State → Outcome → State → Prop} {mc ms : Nat} {free : Addr → Prop} {cc : ByteArray} {maxL : Nat} {ret : Option FieldType} {hh : List (Nat × Nat × Nat × Nat)}
    (hy : plainName y.cls = true) (hw : ws = Cond.codeWith y cc maxL ret hh :: ws')
    (body : ∀ p e s m args below meth c s₁, BodyLoose p l y (headSpec ws rm) cc maxL ret e s m args below meth c s₁ → c.maxLocals = maxL → Pc args s →
      W p l e (headSpec ws rm).room s m args below meth c s.heap [] 0 0 (MQ below Qc args s mc ms free) (entryFrame m args maxL)) : Met l y ws rm Pc Qc mc ms free := by
  refine MetFree.of_bodyS (code := cc) (maxLocals := maxL) (ret := ret) hy ?_ ?_
  · intro args s m h hn
    obtain ⟨m9, meth, c, hn9, h1, h2, h3, h4, -, h5, h6, -⟩ := Cond.codeWith_spec (atoms_spec (ws := ws) h _ (by rw [hw]; exact List.mem_cons_self))
    cases hn.symm.trans hn9
    exact ⟨meth, c, h1, h2, h3, h4, h5, h6⟩
  · intro p e s m args below meth c s₁ B hml hP _
    have hh0 : s₁.heap = s.heap := by rw [B.state]; rfl
    obtain ⟨t, a1, o, b1, b2, b3⟩ := body p e s m args below meth c s₁ B hml hP s₁ hh0 (Stand.of_body B)
    exact ⟨t, o, a1, b1, b2, b3.1, b3.2⟩
end LawFallen
def wrJ (a : Nat) (x : Int64) (M : Mm) : Option Mm := match M.2.2 a with
  | .inl (2, n, .inr (.inl f)) => if 0 < n ∧ n < 2 ^ 31 ∧ 5 ≤ a then some (setC M a (.inl (2, n, .inr (.inl (vp_updL f 0 x))))) else none
  | _ => none
theorem wrJ_spec {a : Nat} {x : Int64} {M M' : Mm} (h : wrJ a x M = some M') : ∃ n f, M.2.2 a = .inl (2, n, .inr (.inl f)) ∧ 0 < n ∧ n < 2 ^ 31 ∧ 5 ≤ a ∧ M' = setC M a (.inl (2, n, .inr (.inl (vp_updL f 0 x)))) := by
  unfold wrJ at h
  split at h
  · rename_i n f hM
    split at h
    · rename_i hc
      cases h
      exact ⟨n, f, hM, hc.1, hc.2.1, hc.2.2, rfl⟩
    · cases h
  · cases h
/-- what the law's fallen means -/
def F_L_fallen : FN := fun as M => match as with
  | [.ref x, .int p0, .int p1, .ref o] => (rdF 10 13 x M).bind fun w => (asI w).bind fun fell => if p0 < 0 ∨ fell ≤ p0 ∨ 60 ≤ p0 ∨ p1 < 0 ∨ 1 < p1 then some (some (.int 1), newC M 6 opq)
      else (F_X11_fallen [.ref x, .int p0, .int p1] M).bind fun q => q.1.bind fun v => (asI v).bind fun z => (wrJ o z.toInt64 q.2).map fun M' => (some (.int 0), M')
  | _ => none
theorem ve_l (X : GF) (cA : ClassId) (n : Nat) (f : Nat → Int64) : vp_cell cA (upA X (n, .inr (.inl f))) = arrV cA n (fun j => .long (f j)) := rfl
theorem pt_last0 {G : GT} {I : MI} {pc : Nat} {L : Lv} {st : List Value} {M : Mm} (C : CX G I) {a n : Nat} {f : Nat → Int64} {x : Int64} (hM : M.2.2 a = .inl (2, n, .inr (.inl f))) (h5 : 5 ≤ a) (hin : 0 < n) (hd : decode I.1 pc = .ok (.lastore, 1)) (kk : PT G (pc + 1) L st (setC M a (.inl (2, n, .inr (.inl (vp_updL f 0 x)))))) : PT G pc L (.long x :: .int 0 :: .ref a :: st) M := by
  intro ls H locs hl hR hS
  have hlt := hR.ltA hM
  have hat := hR.at hM rfl h5 hlt
  have hin2 : vp_in 0 n := by
    rw [vp_in_iff, Int32.toInt_zero]
    omega
  refine W.last C.1 C.2.1 hat ((hR.K.2 2 _ (TYS_at (gX G) (t := 2) (by decide))).1 n (fun j => .long (f j))) (fun q => by cases q) (by show ¬ (0 < 0 ∨ (arrV _ _ _).slots.size ≤ _); rw [arrV_size]; exact hin2) rfl rfl hd fun H1 e z oq => ?_
  refine kk ls H1 _ hl (hR.set h5 hlt z (Or.inr ?_) oq) (hS.put5 h5 z oq)
  show H1[adr (gX G) a]? = some (vp_cell _ (upA (gX G) _))
  rw [e]
  show some ((vp_cell _ (upA (gX G) _)).setSlot _ _) = some (vp_cell _ (upA (gX G) _))
  rw [ve_l, ve_l, arrV_store]
  congr 2
  funext q
  by_cases hq : q = 0
  · subst hq
    rfl
  · show (if q = (0 : Int32).toNatClampNeg then _ else _) = _
    rw [if_neg (by exact hq)]
    simp [vp_updL, hq]
abbrev I_L_fallen : MI := (cL_fallen, RL, 5, 7, 150, "fallen", some .int)
theorem LOC.storeU {X : GF} {ls' : Array Slot} {nL i : Nat} {L : Lv} {w : Value}
    (h' : lv_has ls' nL ((i, w) :: (lvl X L).filter (fun q => !(q.1 == i) && !(q.1 + 1 == i && q.2.category == 2)))) : LOC X ls' nL ((kil i L).set i none) := by
  refine ⟨h'.1, h'.2.1, fun j u hj => ?_⟩
  by_cases e : j = i
  · subst e
    by_cases hlt : j < (kil j L).length
    · rw [List.getElem?_set_self hlt] at hj
      cases hj
    · rw [List.getElem?_eq_none (by rw [List.length_set]; omega)] at hj
      cases hj
  · rw [List.getElem?_set_ne (fun q => e q.symm)] at hj
    obtain ⟨h1, h2⟩ := kil_get hj
    refine h'.2.2 (j, up X u) (List.mem_cons_of_mem _ (List.mem_filter.mpr ⟨mem_lvl h1, ?_⟩))
    rw [up_cat]
    have e1 : (j == i) = false := by simpa using e
    rw [e1]
    cases hq : (j + 1 == i && u.category == 2) with
    | false => rfl
    | true =>
      simp only [Bool.and_eq_true, beq_iff_eq] at hq
      exact absurd hq h2
theorem lawFallen_le {as : List Value} {M : Mm} {v : Option Value} {M' : Mm} (h : F_L_fallen as M = some (v, M')) : LE M M' := by
  unfold F_L_fallen at h
  split at h
  · obtain ⟨w, h1, h⟩ := Option.bind_eq_some_iff.mp h
    obtain ⟨fell, h2, h⟩ := Option.bind_eq_some_iff.mp h
    split at h
    · cases h
      exact new_le
    · obtain ⟨⟨q1, M1⟩, h3, h⟩ := Option.bind_eq_some_iff.mp h
      obtain ⟨v1, h4, h⟩ := Option.bind_eq_some_iff.mp h
      obtain ⟨z, h5, h⟩ := Option.bind_eq_some_iff.mp h
      obtain ⟨M2, h6, h⟩ := Option.map_eq_some_iff.mp h
      cases h
      obtain ⟨n, f, g1, g2, g3, g4, g5⟩ := wrJ_spec h6
      rw [g5]
      exact (S_X11_fallen.1 _ _ _ _ h3).tr set_le
  · cases h
theorem lawFallen_met {l : Launch} (hfl : l.flags = flags0) (X : GF) {as : List Value} {M : Mm} {v : Option Value} {M' : Mm} (h : F_L_fallen as M = some (v, M')) :
    Met l yL_fallen (.codeWith yL_fallen cL_fallen 5 (some .int) hhF :: TG) ({ frames := 7, cells := M'.1 - M.1, slots := M'.2.1 - M.2.1, locals := 150 }) (Pcv X as M) (Qcv X v M') (M'.1 - M.1) (M'.2.1 - M.2.1) (AA X) := by
  have hle := lawFallen_le h
  unfold F_L_fallen at h
  split at h
  · rename_i x p0 p1 o
    obtain ⟨w, h1, h⟩ := Option.bind_eq_some_iff.mp h
    obtain ⟨fell, h2, h⟩ := Option.bind_eq_some_iff.mp h
    rw [asI_i h2] at h1
    obtain ⟨fs, hM, hf⟩ := rdF_spec h1
    refine met_ofWH (cc := cL_fallen) (maxL := 5) (ret := some .int) (hh := hhF) (by decide +kernel) rfl ?_
    intro p e s m args below meth c s₁ B hml hv
    obtain ⟨rfl, hR, hB⟩ := hv
    have hts := atoms_spec (ws := .codeWith yL_fallen cL_fallen 5 (some .int) hhF :: TG) B.pre
    have htab := vx_table (x := yL_fallen) B (hts _ List.mem_cons_self)
    have hloc := entry_loc (X := X) (n := 5) (as := [.ref x, .int p0, .int p1, .ref o]) rfl (Nat.le_of_ble_eq_true rfl)
    rw [lg_entry_eq]
    let G : GT := (X, p, l, e, (headSpec (.codeWith yL_fallen cL_fallen 5 (some .int) hhF :: TG) ({ frames := 7, cells := M'.1 - M.1, slots := M'.2.1 - M.2.1, locals := 150 })).room, s, m, ([Value.ref x, .int p0, .int p1, .ref o].map (up X)).toArray, below, meth, c, M.1, M.2.1, MQ below (Qcv X v M') ([Value.ref x, .int p0, .int p1, .ref o].map (up X)).toArray s (M'.1 - M.1) (M'.2.1 - M.2.1) (AA X))
    have C : CX G I_L_fallen := ⟨B.exec, B.bytes, findClass_of_methodNamed B.named, hml, fun w hw => hts w (List.mem_cons_of_mem _ hw), rfl, rfl, fun hh => absurd hh (by decide), B.returns, B.notSynchronized, hB, hfl⟩
    have hroom : RM G M' := by
      constructor
      · show M'.1 ≤ M.1 + (M'.1 - M.1)
        have := hle.1
        omega
      · show M'.2.1 ≤ M.2.1 + (M'.2.1 - M.2.1)
        have := hle.2
        omega
    have hrt : RT G I_L_fallen v M' := sameRet (X := X) rfl C rfl
    have k1 : PT G 0 (mkL 5 [.ref x, .int p0, .int p1, .ref o]) [] M := by
      refine pt_aload_n (r := some o) C dL_fallen_0 rfl rfl ?_
      refine pt_iconst C dL_fallen_1 (v := 0) (by decide) ?_
      refine pt_aload_n (r := some x) C dL_fallen_2 rfl rfl ?_
      refine pt_iload_n C dL_fallen_3 rfl (x := p0) rfl ?_
      refine pt_iload_n C dL_fallen_4 rfl (x := p1) rfl ?_
      split at h
      · rename_i hth
        cases h
        intro ls H locs hl hR2 hS
        obtain ⟨h5, hlt⟩ := hR2.ltO hM fw_X11.1
        have hP := hR2.P hM (tel_o fw_X11.1) h5 hlt
        have hrun := vx_runV (locs := locs) (cells := M.1 - gn G) (slots := M.2.1 - gz G) (below := gb G) (H := H) (e := ge G) (R := gR G) (meth := gh G) (g := F0 (gm G) 5 ls ([Value.int p1, .int p0, .ref x, .int 0, .ref o].map (up X))) (rest := [Value.int 0, .ref o].map (up X)) (cfix C) (fallen_throws hfl X hM hf hth) (C := yX11_fallen.cls) (n := 2) (As := [.int p0, .int p1]) (b := adr X x)
          ⟨callB_of 2 C.2.2.2.2.1 (ws_good tf_c) rfl rfl rfl (C.2.2.2.2.1 _ tf_n) (C.2.2.2.2.1 _ tf_819) ⟨by decide, by decide, by decide +kernel⟩ ⟨by rw [C.2.2.2.2.2.1]; decide, by rw [C.2.2.2.2.2.2.1]; decide⟩, C.2.2.2.2.1 _ tf_i, C.2.2.2.2.1 _ tf_s⟩
          ⟨Pcv_blind _ _ _, va_recv hR2.K hP (ci := 10) (q0 := 0) fw_X11.1 rfl, fun U hU hW => preU C hR2 hS (as := [.ref x, .int p0, .int p1]) U hU hW⟩ rfl rfl (by rw [hl.1]; exact C.2.2.2.1) rfl (Nat.le_of_ble_eq_true rfl) dL_fallen_5 ⟨by show M.1 - M.1 + 1 ≤ M.1 + 1 - M.1; omega, by show M.2.1 - M.2.1 + 6 ≤ M.2.1 + 6 - M.2.1; omega⟩
        intro T hT X0
        rcases hrun T hT X0 with ⟨_, _, _, _, _, _, _, _, _, _, hQ, _⟩ | ⟨q, st₀, t, T', Lc, E, ce, e0, X', hL, e1, e2, hXC, hce, hcv, hcl, stp⟩
        · exact hQ.elim
        · obtain ⟨rfl, hRt, hF⟩ := hXC
          have hal : s.vm.Alike t.vm := by rw [← e2]; exact X'.warmed.alike
          have hR3 : Rp X s (newC M 6 opq) T'.heap := by rw [e1]; exact hRt.move hal.symm hR2.W
          have hS3 : va_S (AA X) s.heap T'.heap (locs ++ Lc) := by
            obtain ⟨f1, f2⟩ := hF
            rw [e0] at f1 f2
            refine ⟨Nat.le_trans hS.1 (by rw [e1]; exact f1), fun z g1 g2 => by rw [e1, f2 z (Nat.lt_of_lt_of_le g1 hS.1) g2]; exact hS.2.1 z g1 g2, fun z hz => ?_⟩
            rcases List.mem_append.mp hz with g | g
            · exact hS.2.2 z g
            · exact hL z g
          have k15 : PT G 15 ((kil 4 (mkL 5 [.ref x, .int p0, .int p1, .ref o])).set 4 none) [] (newC M 6 opq) := by
            refine pt_iconst C dL_fallen_15 (v := 1) (by decide) ?_
            exact hrt _ 16 dL_fallen_16 ⟨1, rfl⟩
          have k13 : W p l e (gR G) s m (ga G) below meth c T'.heap (locs ++ Lc) (M.1 - gn G + 1) (M.2.1 - gz G + 6) (gQ G) (F0 m 13 ls [.ref q]) := by
            refine lv_astore C.1 C.2.1 dL_fallen_13 hl.has (by rw [C.2.2.2.1]; decide) rfl (fun ls' h' => ?_)
            have k := k15 ls' T'.heap (locs ++ Lc) (LOC.storeU h') hR3 hS3
            exact W.cs (by show M.1 - M.1 + 1 = M.1 + 1 - M.1; omega) (by show M.2.1 - M.2.1 + 6 = M.2.1 + 6 - M.2.1; omega) k
          have kx := vx_catch (rest := [Value.int 0, .ref o].map (up X)) (pc := 5) (own := RL) (name := "java/lang/IndexOutOfBoundsException") (E := "java/lang/IndexOutOfBoundsException") C.2.2.1 [] ⟨0, 10, 13, 13⟩ [] htab (fun z hz => by cases hz) rfl (by decide) (C.2.2.2.2.1 _ tf_818) (va_Nw.use (A := ga G) rfl (hR2.W _ tf_825)) (by rw [e1]; exact hce) hcv hcl k13
          obtain ⟨t2, a1, b1⟩ := kx T' rfl X'
          exact ⟨t2, stp.trans a1, b1⟩
      · obtain ⟨⟨q1, M1⟩, h3, h⟩ := Option.bind_eq_some_iff.mp h
        obtain ⟨v1, h4, h⟩ := Option.bind_eq_some_iff.mp h
        obtain ⟨z, h5, h⟩ := Option.bind_eq_some_iff.mp h
        obtain ⟨M2, h6, h⟩ := Option.map_eq_some_iff.mp h
        cases h
        have h4 : q1 = some v1 := h4
        subst h4
        rw [asI_i h5] at h3
        obtain ⟨n, f, g1, g2, g3, g4, rfl⟩ := wrJ_spec h6
        refine pt_callV (as := [.int p0, .int p1]) (st := [.int 0, .ref o]) C (S_X11_fallen.2 l hfl) h3 hM fw_X11.1 tf_819 tf_i tf_s tf_n tf_c ⟨by decide, by decide, tf_d⟩ (by decide) (by decide) (Nat.le_of_ble_eq_true rfl) ⟨Nat.le_refl _, Nat.le_refl _⟩ (hroom.dn set_le) dL_fallen_5 ?_
        refine pt_i2l C dL_fallen_8 ?_
        refine pt_last0 C g1 g4 g2 dL_fallen_9 ?_
        refine pt_goto (tgt := 17) C dL_fallen_10 (by decide) ?_
        refine pt_iconst C dL_fallen_17 (v := 0) (by decide) ?_
        exact hrt _ 18 dL_fallen_18 ⟨0, rfl⟩
    have k2 := k1 _ s.heap [] (by rw [C.2.2.2.1]; exact hloc) hR va_S.rf
    exact W.cs (cells' := M.1 - M.1) (slots' := M.2.1 - M.2.1) (by omega) (by omega) k2
  · cases h
theorem iv_lawfallen {I : MI} {d pc p1 : Nat} {r : DR} (hI : I.2.1 = RL) (hR : 8 ≤ I.2.2.2.1 ∧ 8 + (5 + 11) + 150 ≤ I.2.2.2.2.1 ∧ d ≤ 8) (hrr : IR I d pc p1 4 r) (hd : decode I.1 p1 = .ok (.invokestatic 139, 3)) : IV I d pc (p1 + 3) (ivS F_L_fallen r) := by
  intro L M w M' h
  obtain ⟨⟨vs, M1⟩, h1, h⟩ := Option.bind_eq_some_iff.mp h
  obtain ⟨l1, n1, k1⟩ := hrr L M vs M1 h1
  have l2 : LE M1 M' := lawFallen_le h
  refine ⟨l1.tr l2, fun G st C hs hw1 hr k => k1 G st C hs hw1 (hr.dn l2) ?_⟩
  intro ls H locs hl hR2 hS
  have hm := lawFallen_met (l := gl G) C.2.2.2.2.2.2.2.2.2.2.2 (gX G) h
  have hlow := hw1.up l1
  have e0 : (vs.reverse ++ st).map (up (gX G)) = (vs.map (up (gX G))).reverse ++ st.map (up (gX G)) := by simp
  rw [e0]
  have hG : GoodIn TG (va_wsS I.2.1 139 yL_fallen (.codeWith yL_fallen cL_fallen 5 (some .int) hhF :: TG)) := by
    rw [hI]
    intro w hw
    rcases List.mem_append.mp hw with hw | hw
    · rcases List.mem_cons.mp hw with rfl | hw
      · exact TG_good _ tf_815
      · rcases List.mem_cons.mp hw with rfl | hw
        · exact TG_good _ tf_816
        · rcases List.mem_cons.mp hw with rfl | hw
          · exact TG_good _ tf_48
          · cases hw
    · rcases List.mem_cons.mp hw with rfl | hw
      · exact TG_good _ tf_817
      · exact TG_good _ hw
  have q1 := l2.1
  have q2 := l2.2
  have q3 := hlow.1
  have q4 := hlow.2
  have q5 := hr.1
  have q6 := hr.2
  exact run_fin l2 hlow hl hR2 hS (fun q hq => hq) (vx_runSW (cfix C) hm (vx_cwSW 4 C.2.2.2.2.1 hG rfl rfl rfl ⟨by decide, by decide, by decide +kernel⟩ ⟨by rw [C.2.2.2.2.2.1]; exact hR.1, by rw [C.2.2.2.2.2.2.1]; exact hR.2.1⟩)
    ⟨Pcv_blind _ _ _, fun U hU hW => preU C hR2 hS (as := vs) U hU hW⟩ rfl (by rw [List.length_map, n1]) (by rw [hl.1]; exact C.2.2.2.1) rfl (lv_room (by rw [csum_up]; exact Nat.le_trans hs hR.2.2)) hd ⟨by omega, by omega⟩) k
