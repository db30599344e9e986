def axL : List Int32 := [0, 1, 2, 0, 2, 1, 1, 0, 2, 1, 2, 0, 2, 0, 1, 2, 1, 0]
def sgL : List Int32 := [1, -1, -1, 1, 1, -1]
theorem eqt {args : Array Value} {s : State} {tm : Term} {z : Int32} (h : (Cond.eq tm (.int z)).before args s = true) : tm.eval args s none [] s = some (.int z) := by
  cases hv : tm.eval args s none [] s with
  | none => simp [Cond.before, Cond.holds, Cond.value, hv] at h
  | some w =>
    have hz : (Term.int z).eval args s none [] s = some (.int z) := rfl
    simp only [Cond.before, Cond.holds, Cond.value, hv, hz] at h
    cases w <;> simp_all
theorem statT {args : Array Value} {s : State} {A : Nat → Prop} {C n : String} {N : Nat} {vs : List Int32} (hN : N < 2 ^ 31) (hf : ∀ c ∈ flatC (Jvm.Cond.and given_1 narrow_1), c.before args s = true) (hA : ∀ a : Nat, a < s.heap.size → ¬ A a)
    (h1 : Cond.arrayOf (.static C n "[I") .int ∈ flatC (Jvm.Cond.and given_1 narrow_1)) (h2 : Cond.eq (.length (.static C n "[I")) (.int (Int32.ofNat N)) ∈ flatC (Jvm.Cond.and given_1 narrow_1)) (h3 : ∀ j : Nat, j < N → Cond.eq (.elem (.static C n "[I") (.int (Int32.ofNat j))) (.int (vs.getD j 0)) ∈ flatC (Jvm.Cond.and given_1 narrow_1))
    (hl : (Cond.laysStatic C n "[I").before args s = true) (hini : (Cond.initialized C).before args s = true) : ∃ t : Nat, va_T .int t N (fun j => .int (vs.getD j 0)) A s s.heap ∧ va_Z C n "[I" (.ref t) A s s.heap := by
  obtain ⟨t, ht, hT⟩ := va_Tof (f := fun j => .int (vs.getD j 0)) (A := A) hN (hf _ h1) (eqt (hf _ h2)) (fun j hj => eqt (hf _ (h3 j hj))) hA
  exact ⟨t, hT, va_Zref hl hini ht hA⟩
/-- the start of the small machine: the script, the static arrays -/
def iM (L : Nat) (xs : Nat → Int32) : Mm := (5, 0, fun i => match i with
  | 0 => .inl (0, L, .inl xs)
  | 1 => .inl (0, 18, .inl (fun j => axL.getD j 0))
  | 2 => .inl (0, 6, .inl (fun j => sgL.getD j 0))
  | 3 => .inl (0, 18, .inl (fun j => axL.getD j 0))
  | 4 => .inl (0, 6, .inl (fun j => sgL.getD j 0))
  | _ => junk)
/-- what is left: over the small machine the law answers 1, in the room -/
def LawGoal : Prop := ∀ (L : Nat) (xs : Nat → Int32), L ≤ 3072 → ∃ L' M', B_L_law (mkL 7 [.ref 0]) (iM L xs) = some (L', M', 3, some (.int 1)) ∧ M'.1 ≤ 5 + 601024 ∧ M'.2.1 ≤ 7293033
/-! THE CLAIM OUT OF ONE WALK OF THE LAW'S BODY. Your part is whole_start (and what it stands on); all else here is the same for every law, but numbers. -/
def R_law : String := "StackYardLaw"
def lw_P (b : Addr) (xs : List Int32) (args : Array Value) (s : State) : Prop := args = #[.ref b] ∧ s.IntsAt b xs ∧ xs.length ≤ 3072 ∧ (Jvm.Cond.and given_1 narrow_1).before args s = true
def lw_Q (_ : Array Value) (s : State) (o : Outcome) (t : State) : Prop := o = .returned (some (.int 1)) ∧ Framed s o t [] 601024 7293033
def lw_Z (below : List Frame) (a : Array Value) (s : State) : State → Prop := fun t => ∃ o, t.status = .running ∧ Ended t below o ∧ lw_Q a s o t
/-- the law's own end, with 1 on the stack, nothing written that was there before, its room as the claim has it -/
theorem lw_ret {p : Program} {l : Launch} {e : Env} {s : State} {m : MethodId} {below : List Frame} {meth : Method} {c : Code} {b : Nat} (hx : p.tables.exec = Jvm.exec) (hb : c.code = code) (hr : meth.sig.returnType = ret) (hlocks : meth.locks = false) {pc : Nat} {H : Heap} {ls : Array Slot} (hdg : decode code pc = .ok (.ireturn, 1)) : W p l e room_1 s m #[Value.ref b] below meth c H [] 601024 7293033 (lw_Z below #[Value.ref b] s) (F0 m pc ls [.int 1]) := by
  intro T hT X
  obtain ⟨fs, hret, hrun, hended, hW, hframe⟩ := X.leave (v := some (.int 1)) (hlocks := hlocks) (fun h => by rw [hr] at h; cases h)
  have hmeth' : T.vm.method? m = some meth := X.method'
  refine ⟨T.setFrames fs, ?_, .returned (some (.int 1)), hrun, hended, rfl, ⟨_, rfl⟩, hW, hframe⟩
  jvm_step X.here [X.here.top, hx, hb, hdg, hmeth', hr, ret, narrow_b1]
  (try refine ⟨rfl, ?_⟩); (try refine ⟨rfl, ?_⟩)
  first | (intro acts; rw [hret _ acts rfl rfl rfl]) | rw [hret _ _ rfl rfl rfl]
  exact Steps.refl _
/-- what holds at the law's entry: the machine, the code, the tables' words (any of lw_tbl by 'hts w (by decide +kernel)'), the script of L ints xs at the cell b, what the Statement gives of the start (any of its parts by flat_of_before) -/
def lw_At (p : Program) (s : State) (m : MethodId) (meth : Method) (c : Code) (b L : Nat) (xs : Nat → Int32) : Prop :=
  p.tables.exec = Jvm.exec ∧ c.code = code ∧ meth.sig.returnType = ret ∧ c.maxLocals = 7 ∧ s.vm.findClass R_law = some m.cls ∧ (∀ w ∈ lw_tbl, w.before #[Value.ref b] s = true) ∧ va_X b L xs s s.heap ∧ b < s.heap.size ∧ meth.locks = false ∧ (Jvm.Cond.and given_1 narrow_1).before #[Value.ref b] s = true
theorem vwCl_in : ∀ r ∈ vwCl, (∀ w ∈ u_ws r.1 r.2.1 r.2.2, w ∈ lw_tbl) ∧ Cond.instantiable r.1 r.2.2 ∈ lw_tbl := by
  intro r hr
  simp only [vwCl, List.mem_cons, List.not_mem_nil, or_false] at hr
  rcases hr with rfl | rfl | rfl | rfl | rfl | rfl | rfl | rfl | rfl | rfl | rfl | rfl <;> exact ⟨by decide +kernel, by decide +kernel⟩
set_option maxRecDepth 100000 in
theorem start_rp {p : Program} {s : State} {m : MethodId} {meth : Method} {c : Code} {b L : Nat} {xs : Nat → Int32} (hL : L ≤ 3072) (C0 : lw_At p s m meth c b L xs) : ∃ X : GF, Rp X s (iM L xs) s.heap ∧ adr X 0 = b := by
  obtain ⟨hx, hb, hr, hml, hown, hts, hX, hbl, hlocks, hgv⟩ := C0
  have hf := flat_of_before _ hgv
  have hA : ∀ a : Nat, a < s.heap.size → ¬ (fun q : Nat => s.heap.size ≤ q) a := fun a ha => Nat.not_le.mpr ha
  have ini : ∀ C : String, Cond.initialized C ∈ lw_tbl → (Cond.initialized C).before #[Value.ref b] s = true := fun C h => hts _ h
  obtain ⟨t1, hT1, hZ1⟩ := statT (C := "StackYard$Turns") (n := "AXES") (N := 18) (vs := axL) (by decide) hf hA (by decide +kernel) (by decide +kernel) (by decide +kernel) (hts _ (by decide +kernel)) (hts _ (by decide +kernel))
  obtain ⟨t2, hT2, hZ2⟩ := statT (C := "StackYard$Turns") (n := "SIGNS") (N := 6) (vs := sgL) (by decide) hf hA (by decide +kernel) (by decide +kernel) (by decide +kernel) (hts _ (by decide +kernel)) (hts _ (by decide +kernel))
  obtain ⟨t3, hT3, hZ3⟩ := statT (C := "StackYardModel") (n := "PERMUTED") (N := 18) (vs := axL) (by decide) hf hA (by decide +kernel) (by decide +kernel) (by decide +kernel) (hts _ (by decide +kernel)) (hts _ (by decide +kernel))
  obtain ⟨t4, hT4, hZ4⟩ := statT (C := "StackYardModel") (n := "EVEN") (N := 6) (vs := sgL) (by decide) hf hA (by decide +kernel) (by decide +kernel) (by decide +kernel) (hts _ (by decide +kernel)) (hts _ (by decide +kernel))
  have hU := vx_Zqof (C := Bundle.tN) (n := "UNASSIGNED_STACK") (d := Bundle.steD) (args := #[Value.ref b]) (hts _ (by decide +kernel)) (hts _ (by decide +kernel)) (hf _ (by decide +kernel)) hA
  have hN := vx_Zqof (C := Bundle.tN) (n := "SUPPRESSED_SENTINEL") (d := Bundle.listD) (args := #[Value.ref b]) (hts _ (by decide +kernel)) (hts _ (by decide +kernel)) (hf _ (by decide +kernel)) hA
  -- classes
  have hcl : ∀ k : Nat, ∃ r : ClassId × (Nat → Nat), ∀ q : vw_C, vwCl[k]? = some q → u_Kn s q.1 q.2.1 q.2.2 r.1 r.2 := by
    intro k
    cases hk : vwCl[k]? with
    | none => exact ⟨(0, fun _ => 0), fun q h => by cases h⟩
    | some q =>
      obtain ⟨h1, h2⟩ := vwCl_in q (List.mem_of_getElem? hk)
      obtain ⟨cC, iS, h⟩ := u_known (n := q.2.2) hts h1 (hts _ h2)
      exact ⟨(cC, iS), fun q' hq => by cases hq; exact h⟩
  obtain ⟨f9, hf9⟩ := Classical.axiomOfChoice hcl
  obtain ⟨D, hD⟩ : ∃ D : va_G, ∀ (k : Nat) (q : vw_C), vwCl[k]? = some q → u_Kn s q.1 q.2.1 q.2.2 (D.1 k) (D.2 k) := ⟨(fun k => (f9 k).1, fun k => (f9 k).2), fun k q hq => hf9 k q hq⟩
  -- array classes
  have arr : ∀ ty : FieldType, Cond.arrayClass ty ∈ lw_tbl → (∀ C, ty ≠ .object C) → ∃ c0 : ClassId, ArrOfT s c0 ty ∧ va_RA s c0 ty := by
    intro ty hw hno
    obtain ⟨c0, k, comp, h1, h2, h3⟩ := Cond.arrayClass_spec (hts _ hw)
    refine ⟨c0, fun n z => ⟨(fun q h => by cases h), k, h2, comp, h3⟩, ?_⟩
    cases ty <;> first | exact h1 | exact absurd rfl (hno _)
  have arro : ∀ Cn : String, Cond.arrayOver (.object Cn) ∈ lw_tbl → ∃ c0 : ClassId, ArrOfT s c0 (.object Cn) ∧ va_RA s c0 (.object Cn) := by
    intro Cn hw
    obtain ⟨comp, c0, k, h1, h2, h3, h4, h5⟩ := Cond.arrayOver_spec (hts _ hw)
    exact ⟨c0, fun n z => ⟨(fun q h => by cases h), k, h3, comp, h4⟩, k, comp, h3, h4, h1, h5⟩
  obtain ⟨c0, hc0⟩ := arr .int (by decide +kernel) (fun C h => by cases h)
  obtain ⟨c1, hc1⟩ := arr .boolean (by decide +kernel) (fun C h => by cases h)
  obtain ⟨c2, hc2⟩ := arr .long (by decide +kernel) (fun C h => by cases h)
  obtain ⟨c3, hc3⟩ := arro "StackYard$Yard" (by decide +kernel)
  obtain ⟨c4, hc4⟩ := arro "StackYard$Layer" (by decide +kernel)
  obtain ⟨c5, hc5⟩ := arro "StackYard$Row" (by decide +kernel)
  let X : GF := (D, fun t => match t with | 0 => c0 | 1 => c1 | 2 => c2 | 3 => c3 | 4 => c4 | _ => c5, fun i => match i with | 0 => b | 1 => t1 | 2 => t2 | 3 => t3 | _ => t4, s.heap.size)
  have hT0 : va_T .int b L (fun j => .int (xs j)) (AA X) s s.heap := by
    obtain ⟨scr, g1, g2, g3, g4, g5⟩ := hX
    exact ⟨scr, g1, g2, g3, Nat.le_of_eq g4.symm, by rw [g4], g5, hA b hbl⟩
  have hNW : ∀ w ∈ NWL, va_Nw w s := by
    intro w hw
    have h := hts w (List.mem_filter.mp hw).1
    rcases NWL_cases hw with ⟨a, i, x, b', rfl⟩ | ⟨C, T, rfl⟩ | ⟨C, rfl⟩ | ⟨x, rfl⟩
    · exact va_Nw.of rfl h
    · exact va_Nw.of rfl h
    · exact va_AO.of h
    · exact va_Nw.of rfl h
  have hR : Rp X s (iM L xs) s.heap := by
    refine ⟨⟨Nat.le_refl 5, rfl⟩, fun i h5 hl => absurd hl (Nat.not_lt.mpr h5), fun i hi => ?_, ⟨hD, fun k q hq => ?_⟩, fun i hi => ?_, fun q hq => ?_, ⟨hU, hN⟩, hNW⟩
    · have hi : 5 ≤ i := hi
      obtain ⟨n, rfl⟩ : ∃ n, i = n + 5 := ⟨i - 5, by omega⟩
      rfl
    · match k, hq with
      | 0, hq => cases hq; exact hc0
      | 1, hq => cases hq; exact hc1
      | 2, hq => cases hq; exact hc2
      | 3, hq => cases hq; exact hc3
      | 4, hq => cases hq; exact hc4
      | 5, hq => cases hq; exact hc5
      | k + 6, hq => simp [TYS] at hq
    · rcases (show i = 0 ∨ i = 1 ∨ i = 2 ∨ i = 3 ∨ i = 4 by omega) with rfl | rfl | rfl | rfl | rfl
      · exact ⟨L, xs, rfl, Nat.lt_of_le_of_lt hL (by decide), hT0⟩
      · exact ⟨18, _, rfl, by decide, hT1⟩
      · exact ⟨6, _, rfl, by decide, hT2⟩
      · exact ⟨18, _, rfl, by decide, hT3⟩
      · exact ⟨6, _, rfl, by decide, hT4⟩
    · simp only [STN, List.mem_cons, List.not_mem_nil, or_false] at hq
      rcases hq with rfl | rfl | rfl | rfl
      · exact hZ1
      · exact hZ2
      · exact hZ3
      · exact hZ4
  exact ⟨X, hR, rfl⟩
abbrev lwG (X : GF) (p : Program) (l : Launch) (e : Env) (s : State) (m : MethodId) (below : List Frame) (meth : Method) (c : Code) : GT := (X, p, l, e, room_1, s, m, #[Value.ref (adr X 0)], below, meth, c, 5, 0, lw_Z below #[Value.ref (adr X 0)] s)
theorem TG_tbl {w : Cond} (h : w ∈ TG) : w ∈ lw_tbl := (List.mem_filter.mp h).1
theorem lw_code {c : Code} (hb : c.code = code) : c.code = I_L_law.1 := hb
theorem start_C {X : GF} {p : Program} {l : Launch} {e : Env} {s : State} {m : MethodId} {below : List Frame} {meth : Method} {c : Code} (hflags : l.flags = flags0) {L : Nat} {xs : Nat → Int32} (hR : Rp X s (iM L xs) s.heap) (C0 : lw_At p s m meth c (adr X 0) L xs) : CX (lwG X p l e s m below meth c) I_L_law := by
  obtain ⟨hx, hb, hr, hml, hown, hts, hX, hbl, hlocks, hgv⟩ := C0
  exact ⟨hx, lw_code hb, hown, hml, fun w hw => hts w (TG_tbl hw), rfl, rfl, fun hh => absurd hh (by decide), hr, hlocks, Nat.le_trans (Nat.le_add_right _ _) (Nat.le_of_eq hR.1.2.symm), hflags⟩
theorem start_R {G : GT} {M' : Mm} (h1 : M'.1 ≤ gn G + (gR G).cells) (h2 : M'.2.1 ≤ gz G + (gR G).slots) : RM G M' := ⟨h1, h2⟩
theorem start_RT {X : GF} {p : Program} {l : Launch} {e : Env} {s : State} {m : MethodId} {below : List Frame} {meth : Method} {c : Code} {L : Nat} {xs : Nat → Int32} {M' : Mm} (hR : Rp X s (iM L xs) s.heap) (C0 : lw_At p s m meth c (adr X 0) L xs) (hr1 : M'.1 ≤ 5 + 601024) (hr2 : M'.2.1 ≤ 7293033) : RT (lwG X p l e s m below meth c) I_L_law (some (.int 1)) M' := by
  obtain ⟨hx, hb, hr, hml, hown, hts, hX, hbl, hlocks, hgv⟩ := C0
  intro L2 pc hd hok ls H locs hl hR2 hS
  have h0 : X.2.2.2 = s.heap.size := by have h9 := hR.1.2; exact h9.symm
  have hS2 : ∀ z ∈ locs, s.heap.size ≤ z.base := fun q hq => by
    have h9 := hS.2.2 q hq
    rw [← h0]
    exact h9
  refine va_forget hS2 ?_
  refine W.widen (k := 601024) (n := 7293033) (by show M'.1 - 5 ≤ 601024; omega) (by show M'.2.1 - 0 ≤ 7293033; omega) ?_
  exact lw_ret hx hb hr hlocks hd
theorem whole_start_open (hG : LawGoal) {p : Program} {e : Env} {s : State} {m : MethodId} {below : List Frame} {meth : Method} {c : Code} (l : Launch) (hflags : l.flags = flags0) {b L : Nat} {xs : Nat → Int32} (hL : L ≤ 3072) (C0 : lw_At p s m meth c b L xs) : W p l e room_1 s m #[Value.ref b] below meth c s.heap [] 0 0 (lw_Z below #[Value.ref b] s) (entryFrame m ([Value.ref b] : List Value).toArray 7) := by
  obtain ⟨X, hR, hb0⟩ := start_rp hL C0
  subst hb0
  have C := start_C (l := l) (e := e) (below := below) hflags hR C0
  obtain ⟨L', M', hev, hr1, hr2⟩ := hG L xs hL
  obtain ⟨hle, k⟩ := IS_law _ _ _ _ _ _ hev
  have hroom : RM (lwG X p l e s m below meth c) M' := start_R hr1 (Nat.le_trans hr2 (Nat.le_add_left _ _))
  have k1 : PT (lwG X p l e s m below meth c) 0 (mkL 7 [.ref 0]) [] (iM L xs) := k _ C ⟨Nat.le_refl _, Nat.le_refl _⟩ hroom (fun z => by cases z) (fun z => by cases z) (fun z => by cases z) (fun _ => start_RT hR C0 hr1 hr2)
  have hloc := entry_loc (X := X) (n := 7) (as := [.ref 0]) rfl (Nat.le_of_ble_eq_true rfl)
  rw [lg_entry_eq]
  have hml := C0.2.2.2.1
  exact k1 _ s.heap [] (by rw [show (gc (lwG X p l e s m below meth c)).maxLocals = 7 from hml]; exact hloc) hR va_S.rf
