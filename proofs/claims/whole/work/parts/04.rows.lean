/-! ROWS of the small machine: an instruction each, out of the kit's rows. -/
def setC (M : Mm) (a : Nat) (c : MC) : Mm := (M.1, M.2.1, fun b => if b = a then c else M.2.2 b)
def newC (M : Mm) (k : Nat) (c : MC) : Mm := (M.1 + 1, M.2.1 + k, fun b => if b = M.1 then c else M.2.2 b)
theorem va_P1 {D : va_G} {cl : List vw_C} {q : Nat × va_E} {H : Heap} (h : va_at D cl q H) : va_P D cl [q] H := by
  intro k x hx
  have hz : k < 1 := (List.getElem?_eq_some_iff.mp hx).1
  rw [show k = 0 by omega] at hx
  cases hx
  exact h
theorem adr_hi (X : GF) {a : Nat} (h : 5 ≤ a) : adr X a = X.2.2.2 + (a - 5) := by unfold adr; rw [if_neg (by omega)]
theorem Rp.ltA {X : GF} {U : State} {M : Mm} {H : Heap} (h : Rp X U M H) {a : Nat} {t : Nat} {x : vp_A} (hM : M.2.2 a = .inl (t, x)) : a < M.1 := by
  rcases Nat.lt_or_ge a M.1 with q | q
  · exact q
  · rw [h.2.2.1 a q] at hM
    cases hM
theorem Rp.ltO {X : GF} {U : State} {M : Mm} {H : Heap} (h : Rp X U M H) {a ci : Nat} {fs : List Value} (hM : M.2.2 a = .inr (ci, fs)) {r : vw_C} (hc : vwCl[ci]? = some r) : 5 ≤ a ∧ a < M.1 := by
  constructor
  · rcases Nat.lt_or_ge a 5 with q | q
    · obtain ⟨n, f, h1, -⟩ := h.2.2.2.2.1 a q
      rw [h1] at hM
      cases hM
    · exact q
  · rcases Nat.lt_or_ge a M.1 with q | q
    · exact q
    · rw [h.2.2.1 a q] at hM
      cases hM
      cases hc
/-- a cell that tells something -/
def tel : MC → Bool
  | .inl _ => true
  | .inr (c, _) => c != 98
theorem tel_o {ci : Nat} {fs : List Value} {r : vw_C} (hc : vwCl[ci]? = some r) : tel (.inr (ci, fs)) = true := by
  by_cases e : ci = 98
  · subst e
    cases hc
  · show (ci != 98) = true
    simpa using e
theorem Rp.at {X : GF} {U : State} {M : Mm} {H : Heap} (h : Rp X U M H) {a : Nat} {c : MC} (hM : M.2.2 a = c) (ht : tel c = true) (h5 : 5 ≤ a) (hl : a < M.1) : va_at X.1 vwCl (adr X a, upC X c) H := by
  rw [← hM]
  rcases h.2.1 a h5 hl with q | q
  · rw [← hM, q] at ht
    cases ht
  · exact q
theorem Rp.P {X : GF} {U : State} {M : Mm} {H : Heap} (h : Rp X U M H) {a : Nat} {c : MC} (hM : M.2.2 a = c) (ht : tel c = true) (h5 : 5 ≤ a) (hl : a < M.1) : va_P X.1 vwCl [(adr X a, upC X c)] H := va_P1 (h.at hM ht h5 hl)
theorem Rp.K {X : GF} {U : State} {M : Mm} {H : Heap} (h : Rp X U M H) : va_K X.1 vwCl (TYS X) U := h.2.2.2.1
theorem TYS_at (X : GF) {t : Nat} (h : t ≤ 5) : (TYS X)[t]? = some (X.2.1 t, atT t) := by
  rcases (show t = 0 ∨ t = 1 ∨ t = 2 ∨ t = 3 ∨ t = 4 ∨ t = 5 by omega) with rfl | rfl | rfl | rfl | rfl | rfl <;> rfl
theorem ST.kept {X : GF} {U : State} {M M' : Mm} {H H1 : Heap} (h : ST X U M H) (hq : ∀ a : Nat, a < H.size → ¬ AA X a → H1[a]? = H[a]?) (hm : ∀ i : Nat, i < 5 → M'.2.2 i = M.2.2 i) : ST X U M' H1 := by
  obtain ⟨h1, h2, ⟨h3, h4⟩, h5⟩ := h
  refine ⟨fun i hi => ?_, fun q hqm => (h2 q hqm).kept hq, ⟨h3.kept hq, h4.kept hq⟩, h5⟩
  obtain ⟨n, f, a1, a2, a3⟩ := h1 i hi
  exact ⟨n, f, by rw [hm i hi]; exact a1, a2, a3.kept hq⟩
theorem Rp.set {X : GF} {U : State} {M : Mm} {H H1 : Heap} (h : Rp X U M H) {a : Nat} {c : MC} (h5 : 5 ≤ a) (hl : a < M.1) (z : H1.size = H.size) (hn : c = opq ∨ va_at X.1 vwCl (adr X a, upC X c) H1) (oq : ∀ q : Nat, q ≠ adr X a → H1[q]? = H[q]?) : Rp X U (setC M a c) H1 := by
  obtain ⟨⟨h1, h2⟩, h3, h4, hK, hST⟩ := h
  refine ⟨⟨h1, by rw [z]; exact h2⟩, fun i hi hil => ?_, fun i hi => ?_, hK, ?_⟩
  · show (if i = a then c else M.2.2 i) = opq ∨ va_at X.1 vwCl (adr X i, upC X (if i = a then c else M.2.2 i)) H1
    by_cases e : i = a
    · rw [if_pos e, e]
      exact hn
    · rw [if_neg e]
      refine (h3 i hi hil).imp id fun h3 => h3.kept (oq _ fun q => e ?_)
      rw [adr_hi X hi, adr_hi X h5] at q
      omega
  · show (if i = a then c else M.2.2 i) = junk
    rw [if_neg (by have : M.1 ≤ i := hi; omega)]
    exact h4 i hi
  · refine hST.kept (fun q hq hA => oq q fun e => hA ?_) (fun i hi => ?_)
    · show X.2.2.2 ≤ q
      rw [e, adr_hi X h5]
      omega
    · show (if i = a then c else M.2.2 i) = M.2.2 i
      rw [if_neg (by omega)]
theorem va_S.put5 {X : GF} {H0 H H1 : Heap} {locs : List Loc} {a k : Nat} (h : va_S (AA X) H0 H locs) (h5 : 5 ≤ a) (z : H1.size = H.size) (oq : ∀ q : Nat, q ≠ adr X a → H1[q]? = H[q]?) : va_S (AA X) H0 H1 (locs ++ [⟨adr X a, k⟩]) :=
  h.put z oq (by show X.2.2.2 ≤ _; rw [adr_hi X h5]; omega)
theorem Rp.new {X : GF} {U : State} {M : Mm} {H H1 : Heap} (h : Rp X U M H) {c : MC} (k : Nat) (z : H1.size = H.size + 1) (hn : c = opq ∨ va_at X.1 vwCl (H.size, upC X c) H1) (oq : ∀ q : Nat, q < H.size → H1[q]? = H[q]?) : Rp X U (newC M k c) H1 := by
  obtain ⟨⟨h1, h2⟩, h3, h4, hK, hST⟩ := h
  refine ⟨⟨by show 5 ≤ M.1 + 1; omega, by show H1.size = X.2.2.2 + (M.1 + 1 - 5); omega⟩, fun i hi hil => ?_, fun i hi => ?_, hK, ?_⟩
  · show (if i = M.1 then c else M.2.2 i) = opq ∨ va_at X.1 vwCl (adr X i, upC X (if i = M.1 then c else M.2.2 i)) H1
    by_cases e : i = M.1
    · rw [if_pos e, e, adr_hi X h1, ← h2]
      exact hn
    · rw [if_neg e]
      have hil' : i < M.1 + 1 := hil
      exact (h3 i hi (by omega)).imp id fun hi' => hi'.kept (oq _ hi'.lt)
  · have hi' : M.1 + 1 ≤ i := hi
    show (if i = M.1 then c else M.2.2 i) = junk
    rw [if_neg (by omega)]
    exact h4 i (by omega)
  · refine hST.kept (fun q hq _ => oq q hq) (fun i hi => ?_)
    show (if i = M.1 then c else M.2.2 i) = M.2.2 i
    rw [if_neg (by omega)]
theorem va_S.new5 {X : GF} {H0 H H1 : Heap} {locs : List Loc} (h : va_S (AA X) H0 H locs) (z : H1.size = H.size + 1) (oq : ∀ q : Nat, q < H.size → H1[q]? = H[q]?) : va_S (AA X) H0 H1 locs :=
  ⟨Nat.le_trans h.1 (by omega), fun x h1 h2 => (oq x (Nat.lt_of_lt_of_le h1 h.1)).trans (h.2.1 x h1 h2), h.2.2⟩
theorem NWL_cases {w : Cond} (h : w ∈ NWL) : (∃ a i x b, w = .methodLinkNest a i x b) ∨ (∃ C T, w = .castable C T) ∨ (∃ C, w = .arrayOver (.object C)) ∨ ∃ x, w = .declares x := by
  have h1 := (List.mem_filter.mp h).2
  unfold isNW at h1
  split at h1
  · exact Or.inl ⟨_, _, _, _, rfl⟩
  · exact Or.inr (Or.inl ⟨_, _, rfl⟩)
  · exact Or.inr (Or.inr (Or.inl ⟨_, rfl⟩))
  · exact Or.inr (Or.inr (Or.inr ⟨_, rfl⟩))
  · cases h1
theorem NWL_warm {s U : State} (hW : s.WarmedH U.vm) (h : ∀ w ∈ NWL, va_Nw w s) : ∀ w ∈ NWL, va_Nw w U := by
  intro w hw
  have h1 := h w hw
  rcases NWL_cases hw with ⟨a, i, x, b, rfl⟩ | ⟨C, T, rfl⟩ | ⟨C, rfl⟩ | ⟨x, rfl⟩
  · exact va_Nw.warmM hW h1
  · exact va_Nw.warmC hW h1
  · exact va_AO.moved hW.alike h1
  · exact va_Nw.warmD hW h1
theorem NWL_same {s U : State} (hv : s.vm = U.vm) (h : ∀ w ∈ NWL, va_Nw w s) : ∀ w ∈ NWL, va_Nw w U := by
  intro w hw
  have h1 := h w hw
  rcases NWL_cases hw with ⟨a, i, x, b, rfl⟩ | ⟨C, T, rfl⟩ | ⟨C, rfl⟩ | ⟨x, rfl⟩
  · exact va_Nw.same rfl hv h1
  · exact va_Nw.same rfl hv h1
  · exact va_AO.moved (by rw [← hv]; exact Vm.Alike.refl _) h1
  · exact va_Nw.same rfl hv h1
theorem Rp.move {X : GF} {s U : State} {M : Mm} {H : Heap} (h : Rp X s M H) (hvm : s.vm.Alike U.vm) (hw : ∀ w ∈ NWL, va_Nw w U) : Rp X U M H := by
  obtain ⟨h1, h2, h3, hK, q1, q2, ⟨q3, q4⟩, -⟩ := h
  refine ⟨h1, h2, h3, va_K.moved hvm hK, fun i hi => ?_, fun q hq => (q2 q hq).moved hvm, ⟨q3.moved hvm, q4.moved hvm⟩, hw⟩
  obtain ⟨n, f, a1, a2, a3⟩ := q1 i hi
  exact ⟨n, f, a1, a2, a3.moved hvm⟩
theorem Rp.W {X : GF} {U : State} {M : Mm} {H : Heap} (h : Rp X U M H) : ∀ w ∈ NWL, va_Nw w U := h.2.2.2.2.2.2.2
theorem Rp.warm {X : GF} {s U : State} {M : Mm} {H : Heap} (h : Rp X s M H) (hW : s.WarmedH U.vm) : Rp X U M H := h.move hW.alike (NWL_warm hW h.W)
section PTrows
variable {G : GT} {I : MI} {pc : Nat} {L : Lv} {st : List Value} {M : Mm}
theorem pt_iconst (C : CX G I) {n : Int} {v : Int32} (hd : decode I.1 pc = .ok (.iconst n, 1)) (hv : Int32.ofInt n = v) (k : PT G (pc + 1) L (.int v :: st) M) : PT G pc L st M :=
  fun ls H locs hl hR hS => lv_iconst C.1 C.2.1 hd hv (k ls H locs hl hR hS)
theorem pt_bipush (C : CX G I) {n : Int} {v : Int32} (hd : decode I.1 pc = .ok (.bipush n, 2)) (hv : (Int8.ofInt n).toInt32 = v) (k : PT G (pc + 2) L (.int v :: st) M) : PT G pc L st M :=
  fun ls H locs hl hR hS => lv_bipush C.1 C.2.1 hd hv (k ls H locs hl hR hS)
theorem pt_sipush (C : CX G I) {n : Int} {v : Int32} (hd : decode I.1 pc = .ok (.sipush n, 3)) (hv : (Int16.ofInt n).toInt32 = v) (k : PT G (pc + 3) L (.int v :: st) M) : PT G pc L st M :=
  fun ls H locs hl hR hS => lv_sipush C.1 C.2.1 hd hv (k ls H locs hl hR hS)
theorem pt_ldc (C : CX G I) {i : Nat} {v : Int32} (hd : decode I.1 pc = .ok (.ldc i, 2)) (hw : Cond.constant I.2.1 i v ∈ TG) (k : PT G (pc + 2) L (.int v :: st) M) : PT G pc L st M :=
  fun ls H locs hl hR hS => lv_ldc C.1 C.2.1 C.2.2.1 (C.2.2.2.2.1 _ hw) hd (k ls H locs hl hR hS)
theorem pt_ldc2 (C : CX G I) {i : Nat} {v : Int64} (hd : decode I.1 pc = .ok (.ldc2_w i, 3)) (hw : Cond.constantLong I.2.1 i v ∈ TG) (k : PT G (pc + 3) L (.long v :: st) M) : PT G pc L st M :=
  fun ls H locs hl hR hS => lv_ldc2 C.1 C.2.1 C.2.2.1 (C.2.2.2.2.1 _ hw) hd (k ls H locs hl hR hS)
theorem pt_null (C : CX G I) (hd : decode I.1 pc = .ok (.aconst_null, 1)) (k : PT G (pc + 1) L (.null :: st) M) : PT G pc L st M :=
  fun ls H locs hl hR hS => lv_null C.1 C.2.1 hd (k ls H locs hl hR hS)
theorem pt_iload_n (C : CX G I) {q : Fin 4} {i : Nat} {x : Int32} (hd : decode I.1 pc = .ok (.iload_n q, 1)) (hi : (q : Nat) = i) (hx : L[i]? = some (some (.int x))) (k : PT G (pc + 1) L (.int x :: st) M) : PT G pc L st M :=
  fun ls H locs hl hR hS => lv_iload_n C.1 C.2.1 hd hi (hl.2.2 i _ hx) (k ls H locs hl hR hS)
theorem pt_iload (C : CX G I) {i : Nat} {x : Int32} (hd : decode I.1 pc = .ok (.iload i, 2)) (hx : L[i]? = some (some (.int x))) (k : PT G (pc + 2) L (.int x :: st) M) : PT G pc L st M :=
  fun ls H locs hl hR hS => lv_iload C.1 C.2.1 hd (hl.2.2 i _ hx) (k ls H locs hl hR hS)
theorem pt_lload (C : CX G I) {i : Nat} {x : Int64} (hd : decode I.1 pc = .ok (.lload i, 2)) (hx : L[i]? = some (some (.long x))) (k : PT G (pc + 2) L (.long x :: st) M) : PT G pc L st M :=
  fun ls H locs hl hR hS => lv_lload C.1 C.2.1 hd (hl.2.2 i _ hx) (k ls H locs hl hR hS)
theorem pt_aload_n (C : CX G I) {q : Fin 4} {i : Nat} {r : Option Nat} (hd : decode I.1 pc = .ok (.aload_n q, 1)) (hi : (q : Nat) = i) (hx : L[i]? = some (some (va_rf r))) (k : PT G (pc + 1) L (va_rf r :: st) M) : PT G pc L st M := by
  intro ls H locs hl hR hS
  cases r with
  | none => exact lv_aload_nN C.1 C.2.1 hd hi (hl.2.2 i _ hx) (k ls H locs hl hR hS)
  | some a => exact lv_aload_n C.1 C.2.1 hd hi (hl.2.2 i _ hx) (k ls H locs hl hR hS)
theorem pt_aload (C : CX G I) {i : Nat} {r : Option Nat} (hd : decode I.1 pc = .ok (.aload i, 2)) (hx : L[i]? = some (some (va_rf r))) (k : PT G (pc + 2) L (va_rf r :: st) M) : PT G pc L st M := by
  intro ls H locs hl hR hS
  cases r with
  | none => exact lv_aloadN C.1 C.2.1 hd (hl.2.2 i _ hx) (k ls H locs hl hR hS)
  | some a => exact lv_aload C.1 C.2.1 hd (hl.2.2 i _ hx) (k ls H locs hl hR hS)
theorem pt_istore_n (C : CX G I) {q : Fin 4} {i : Nat} {x : Int32} (hd : decode I.1 pc = .ok (.istore_n q, 1)) (hi : (q : Nat) = i) (hn : i < I.2.2.1) (k : PT G (pc + 1) (stL i (.int x) L) st M) : PT G pc L (.int x :: st) M :=
  fun _ H locs hl hR hS => lv_istore_n C.1 C.2.1 hd hi hl.has (by rw [C.2.2.2.1]; exact hn) rfl (fun ls' h' => k ls' H locs (LOC.store rfl h') hR hS)
theorem pt_istore (C : CX G I) {i : Nat} {x : Int32} (hd : decode I.1 pc = .ok (.istore i, 2)) (hn : i < I.2.2.1) (k : PT G (pc + 2) (stL i (.int x) L) st M) : PT G pc L (.int x :: st) M :=
  fun _ H locs hl hR hS => lv_istore C.1 C.2.1 hd hl.has (by rw [C.2.2.2.1]; exact hn) rfl (fun ls' h' => k ls' H locs (LOC.store rfl h') hR hS)
theorem pt_lstore (C : CX G I) {i : Nat} {x : Int64} (hd : decode I.1 pc = .ok (.lstore i, 2)) (hn : i + 1 < I.2.2.1) (k : PT G (pc + 2) (stJ i (.long x) L) st M) : PT G pc L (.long x :: st) M :=
  fun _ H locs hl hR hS => lv_lstore C.1 C.2.1 hd hl.has (by rw [C.2.2.2.1]; exact hn) rfl (fun ls' h' => k ls' H locs (LOC.storeJ rfl h') hR hS)
theorem pt_astore_n (C : CX G I) {q : Fin 4} {i : Nat} {r : Option Nat} (hd : decode I.1 pc = .ok (.astore_n q, 1)) (hi : (q : Nat) = i) (hn : i < I.2.2.1) (k : PT G (pc + 1) (stL i (va_rf r) L) st M) : PT G pc L (va_rf r :: st) M := by
  intro ls H locs hl hR hS
  cases r with
  | none => exact lv_astore_nN C.1 C.2.1 hd hi hl.has (by rw [C.2.2.2.1]; exact hn) rfl (fun ls' h' => k ls' H locs (LOC.store rfl h') hR hS)
  | some a => exact lv_astore_n C.1 C.2.1 hd hi hl.has (by rw [C.2.2.2.1]; exact hn) rfl (fun ls' h' => k ls' H locs (LOC.store rfl h') hR hS)
theorem pt_astore (C : CX G I) {i : Nat} {r : Option Nat} (hd : decode I.1 pc = .ok (.astore i, 2)) (hn : i < I.2.2.1) (k : PT G (pc + 2) (stL i (va_rf r) L) st M) : PT G pc L (va_rf r :: st) M := by
  intro ls H locs hl hR hS
  cases r with
  | none => exact lv_astoreN C.1 C.2.1 hd hl.has (by rw [C.2.2.2.1]; exact hn) rfl (fun ls' h' => k ls' H locs (LOC.store rfl h') hR hS)
  | some a => exact lv_astore C.1 C.2.1 hd hl.has (by rw [C.2.2.2.1]; exact hn) rfl (fun ls' h' => k ls' H locs (LOC.store rfl h') hR hS)
theorem pt_iinc (C : CX G I) {i : Nat} {n : Int} {x v : Int32} (hd : decode I.1 pc = .ok (.iinc i n, 3)) (hx : L[i]? = some (some (.int x))) (hv : x + Int32.ofInt n = v) (hn : i < I.2.2.1) (k : PT G (pc + 3) (stL i (.int v) L) st M) : PT G pc L st M := by
  intro ls H locs hl hR hS
  obtain ⟨j, hj⟩ := List.getElem?_of_mem (mem_lvl (X := gX G) hx)
  exact lv_iinc C.1 C.2.1 hd hl.has hj hv (by rw [C.2.2.2.1]; exact hn) rfl (fun ls' h' => k ls' H locs (LOC.store rfl h') hR hS)
theorem pt_iadd (C : CX G I) {x y : Int32} (hd : decode I.1 pc = .ok (.iadd, 1)) (k : PT G (pc + 1) L (.int (x + y) :: st) M) : PT G pc L (.int y :: .int x :: st) M :=
  fun ls H locs hl hR hS => lv_iadd C.1 C.2.1 hd (k ls H locs hl hR hS)
theorem pt_isub (C : CX G I) {x y : Int32} (hd : decode I.1 pc = .ok (.isub, 1)) (k : PT G (pc + 1) L (.int (x - y) :: st) M) : PT G pc L (.int y :: .int x :: st) M :=
  fun ls H locs hl hR hS => lv_isub C.1 C.2.1 hd (k ls H locs hl hR hS)
theorem pt_imul (C : CX G I) {x y : Int32} (hd : decode I.1 pc = .ok (.imul, 1)) (k : PT G (pc + 1) L (.int (x * y) :: st) M) : PT G pc L (.int y :: .int x :: st) M :=
  fun ls H locs hl hR hS => lv_imul C.1 C.2.1 hd (k ls H locs hl hR hS)
theorem pt_iand (C : CX G I) {x y : Int32} (hd : decode I.1 pc = .ok (.iand, 1)) (k : PT G (pc + 1) L (.int (x &&& y) :: st) M) : PT G pc L (.int y :: .int x :: st) M :=
  fun ls H locs hl hR hS => lv_iand C.1 C.2.1 hd (k ls H locs hl hR hS)
theorem pt_idiv (C : CX G I) {x y : Int32} (hd : decode I.1 pc = .ok (.idiv, 1)) (h : ¬ y = 0) (k : PT G (pc + 1) L (.int (x / y) :: st) M) : PT G pc L (.int y :: .int x :: st) M :=
  fun ls H locs hl hR hS => lv_idiv C.1 C.2.1 hd h (k ls H locs hl hR hS)
theorem pt_irem (C : CX G I) {x y : Int32} (hd : decode I.1 pc = .ok (.irem, 1)) (h : ¬ y = 0) (k : PT G (pc + 1) L (.int (x - x / y * y) :: st) M) : PT G pc L (.int y :: .int x :: st) M :=
  fun ls H locs hl hR hS => lv_irem C.1 C.2.1 hd h (k ls H locs hl hR hS)
theorem pt_ineg (C : CX G I) {x : Int32} (hd : decode I.1 pc = .ok (.ineg, 1)) (k : PT G (pc + 1) L (.int (-x) :: st) M) : PT G pc L (.int x :: st) M :=
  fun ls H locs hl hR hS => lv_ineg C.1 C.2.1 hd (k ls H locs hl hR hS)
theorem pt_i2l (C : CX G I) {x : Int32} (hd : decode I.1 pc = .ok (.i2l, 1)) (k : PT G (pc + 1) L (.long x.toInt64 :: st) M) : PT G pc L (.int x :: st) M :=
  fun ls H locs hl hR hS => lv_i2l C.1 C.2.1 hd rfl (k ls H locs hl hR hS)
theorem pt_ladd (C : CX G I) {x y : Int64} (hd : decode I.1 pc = .ok (.ladd, 1)) (k : PT G (pc + 1) L (.long (x + y) :: st) M) : PT G pc L (.long y :: .long x :: st) M :=
  fun ls H locs hl hR hS => lv_ladd C.1 C.2.1 hd (k ls H locs hl hR hS)
theorem pt_lmul (C : CX G I) {x y : Int64} (hd : decode I.1 pc = .ok (.lmul, 1)) (k : PT G (pc + 1) L (.long (x * y) :: st) M) : PT G pc L (.long y :: .long x :: st) M :=
  fun ls H locs hl hR hS => lv_lmul C.1 C.2.1 hd (k ls H locs hl hR hS)
theorem pt_dup (C : CX G I) {v : Value} (hd : decode I.1 pc = .ok (.dup, 1)) (hv : v.category = 1) (k : PT G (pc + 1) L (v :: v :: st) M) : PT G pc L (v :: st) M :=
  fun ls H locs hl hR hS => lv_dup C.1 C.2.1 hd (by rw [up_cat]; exact hv) (k ls H locs hl hR hS)
theorem pt_pop (C : CX G I) {v : Value} (hd : decode I.1 pc = .ok (.pop, 1)) (hv : v.category = 1) (k : PT G (pc + 1) L st M) : PT G pc L (v :: st) M :=
  fun ls H locs hl hR hS => lv_pop C.1 C.2.1 hd (by rw [up_cat]; exact hv) (k ls H locs hl hR hS)
theorem pt_goto (C : CX G I) {off : Int} {tgt : Nat} (hd : decode I.1 pc = .ok (.goto off, 3)) (ht : (pc : Int) + off = (tgt : Int)) (k : PT G tgt L st M) : PT G pc L st M :=
  fun ls H locs hl hR hS => lv_goto C.1 C.2.1 hd ht (k ls H locs hl hR hS)
theorem pt_if_eq (C : CX G I) {x : Int32} {off : Int} {tgt : Nat} (hd : decode I.1 pc = .ok (.ifCond .eq off, 3)) (ht : (pc : Int) + off = (tgt : Int)) (kt : x = 0 → PT G tgt L st M) (kf : ¬ x = 0 → PT G (pc + 3) L st M) : PT G pc L (.int x :: st) M :=
  fun ls H locs hl hR hS => lv_if_eq C.1 C.2.1 hd ht (fun h => kt h ls H locs hl hR hS) (fun h => kf h ls H locs hl hR hS)
theorem pt_if_ne (C : CX G I) {x : Int32} {off : Int} {tgt : Nat} (hd : decode I.1 pc = .ok (.ifCond .ne off, 3)) (ht : (pc : Int) + off = (tgt : Int)) (kt : ¬ x = 0 → PT G tgt L st M) (kf : x = 0 → PT G (pc + 3) L st M) : PT G pc L (.int x :: st) M :=
  fun ls H locs hl hR hS => lv_if_ne C.1 C.2.1 hd ht (fun h => kt h ls H locs hl hR hS) (fun h => kf h ls H locs hl hR hS)
theorem pt_if_lt (C : CX G I) {x : Int32} {off : Int} {tgt : Nat} (hd : decode I.1 pc = .ok (.ifCond .lt off, 3)) (ht : (pc : Int) + off = (tgt : Int)) (kt : x < 0 → PT G tgt L st M) (kf : ¬ x < 0 → PT G (pc + 3) L st M) : PT G pc L (.int x :: st) M :=
  fun ls H locs hl hR hS => lv_if_lt C.1 C.2.1 hd ht (fun h => kt h ls H locs hl hR hS) (fun h => kf h ls H locs hl hR hS)
theorem pt_if_ge (C : CX G I) {x : Int32} {off : Int} {tgt : Nat} (hd : decode I.1 pc = .ok (.ifCond .ge off, 3)) (ht : (pc : Int) + off = (tgt : Int)) (kt : 0 ≤ x → PT G tgt L st M) (kf : ¬ 0 ≤ x → PT G (pc + 3) L st M) : PT G pc L (.int x :: st) M :=
  fun ls H locs hl hR hS => lv_if_ge C.1 C.2.1 hd ht (fun h => kt h ls H locs hl hR hS) (fun h => kf h ls H locs hl hR hS)
theorem pt_if_gt (C : CX G I) {x : Int32} {off : Int} {tgt : Nat} (hd : decode I.1 pc = .ok (.ifCond .gt off, 3)) (ht : (pc : Int) + off = (tgt : Int)) (kt : 0 < x → PT G tgt L st M) (kf : ¬ 0 < x → PT G (pc + 3) L st M) : PT G pc L (.int x :: st) M :=
  fun ls H locs hl hR hS => lv_if_gt C.1 C.2.1 hd ht (fun h => kt h ls H locs hl hR hS) (fun h => kf h ls H locs hl hR hS)
theorem pt_if_le (C : CX G I) {x : Int32} {off : Int} {tgt : Nat} (hd : decode I.1 pc = .ok (.ifCond .le off, 3)) (ht : (pc : Int) + off = (tgt : Int)) (kt : x ≤ 0 → PT G tgt L st M) (kf : ¬ x ≤ 0 → PT G (pc + 3) L st M) : PT G pc L (.int x :: st) M :=
  fun ls H locs hl hR hS => lv_if_le C.1 C.2.1 hd ht (fun h => kt h ls H locs hl hR hS) (fun h => kf h ls H locs hl hR hS)
theorem pt_icmp_eq (C : CX G I) {x y : Int32} {off : Int} {tgt : Nat} (hd : decode I.1 pc = .ok (.if_icmp .eq off, 3)) (ht : (pc : Int) + off = (tgt : Int)) (kt : x = y → PT G tgt L st M) (kf : ¬ x = y → PT G (pc + 3) L st M) : PT G pc L (.int y :: .int x :: st) M :=
  fun ls H locs hl hR hS => lv_icmp_eq C.1 C.2.1 hd ht (fun h => kt h ls H locs hl hR hS) (fun h => kf h ls H locs hl hR hS)
theorem pt_icmp_ne (C : CX G I) {x y : Int32} {off : Int} {tgt : Nat} (hd : decode I.1 pc = .ok (.if_icmp .ne off, 3)) (ht : (pc : Int) + off = (tgt : Int)) (kt : ¬ x = y → PT G tgt L st M) (kf : x = y → PT G (pc + 3) L st M) : PT G pc L (.int y :: .int x :: st) M :=
  fun ls H locs hl hR hS => lv_icmp_ne C.1 C.2.1 hd ht (fun h => kt h ls H locs hl hR hS) (fun h => kf h ls H locs hl hR hS)
theorem pt_icmp_lt (C : CX G I) {x y : Int32} {off : Int} {tgt : Nat} (hd : decode I.1 pc = .ok (.if_icmp .lt off, 3)) (ht : (pc : Int) + off = (tgt : Int)) (kt : x < y → PT G tgt L st M) (kf : ¬ x < y → PT G (pc + 3) L st M) : PT G pc L (.int y :: .int x :: st) M :=
  fun ls H locs hl hR hS => lv_icmp_lt C.1 C.2.1 hd ht (fun h => kt h ls H locs hl hR hS) (fun h => kf h ls H locs hl hR hS)
theorem pt_icmp_ge (C : CX G I) {x y : Int32} {off : Int} {tgt : Nat} (hd : decode I.1 pc = .ok (.if_icmp .ge off, 3)) (ht : (pc : Int) + off = (tgt : Int)) (kt : y ≤ x → PT G tgt L st M) (kf : ¬ y ≤ x → PT G (pc + 3) L st M) : PT G pc L (.int y :: .int x :: st) M :=
  fun ls H locs hl hR hS => lv_icmp_ge C.1 C.2.1 hd ht (fun h => kt h ls H locs hl hR hS) (fun h => kf h ls H locs hl hR hS)
theorem pt_icmp_gt (C : CX G I) {x y : Int32} {off : Int} {tgt : Nat} (hd : decode I.1 pc = .ok (.if_icmp .gt off, 3)) (ht : (pc : Int) + off = (tgt : Int)) (kt : y < x → PT G tgt L st M) (kf : ¬ y < x → PT G (pc + 3) L st M) : PT G pc L (.int y :: .int x :: st) M :=
  fun ls H locs hl hR hS => lv_icmp_gt C.1 C.2.1 hd ht (fun h => kt h ls H locs hl hR hS) (fun h => kf h ls H locs hl hR hS)
theorem pt_icmp_le (C : CX G I) {x y : Int32} {off : Int} {tgt : Nat} (hd : decode I.1 pc = .ok (.if_icmp .le off, 3)) (ht : (pc : Int) + off = (tgt : Int)) (kt : x ≤ y → PT G tgt L st M) (kf : ¬ x ≤ y → PT G (pc + 3) L st M) : PT G pc L (.int y :: .int x :: st) M :=
  fun ls H locs hl hR hS => lv_icmp_le C.1 C.2.1 hd ht (fun h => kt h ls H locs hl hR hS) (fun h => kf h ls H locs hl hR hS)
theorem pt_ifnull (C : CX G I) {r : Option Nat} {off : Int} {tgt : Nat} (hd : decode I.1 pc = .ok (.ifnull off, 3)) (ht : (pc : Int) + off = (tgt : Int)) (kt : r = none → PT G tgt L st M) (kf : ¬ r = none → PT G (pc + 3) L st M) : PT G pc L (va_rf r :: st) M := by
  intro ls H locs hl hR hS
  cases r with
  | none => exact lv_ifnullN C.1 C.2.1 hd ht (kt rfl ls H locs hl hR hS)
  | some a => exact lv_ifnull C.1 C.2.1 hd (kf (fun h => by cases h) ls H locs hl hR hS)
theorem pt_ifnonnull (C : CX G I) {r : Option Nat} {off : Int} {tgt : Nat} (hd : decode I.1 pc = .ok (.ifnonnull off, 3)) (ht : (pc : Int) + off = (tgt : Int)) (kt : ¬ r = none → PT G tgt L st M) (kf : r = none → PT G (pc + 3) L st M) : PT G pc L (va_rf r :: st) M := by
  intro ls H locs hl hR hS
  cases r with
  | none => exact lv_ifnonnullN C.1 C.2.1 hd (kf rfl ls H locs hl hR hS)
  | some a => exact lv_ifnonnull C.1 C.2.1 hd ht (kt (fun h => by cases h) ls H locs hl hR hS)
theorem pt_tableIn (C : CX G I) {dflt lo hi : Int} {offs : Array Int} {len : Nat} {x : Int32} {off : Int} {tgt : Nat} (hd : decode I.1 pc = .ok (.tableswitch dflt lo hi offs, len)) (h1 : ¬ x.toInt < lo) (h2 : ¬ hi < x.toInt) (ho : offs[(x.toInt - lo).toNat]? = some off) (ht : (pc : Int) + off = (tgt : Int)) (k : PT G tgt L st M) : PT G pc L (.int x :: st) M :=
  fun ls H locs hl hR hS => lv_tableIn C.1 C.2.1 hd h1 h2 ho ht (k ls H locs hl hR hS)
theorem pt_tableOut (C : CX G I) {dflt lo hi : Int} {offs : Array Int} {len : Nat} {x : Int32} {tgt : Nat} (hd : decode I.1 pc = .ok (.tableswitch dflt lo hi offs, len)) (h : x.toInt < lo ∨ hi < x.toInt) (ht : (pc : Int) + dflt = (tgt : Int)) (k : PT G tgt L st M) : PT G pc L (.int x :: st) M :=
  fun ls H locs hl hR hS => lv_tableOut C.1 C.2.1 hd h ht (k ls H locs hl hR hS)
theorem up_rf (X : GF) (r : Option Nat) : up X (va_rf r) = va_rf (r.map (adr X)) := by cases r <;> rfl
theorem pt_get (C : CX G I) {a ci k index N : Nat} {fs : List Value} {v : Value} {Cn : String} {T : u_T} (hM : M.2.2 a = .inr (ci, fs)) (hv : fs[k]? = some v) (hc : vwCl[ci]? = some (Cn, T, N)) (hk : k < N) (hin : ∀ w ∈ u_ws Cn T N, w ∈ TG) (hw : Cond.fieldLink I.2.1 index (T k).1 (T k).2.1 (T k).2.2.1 ∈ TG)
    (hd : decode I.1 pc = .ok (.getfield index, 3)) (kk : PT G (pc + 3) L (v :: st) M) : PT G pc L (.ref a :: st) M := by
  intro ls H locs hl hR hS
  obtain ⟨h5, hlt⟩ := hR.ltO hM hc
  exact va_get (D := (gX G).1) (ci := ci) (v := up (gX G) v) (C := Cn) (T := T) (N := N) C.1 C.2.1 C.2.2.2.2.1 hin C.2.2.1 hR.K (hR.P hM (tel_o hc) h5 hlt) 0 (fs := fs.map (up (gX G))) rfl hc k hk (C.2.2.2.2.1 _ hw) (fun _ h => h) (by rw [List.getElem?_map, hv]; rfl) hd (kk ls H locs hl hR hS)
end PTrows
