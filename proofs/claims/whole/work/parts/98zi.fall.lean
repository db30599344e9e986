/-! settle: what one fall is, with no cells of memory -/
theorem LB_ex (g : Nat → Int32) (p : Nat) : ∃ lb, LB g p lb := by
  refine ⟨fun c => @dite _ (∃ f, lead g f ∧ f < p ∧ con g f c) (Classical.propDecidable _) (fun h => some (cn (Classical.choose h) (ldB g))) (fun _ => none), fun c hc k => ?_⟩
  dsimp only
  by_cases h : ∃ f, lead g f ∧ f < p ∧ con g f c
  · rw [dif_pos h]
    obtain ⟨q1, q2, q3⟩ := Classical.choose_spec h
    constructor
    · intro e
      injection e with e
      exact ⟨_, q1, q2, q3, e.symm⟩
    · rintro ⟨f, f1, f2, f3, rfl⟩
      rw [lead_un q1 f1 q3 f3]
  · rw [dif_neg h]
    constructor
    · intro e; cases e
    · rintro ⟨f, f1, f2, f3, -⟩
      exact absurd ⟨f, f1, f2, f3⟩ h
theorem lbS_LB (g : Nat → Int32) : LB g 1000 (lbS g) := by
  obtain ⟨lb, h⟩ := LB_ex g 1000
  intro c hc k
  rw [← lbS_eq h hc]
  exact h c hc k
noncomputable def psL (g : Nat → Int32) (k : Nat) : List Nat := (List.range 1000).filter fun c => decide (lbS g c = some k)
theorem psL_mem {g : Nat → Int32} {k c : Nat} : c ∈ psL g k ↔ c < 1000 ∧ lbS g c = some k := by
  unfold psL
  rw [List.mem_filter, List.mem_range, decide_eq_true_iff]
theorem psL_nd (g : Nat → Int32) (k : Nat) : (psL g k).Nodup := List.Pairwise.filter _ List.nodup_range
theorem psL_len (g : Nat → Int32) (k : Nat) : (psL g k).length = cn 1000 fun c => decide (lbS g c = some k) := cn_filter 1000 fun c => decide (lbS g c = some k)
theorem psL_blk {g : Nat → Int32} {k c : Nat} (h : c ∈ psL g k) : blk g c = true := by
  obtain ⟨h1, h2⟩ := psL_mem.mp h
  exact (lbS_LB g).isb h1 h2
theorem psL_pos {g : Nat → Int32} {k : Nat} (hk : k < cn 1000 (ldB g)) : 0 < (psL g k).length := by
  obtain ⟨f, f1, f2, rfl⟩ := ld_of 1000 hk
  refine List.length_pos_of_mem (a := f) (psL_mem.mpr ⟨f1, ?_⟩)
  exact (lbS_LB g f f1 _).mpr ⟨f, f2, f1, con_rf f, rfl⟩
/-- as far as it falls its way is free -/
theorem stO_go {g : Nat → Int32} {k : Nat} {s c : Nat} (hs : s < stO g k) (hc : c < 1000) (hk : lbS g c = some k) : goS g k s c = true := by
  unfold stO at hs
  cases q : (List.range 10).find? fun s => (List.range 1000).any fun c => decide (lbS g c = some k) && !(goS g k s c) with
  | none => rw [q] at hs; exact absurd hs (Nat.not_lt_zero s)
  | some S =>
    rw [q] at hs
    have hs : s < S := hs
    obtain ⟨-, -, h3⟩ := List.find?_range_eq_some.mp q
    have h4 := h3 s hs
    rw [Bool.not_eq_true'] at h4
    cases q2 : goS g k s c with
    | true => rfl
    | false =>
      have : ((List.range 1000).any fun c => decide (lbS g c = some k) && !(goS g k s c)) = true := List.any_eq_true.mpr ⟨c, List.mem_range.mpr hc, by rw [decide_eq_true hk, q2]; rfl⟩
      rw [this] at h4
      cases h4
theorem stO_tgt {g : Nat → Int32} {k c : Nat} (h0 : 0 < stO g k) (h : c ∈ psL g k) : 100 * stO g k ≤ c ∧ ¬ g (c - 100 * stO g k) = -1 := by
  obtain ⟨h1, h2⟩ := psL_mem.mp h
  have h3 := stO_go (s := stO g k - 1) (by omega) h1 h2
  unfold goS at h3
  rw [show stO g k - 1 + 1 = stO g k by omega] at h3
  obtain ⟨h4, h5⟩ := Bool.and_eq_true_iff.mp h3
  refine ⟨of_decide_eq_true h4, fun q => ?_⟩
  rcases Bool.or_eq_true_iff.mp h5 with h6 | h6
  · rw [q] at h6
    exact absurd h6 (by decide)
  · have h7 := (lbS_LB g).isb (by omega) (of_decide_eq_true h6)
    unfold blk at h7
    rw [q] at h7
    exact absurd h7 (by decide)
noncomputable def cnF (a : AS) (g : Nat → Int32) (k : Nat) : Bool := lsB a g k && decide (0 < stO g k)
/-- the first of the first p parts that falls -/
noncomputable def nxP (a : AS) (g : Nat → Int32) (p : Nat) : Option Nat := (List.range p).find? (cnF a g)
theorem nxP_succ (a : AS) (g : Nat → Int32) (p : Nat) : nxP a g (p + 1) = (nxP a g p).or (if cnF a g p = true then some p else none) := by
  have e : ([p] : List Nat).find? (cnF a g) = if cnF a g p = true then some p else none := by
    rw [List.find?_cons]
    cases cnF a g p <;> rfl
  unfold nxP
  rw [List.range_succ, List.find?_append, e]
theorem nxP_some {a : AS} {g : Nat → Int32} {p k : Nat} (h : nxP a g p = some k) : k < p ∧ lsB a g k = true ∧ 0 < stO g k := by
  obtain ⟨h1, h2, -⟩ := List.find?_range_eq_some.mp h
  obtain ⟨h3, h4⟩ := Bool.and_eq_true_iff.mp h1
  exact ⟨List.mem_range.mp h2, h3, of_decide_eq_true h4⟩
theorem nxP_none {a : AS} {g : Nat → Int32} {p : Nat} (h : ∀ i, i < p → cnF a g i = false) : nxP a g p = none := by
  refine List.find?_range_eq_none.mpr fun i hi => ?_
  rw [h i hi]
  rfl
theorem nxP_at {a : AS} {g : Nat → Int32} {p k : Nat} (hk : k < p) (h1 : cnF a g k = true) (h : ∀ i, i < k → cnF a g i = false) : nxP a g p = some k := by
  refine List.find?_range_eq_some.mpr ⟨h1, List.mem_range.mpr hk, fun j hj => ?_⟩
  rw [h j hj]
  rfl
noncomputable def nxF (a : AS) (g : Nat → Int32) : Option Nat := nxP a g (cn 1000 (ldB g))
def zFe (a : AS) (n : Nat) (f : Nat → Nat → Int32) : AS := (zkn a, zK a, zbx a, zkp a, n, f, znl a, znr a, zab a)
/-- a fall is noted: from where, how far -/
def ntF (c s : Nat) (a : AS) : AS := zFe a (zfe a + 1) (if zfe a < 60 then (fun i => if i = 0 then upd (zfl a 0) (zfe a) (nI c) else if i = 1 then upd (zfl a 1) (zfe a) (nI s) else zfl a i) else zfl a)
/-- the cells of list l are made open, then what was there comes s lower -/
def loA (y s : Nat) (g : Nat → Int32) (a : AS) (l : List Nat) : AS := mvG y (fun c => c - 100 * s) g (mvG y (fun c => c) (fun _ => 0) a l) l
noncomputable def flS (y : Nat) (a : AS) (k : Nat) : AS := loA y (stO (cdA (zab a) y) k) (cdA (zab a) y) (ntF (fsO (cdA (zab a) y) k) (stO (cdA (zab a) y) k) a) (psL (cdA (zab a) y) k)
noncomputable def stS (y : Nat) : Nat → AS → AS
  | 0, a => a
  | n + 1, a => match nxF a (cdA (zab a) y) with
    | none => a
    | some k => stS y n (flS y a k)
theorem stS_some {y n k : Nat} {a : AS} (h : nxF a (cdA (zab a) y) = some k) : stS y (n + 1) a = stS y n (flS y a k) := by
  rw [stS, h]
theorem stS_none {y n : Nat} {a : AS} (h : nxF a (cdA (zab a) y) = none) : stS y n a = a := by
  cases n with
  | zero => rfl
  | succ n => rw [stS, h]
/-- how high the blocks are, all together -/
def Wt (y : Nat) (a : AS) : Nat := sm 1000 fun c => if blk (cdA (zab a) y) c = true then c / 100 else 0
theorem Wt_le (y : Nat) (a : AS) : Wt y a ≤ 9000 := by
  have h := sm_le (n := 1000) (p := fun c => if blk (cdA (zab a) y) c = true then c / 100 else 0) (q := fun _ => 9) fun i hi => by
    split <;> omega
  rw [sm_const] at h
  exact h
theorem Wt_at {y c : Nat} {v : Int32} {a : AS} (hy : y < 16) (hc : c < 1000) : Wt y (zch y c v a) + (if blk (cdA (zab a) y) c = true then c / 100 else 0) = Wt y a + if blk (cdA (zab (zch y c v a)) y) c = true then c / 100 else 0 := by
  refine sm_at (n := 1000) (k := c) (p := fun e => if blk (cdA (zab (zch y c v a)) y) e = true then e / 100 else 0) (q := fun e => if blk (cdA (zab a) y) e = true then e / 100 else 0) hc fun e he hne => ?_
  have e1 : cdA (zab (zch y c v a)) y e = cdA (zab a) y e := by rw [cdA_zch hy hy hc he, if_neg (fun t => hne t.2.1)]
  have e2 : blk (cdA (zab (zch y c v a)) y) e = blk (cdA (zab a) y) e := by unfold blk; rw [e1]
  show (if blk (cdA (zab (zch y c v a)) y) e = true then e / 100 else 0) = if blk (cdA (zab a) y) e = true then e / 100 else 0
  rw [e2]
theorem Wt_cut {y c : Nat} {a : AS} (hy : y < 16) (hc : c < 1000) (hb : blk (cdA (zab a) y) c = true) : Wt y (zch y c 0 a) + c / 100 = Wt y a := by
  have h := Wt_at (v := 0) (a := a) hy hc
  have e : blk (cdA (zab (zch y c 0 a)) y) c = false := by
    unfold blk
    rw [cdA_zch hy hy hc hc]
    split
    · rfl
    · rename_i q
      by_cases q2 : cdA (zab a) y c = -1
      · rw [q2]; rfl
      · exact absurd ⟨rfl, rfl, q2⟩ q
  rw [if_pos hb, if_neg (by rw [e]; decide)] at h
  omega
theorem mvG_nil (u : Nat) (τ : Nat → Nat) (v : Nat → Int32) (a : AS) : mvG u τ v a [] = a := rfl
theorem mvG_cons (u : Nat) (τ : Nat → Nat) (v : Nat → Int32) (a : AS) (c : Nat) (l : List Nat) : mvG u τ v a (c :: l) = mvG u τ v (zch u (τ c) (v c) a) l := rfl
theorem Wt_put {y c : Nat} {v : Int32} {a : AS} (hy : y < 16) (hc : c < 1000) : Wt y (zch y c v a) ≤ Wt y a + c / 100 := by
  have h := Wt_at (v := v) (a := a) hy hc
  split at h <;> split at h <;> omega
theorem Wt_cuts {y : Nat} (hy : y < 16) (l : List Nat) : ∀ a : AS, l.Nodup → (∀ c, c ∈ l → c < 1000 ∧ blk (cdA (zab a) y) c = true) → Wt y (mvG y (fun c => c) (fun _ => 0) a l) + (l.map fun c => c / 100).sum = Wt y a := by
  induction l with
  | nil => intro a _ _; rw [mvG_nil, List.map_nil, List.sum_nil, Nat.add_zero]
  | cons x l ih =>
    intro a hn h
    obtain ⟨n1, n2⟩ := List.nodup_cons.mp hn
    obtain ⟨h1, h2⟩ := h x List.mem_cons_self
    have h3 := ih (zch y x 0 a) n2 fun c hc => by
      obtain ⟨h4, h5⟩ := h c (List.mem_cons_of_mem _ hc)
      refine ⟨h4, ?_⟩
      unfold blk
      rw [cdA_zch hy hy h1 h4, if_neg (fun t => n1 (by rw [← t.2.1]; exact hc))]
      exact h5
    have h6 := Wt_cut hy h1 h2
    rw [mvG_cons, List.map_cons, List.sum_cons]
    omega
theorem Wt_puts {y : Nat} {τ : Nat → Nat} {v : Nat → Int32} (hy : y < 16) (l : List Nat) : ∀ a : AS, (∀ c, c ∈ l → τ c < 1000) → Wt y (mvG y τ v a l) ≤ Wt y a + (l.map fun c => τ c / 100).sum := by
  induction l with
  | nil => intro a _; rw [mvG_nil, List.map_nil, List.sum_nil, Nat.add_zero]; exact Nat.le_refl _
  | cons x l ih =>
    intro a h
    have h3 := ih (zch y (τ x) (v x) a) fun c hc => h c (List.mem_cons_of_mem _ hc)
    have h6 := Wt_put (v := v x) (a := a) hy (h x List.mem_cons_self)
    rw [mvG_cons, List.map_cons, List.sum_cons]
    omega
theorem sum_dn {s : Nat} (l : List Nat) (hs : 0 < s) : (∀ c, c ∈ l → 100 * s ≤ c) → (l.map fun c => (c - 100 * s) / 100).sum + l.length ≤ (l.map fun c => c / 100).sum := by
  induction l with
  | nil => intro _; exact Nat.le_refl _
  | cons x l ih =>
    intro h
    have h1 := ih fun c hc => h c (List.mem_cons_of_mem _ hc)
    have h2 := h x List.mem_cons_self
    rw [List.map_cons, List.map_cons, List.sum_cons, List.sum_cons, List.length_cons]
    omega
theorem Wt_nt (y c s : Nat) (a : AS) : Wt y (ntF c s a) = Wt y a := rfl
theorem Wt_fall {y k : Nat} {a : AS} (hy : y < 16) (hk : k < cn 1000 (ldB (cdA (zab a) y))) (hs : 0 < stO (cdA (zab a) y) k) : Wt y (flS y a k) + 1 ≤ Wt y a := by
  have h1 := Wt_cuts hy (psL (cdA (zab a) y) k) (ntF (fsO (cdA (zab a) y) k) (stO (cdA (zab a) y) k) a) (psL_nd _ _) fun c hc => ⟨(psL_mem.mp hc).1, psL_blk hc⟩
  have h2 := Wt_puts (τ := fun c => c - 100 * stO (cdA (zab a) y) k) (v := cdA (zab a) y) hy (psL (cdA (zab a) y) k) (mvG y (fun c => c) (fun _ => 0) (ntF (fsO (cdA (zab a) y) k) (stO (cdA (zab a) y) k) a) (psL (cdA (zab a) y) k)) fun c hc => by
    have := (psL_mem.mp hc).1
    omega
  have h3 := sum_dn (psL (cdA (zab a) y) k) hs fun c hc => (stO_tgt hs hc).1
  have h4 := psL_pos hk
  rw [Wt_nt] at h1
  unfold flS loA
  omega
/-- what stays true all along -/
theorem From2.nt {y u c s : Nat} {a b : AS} (h : From2 y u a b) (hf : zfe b < 10000) : From2 y u a (ntF c s b) := by
  obtain ⟨⟨o1, o2, o3, o4, o5, o6⟩, h2, h3, h4, h5, h6⟩ := h
  exact ⟨⟨o1, o2, o3, o4, hf, o6⟩, h2, h3, h4, h5, h6⟩
theorem From2.fe {y u n : Nat} {a b : AS} {f : Nat → Nat → Int32} (h : From2 y u a b) (hf : n ≤ 10000) : From2 y u a (zFe b n f) := by
  obtain ⟨⟨o1, o2, o3, o4, o5, o6⟩, h2, h3, h4, h5, h6⟩ := h
  exact ⟨⟨o1, o2, o3, o4, hf, o6⟩, h2, h3, h4, h5, h6⟩
theorem fl_cut {y : Nat} {a b : AS} (h : From2 y y a b) (hy : y < 16) (l : List Nat) (hl : ∀ c, c ∈ l → c < 1000) : From2 y y a (mvG y (fun c => c) (fun _ => 0) b l) := mvG_from h hy hy l (fun c hc => ⟨hl c hc, Or.inr (Or.inl rfl), by decide⟩) (Or.inl rfl)
theorem fl_put {y : Nat} {a b : AS} {τ : Nat → Nat} {g : Nat → Int32} (h : From2 y y a b) (hy : y < 16) (l : List Nat) (hl : ∀ c, c ∈ l → τ c < 1000 ∧ cOK (zkn a) (g c) ∧ ¬ g c = -1) : From2 y y a (mvG y τ g b l) := mvG_from h hy hy l (fun c hc => hl c hc) (Or.inl rfl)
theorem blk_ne {g : Nat → Int32} {c : Nat} (h : blk g c = true) : ¬ g c = -1 := fun q => by
  unfold blk at h
  rw [q] at h
  exact absurd h (by decide)
theorem fl_From {y k : Nat} {a0 a : AS} (h : From2 y y a0 a) (hy : y < 16) (hf : zfe a < 10000) : From2 y y a0 (flS y a k) := by
  refine fl_put (fl_cut (h.nt hf) hy _ fun c hc => (psL_mem.mp hc).1) hy _ fun c hc => ?_
  have hc1 := (psL_mem.mp hc).1
  refine ⟨by omega, ?_, blk_ne (psL_blk hc)⟩
  rw [← h.2.1]
  exact h.1.av.cd hy hc1
theorem zfe_zch (y c : Nat) (v : Int32) (a : AS) : zfe (zch y c v a) = zfe a := by
  unfold zch
  split <;> rfl
theorem zfe_mvG {y : Nat} {τ : Nat → Nat} {v : Nat → Int32} (l : List Nat) : ∀ a : AS, zfe (mvG y τ v a l) = zfe a := by
  induction l with
  | nil => intro a; rfl
  | cons x l ih => intro a; exact (ih (zch y (τ x) (v x) a)).trans (zfe_zch _ _ _ _)
theorem zfe_fall (y k : Nat) (a : AS) : zfe (flS y a k) = zfe a + 1 := by
  unfold flS loA
  rw [zfe_mvG, zfe_mvG]
  rfl
/-- all rounds -/
theorem stS_ok {y : Nat} (hy : y < 16) {a0 : AS} : ∀ (n : Nat) (a : AS), From2 y y a0 a → zfe a + Wt y a ≤ 9000 → From2 y y a0 (stS y n a) := by
  intro n
  induction n with
  | zero => intro a h _; exact h
  | succ n ih =>
    intro a h hw
    cases q : nxF a (cdA (zab a) y) with
    | none => rw [stS_none q]; exact h
    | some k =>
      rw [stS_some q]
      obtain ⟨q1, q2, q3⟩ := nxP_some q
      have h1 := Wt_fall (a := a) hy q1 q3
      refine ih _ (fl_From h hy (by omega)) ?_
      rw [zfe_fall]
      omega
