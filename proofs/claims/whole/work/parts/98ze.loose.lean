/-! partOf: pieces -/
theorem ld_of {g : Nat → Int32} {k : Nat} : ∀ n, k < cn n (ldB g) → ∃ f, f < n ∧ lead g f ∧ cn f (ldB g) = k := by
  intro n
  induction n with
  | zero => intro h; exact absurd h (Nat.not_lt_zero k)
  | succ n ih =>
    intro h
    by_cases q : lead g n
    · rw [cn_ld_succ q] at h
      by_cases e : k = cn n (ldB g)
      · exact ⟨n, by omega, q, e.symm⟩
      · obtain ⟨f, f1, f2⟩ := ih (by omega)
        exact ⟨f, by omega, f2⟩
    · rw [cn_ld_skip q] at h
      obtain ⟨f, f1, f2⟩ := ih h
      exact ⟨f, by omega, f2⟩
theorem ld_un {g : Nat → Int32} {f f' : Nat} (h : lead g f) (h' : lead g f') (e : cn f (ldB g) = cn f' (ldB g)) : f = f' := by
  rcases Nat.lt_trichotomy f f' with q | q | q
  · have := cn_mono (ldB g) (show f + 1 ≤ f' by omega)
    rw [cn_ld_succ h] at this
    omega
  · exact q
  · have := cn_mono (ldB g) (show f' + 1 ≤ f by omega)
    rw [cn_ld_succ h'] at this
    omega
def hng (a : AS) (g : Nat → Int32) (c : Nat) : Bool := oNe (zK a 4 (kd (g c)).toNatClampNeg) 0
noncomputable def lsP (a : AS) (g : Nat → Int32) (k c : Nat) : Bool := decide (lbS g c = some k) && (decide (c < 100) || hng a g c)
noncomputable def lsB (a : AS) (g : Nat → Int32) (k : Nat) : Bool := (List.range 1000).all fun c => !(lsP a g k c)
theorem lsB_no {a : AS} {g : Nat → Int32} {k c : Nat} (hc : c < 1000) (h : lsP a g k c = true) : lsB a g k = false := by
  unfold lsB
  refine Bool.eq_false_iff.mpr fun q => ?_
  have := List.all_eq_true.mp q c (List.mem_range.mpr hc)
  rw [h] at this
  cases this
theorem lsB_yes {a : AS} {g : Nat → Int32} {k : Nat} (h : ∀ c, c < 1000 → lsP a g k c = false) : lsB a g k = true := by
  unfold lsB
  refine List.all_eq_true.mpr fun c hc => ?_
  rw [h c (List.mem_range.mp hc)]
  rfl
section LO
variable {L : Nat} {xs : Nat → Int32} {M : Mm} {a : AS} {g : Nat → Int32} {bs : List Nat}
theorem sp_hangs (h : CCo L xs a M) (hO : OkA a) {c : Nat} (hc : cOK (zkn a) (g c)) (q : blk g c = true) : F_X2_hangs [.ref 7, .int (kd (g c))] M = some (some (.int (bz (hng a g c))), M) := by
  obtain ⟨e1, e2, e3, -⟩ := lt_ok hO hc q
  have h9 := pI_gI (t := 1) (M := M) (L := mkL 2 [.ref 7, .int (kd (g c))]) (pA_fA (k := 4) (pA_lA (i := 0) rfl) h.k7 rfl) (pI_eq (pI_lI (i := 1) rfl) e2) h.2.1.2.2.2.2.2 (inb_nI e1 (by decide))
  rw [nI_clamp (by omega)] at h9
  refine wF_eq (wF_b rfl (Nat.le_of_ble_eq_true rfl) (l_retZ (v := hng a g c) (pI_eq (pI_zI (pC_and (pC_eq (pC_nz (pI_vV (pR_A (pA_lA rfl) (pR_I (pI_lI rfl) pR_0)) h.k7 (sp_isKindC h.k7 _))) e3) (pC_kI h9 pI_cI))) ?_) ⟨rfl, rfl, rfl⟩))
  rw [Bool.true_and]
  rfl
theorem sp_isLooseC (h : CCo L xs a M) (hO : OkA a) (hg : GrC M 51 g bs) (hcd : ∀ c, c < 1000 → cOK (zkn a) (g c)) {lb : Nat → Option Nat} {mem : List Nat} {st : Nat → Nat} (hL : LB g 1000 lb) (hP : PSC g lb mem st M) {k : Nat} (hk : k < cn 1000 (ldB g)) : F_X6_isLoose [.ref 57, .int (nI k), .ref 51, .ref 7] M = some (some (.int (bz (lsB a g k))), M) := by
  have hbig : big = 1000000 := rfl
  obtain ⟨l1, ⟨fl, fm, l2, l3, l4, l5⟩, hS, hml, fs, l6, l7⟩ := hP
  obtain ⟨f, hf, hld, rfl⟩ := ld_of 1000 hk
  obtain ⟨s1, s2, s3, s4, s5, s6⟩ := hS.2 f hld hf
  have hcn := cn_le 1000 (ldB g)
  obtain ⟨k, ek⟩ : ∃ k, k = cn f (ldB g) := ⟨_, rfl⟩
  rw [← ek] at hk s1 s2 s3 s4 s5 s6 ⊢
  have pst : ∀ (Lx : Lv), lkp Lx 0 = some (.ref 57) → lkp Lx 1 = some (.int (nI k)) → pI (gI 0 (fA 6 2 (lA 0)) (lI 1)) Lx M (nI (st k)) := fun Lx q0 q1 => by
    have h9 := pI_gI (t := 0) (L := Lx) (pA_fA (k := 2) (pA_lA q0) l1 rfl) (pI_lI q1) l6 (inb_nI (show k < 1001 by omega) (by decide))
    rw [nI_clamp (by omega), l7 k (by omega)] at h9
    exact h9
  have pst1 : ∀ (Lx : Lv), lkp Lx 0 = some (.ref 57) → lkp Lx 1 = some (.int (nI k)) → pI (gI 0 (fA 6 2 (lA 0)) (bI oAdd (lI 1) (cI 1))) Lx M (nI (st (k + 1))) := fun Lx q0 q1 => by
    have h9 := pI_gI (t := 0) (L := Lx) (pA_fA (k := 2) (pA_lA q0) l1 rfl) (pI_eq (pI_add (pI_lI q1) pI_cI) (nI_1 k)) l6 (inb_nI (show k + 1 < 1001 by omega) (by decide))
    rw [nI_clamp (by omega), l7 (k + 1) (by omega)] at h9
    exact h9
  refine wF_eq (wF_b rfl (Nat.le_of_ble_eq_true rfl) ?_)
  refine q_forC (st (k + 1)) (fun j L' M2 => L' = [some (.ref 57), some (.int (nI k)), some (.ref 51), some (.ref 7), some (.int (nI j))] ∧ M2 = M ∧ st k ≤ j ∧ ∀ i, st k ≤ i → i < j → lsP a g k (mem.getD i 0) = false) rfl (a := st k) (pst _ rfl rfl) (by omega) (by omega) ⟨rfl, rfl, Nat.le_refl _, fun i h1 h2 => absurd h2 (by omega)⟩ ?_ ?_ ?_
  · rintro j L' M2 hj ⟨rfl, rfl, -⟩
    exact pC_eq (pC_kI (pI_lI rfl) (pst1 _ rfl rfl)) (oLt_nI (by omega) (by omega))
  · rintro j L' M2 hj ⟨rfl, rfl, j1, j2⟩
    obtain ⟨c, ec⟩ : ∃ c, c = mem.getD j 0 := ⟨_, rfl⟩
    have hc : c < 1000 := by rw [ec]; exact s6 j j1 hj
    have hlb : lb c = some k := (s5 c hc).mpr ⟨j, j1, hj, ec.symm⟩
    have hbl := hL.isb hc hlb
    have pm : ∀ (Lx : Lv), lkp Lx 0 = some (.ref 57) → lkp Lx 4 = some (.int (nI j)) → pI (gI 0 (fA 6 1 (lA 0)) (lI 4)) Lx M2 (nI c) := fun Lx q0 q1 => by
      have h9 := pI_gI (t := 0) (L := Lx) (pA_fA (k := 1) (pA_lA q0) l1 rfl) (pI_lI q1) l3 (inb_nI (show j < 1000 by omega) (by decide))
      rw [nI_clamp (by omega), l5 j (by omega), ← ec] at h9
      exact h9
    have elp : lsP a g k c = (decide (c < 100) || hng a g c) := by
      unfold lsP
      rw [← lbS_eq hL hc, decide_eq_true hlb, Bool.true_and]
    refine l_if (v := decide (c < 100) || hng a g c) (pC_or (pC_eq (pC_kI (pI_vS (pR_I (pm _ rfl rfl) pR_0) (sp_zOf hc M2)) pI_cI) ((oEq_nI (a := c / 100) (b := 0) (by omega) (by decide)).trans (decide_eq_decide.mpr (by omega)))) (pC_nz (pI_vV (pR_A (pA_lA rfl) (pR_I (pI_vS (pR_I (pI_eq (pI_vV (pR_A (pA_lA rfl) (pR_I (pm _ rfl rfl) pR_0)) hg.1 (sp_code hg _)) (gAt_nI g hc)) pR_0) (sp_kindOf _ _)) pR_0)) h.k7 (sp_hangs h hO (hcd c hc) hbl)))) (fun hq => ?_) (fun hq => ?_)
    · refine l_retZ (v := false) pI_cI (Or.inl ⟨rfl, rfl, ?_, rfl⟩)
      rw [lsB_no hc (elp.trans hq)]
    · refine wS_nop (Or.inr ⟨by decide, by decide, rfl, rfl, rfl, rfl, by omega, fun i i1 i2 => ?_⟩)
      by_cases e : i = j
      · rw [e, ← ec]; exact elp.trans hq
      · exact j2 i i1 (by omega)
  · rintro L' M2 ⟨rfl, rfl, -, j2⟩
    refine l_retZ (v := true) pI_cI ⟨rfl, ?_, rfl⟩
    rw [lsB_yes fun c hc => ?_]
    by_cases q : lbS g c = some k
    · rw [← lbS_eq hL hc] at q
      obtain ⟨i, i1, i2, i3⟩ := (s5 c hc).mp q
      rw [← i3]
      exact j2 i i1 i2
    · unfold lsP
      rw [decide_eq_false q]
      rfl
theorem sp_isLooseR (h : RSt L xs a M) (hO : OkA a) {y : Nat} (hy : y < 4) {lb : Nat → Option Nat} (hL : LB (cdA (zab a) y) 1000 lb) (hP : PSR a (cdA (zab a) y) 1000 1000 lb M) {k : Nat} (hk : k < 1000) : F_X12_isLoose [.ref 69, .int (nI y), .int (nI k)] M = some (some (.int (bz (lsB a (cdA (zab a) y) k))), M) := by
  obtain ⟨th, bm, fl, ff, p1, p2, p3, p4, p5⟩ := hP
  have hcd : ∀ c, c < 1000 → cOK (zkn a) (cdA (zab a) y c) := fun c hc => hO.av.cd (by omega) hc
  refine wF_eq (wF_b rfl (Nat.le_of_ble_eq_true rfl) ?_)
  refine q_for 1000 (fun j L' M2 => L' = [some (.ref 69), some (.int (nI y)), some (.int (nI k)), some (.int (nI j))] ∧ M2 = M ∧ ∀ i, i < j → lsP a (cdA (zab a) y) k i = false) rfl (a := 0) rfl rfl (by decide) (by decide) ⟨rfl, rfl, fun i hi => absurd hi (Nat.not_lt_zero i)⟩ ?_ ?_ ?_
  · rintro j L' M2 ⟨rfl, -⟩
    rfl
  · rintro j L' M2 hj ⟨rfl, rfl, j2⟩
    have h9 := pI_gI (t := 0) (L := [some (.ref 69), some (.int (nI y)), some (.int (nI k)), some (.int (nI j))]) (pA_fA (k := 22) (pA_lA (i := 0) rfl) p1 rfl) (pI_lI (i := 3) rfl) p2 (inb_nI hj (by decide))
    rw [nI_clamp (by omega), p4 j hj] at h9
    have hlt : ∀ k', lb j = some k' → k' < 1000 := fun k' q => by
      have := lb_lt hL hj q
      have := cn_le 1000 (ldB (cdA (zab a) y))
      omega
    have ekk : oEq (oI (lb j)) (nI k) = decide (lb j = some k) := by
      cases q : lb j with
      | none =>
        rw [show decide ((none : Option Nat) = some k) = false from decide_eq_false (fun q => by cases q)]
        refine decide_eq_false fun q2 => ?_
        have q3 : (-1 : Int32) = nI k := q2
        have := congrArg Int32.toInt q3
        rw [nI_toInt (by omega), show (-1 : Int32).toInt = -1 from rfl] at this
        omega
      | some k' =>
        have := hlt k' q
        refine (oEq_nI (a := k') (b := k) (by omega) (by omega)).trans (decide_eq_decide.mpr ⟨fun q => by rw [q], fun q => by injection q⟩)
    refine l_if (v := lsP a (cdA (zab a) y) k j) ?_ (fun hq => ?_) (fun hq => ?_)
    · unfold lsP
      rw [← lbS_eq hL hj]
      refine pC_andD (pC_eq (pC_kI h9 (pI_lI rfl)) ekk) fun hb => pC_or (pC_eq (pC_kI (pI_lI rfl) pI_cI) (oLt_nI (b := 100) (by omega) (by decide))) ?_
      have hbl := hL.isb hj (of_decide_eq_true hb)
      obtain ⟨e1, e2, -⟩ := lt_ok hO (hcd j hj) hbl
      obtain ⟨-, -, e4, -⟩ := blk_facts hO.1 (hcd j hj) hbl
      have h8 := pI_gI (t := 1) (L := [some (.ref 69), some (.int (nI y)), some (.int (nI k)), some (.int (nI j))]) (pA_fA (k := 6) (pA_lA (i := 0) rfl) p1 rfl) (pI_eq (pI_vV (pR_A (pA_lA (i := 0) rfl) (pR_I (pI_lI (i := 1) rfl) (pR_I (pI_lI (i := 3) rfl) pR_0))) p1 (sp_kindR2 h.1 h.2.2 (by omega) hj)) (e4.trans e2)) h.1.2.1.2.2.2.2 (inb_nI e1 (by decide))
      rw [nI_clamp (by omega)] at h8
      exact pC_kI h8 pI_cI
    · refine l_retZ (v := false) pI_cI (Or.inl ⟨rfl, rfl, ?_, rfl⟩)
      rw [lsB_no hj hq]
    · refine wS_nop (Or.inr ⟨by decide, by decide, rfl, rfl, rfl, rfl, fun i hi => ?_⟩)
      by_cases e : i = j
      · rw [e]; exact hq
      · exact j2 i (by omega)
  · rintro L' M2 ⟨rfl, rfl, j2⟩
    refine l_retZ (v := true) pI_cI ⟨rfl, ?_, rfl⟩
    rw [lsB_yes j2]
end LO
