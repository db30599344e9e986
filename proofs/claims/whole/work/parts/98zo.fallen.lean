/-! fallen, which may throw -/
theorem CRow.nw {M M' : Mm} {s : SN} {r : Nat} (hm : M.1 ≤ M'.1) (f : ∀ b, b < M.1 → M'.2.2 b = M.2.2 b) (h : CRow M s r) : CRow M' s r := by
  obtain ⟨h1, h2, h3, h4, cr, h5, h6⟩ := h
  exact ⟨h1, by omega, (f r (by omega)).trans h3, h4, cr, (f _ h2).trans h5, h6⟩
theorem CLay.nw {M M' : Mm} {s : SN} {l : Nat} (hm : M.1 ≤ M'.1) (f : ∀ b, b < M.1 → M'.2.2 b = M.2.2 b) (h : CLay M s l) : CLay M' s l := by
  obtain ⟨h1, h2, h3, gl, h4, h5⟩ := h
  exact ⟨h1, by omega, (f l (by omega)).trans h3, gl, (f _ h2).trans h4, fun x hx => ⟨(h5 x hx).1, fun r hr => ((h5 x hx).2 r hr).nw hm f⟩⟩
theorem CRep.nw {M M' : Mm} {s : SN} {nl nr : Nat} (h97 : 97 ≤ M.1) (hm : M.1 ≤ M'.1) (f : ∀ b, b < M.1 → M'.2.2 b = M.2.2 b) (h : CRep M s nl nr) : CRep M' s nl nr := by
  obtain ⟨h1, h2, h3, h4⟩ := h
  refine ⟨fun h hh => ?_, fun k l hk hl => (h2 k l hk hl).nw hm f, (f 6 (by omega)).trans h3, h4⟩
  obtain ⟨fl, g1, g2⟩ := h1 h hh
  have := LA_lt hh
  exact ⟨fl, (f _ (by omega)).trans g1, g2⟩
section FA
variable {L : Nat} {xs : Nat → Int32} {M : Mm} {a : AS}
/-- an object more, of a throw -/
theorem CSt.thr (h : CSt L xs a M) (hL : L % 1024 < 1023) : CSt (L + 1) xs a (newC M 6 opq) := by
  have m1 := h.1.2.2.2.2.2.2.1
  have h97 : 97 ≤ M.1 := by omega
  have s : ∀ b, b < M.1 → (newC M 6 opq).2.2 b = M.2.2 b := fun b hb => new_ne (by omega)
  have e1 : (L + 1) / 1024 = L / 1024 := by omega
  have e2 : (L + 1) % 1024 = L % 1024 + 1 := by omega
  obtain ⟨⟨a1, ⟨k0, k1, k2, k3, k4, k5⟩, ⟨b0, b1⟩, c, ⟨d0, d1, d2⟩, ⟨sc, r1, r2⟩, g1, g2⟩, ⟨v1, q1⟩, ⟨v2, q2⟩, ⟨v3, q3⟩, ⟨v4, q4⟩, q5, ⟨f6, q6⟩⟩ := h
  have n2 : (newC M 6 opq).2.1 = M.2.1 + 6 := rfl
  refine ⟨⟨?_, ⟨(s _ (by omega)).trans k0, (s _ (by omega)).trans k1, (s _ (by omega)).trans k2, (s _ (by omega)).trans k3, (s _ (by omega)).trans k4, (s _ (by omega)).trans k5⟩, ⟨(s _ (by omega)).trans b0, (s _ (by omega)).trans b1⟩, (s _ (by omega)).trans c, ⟨(s _ (by omega)).trans d0, (s _ (by omega)).trans d1, (s _ (by omega)).trans d2⟩, ⟨sc, r1.nw h97 (by rw [new_1]; omega) s, r2⟩, ?_, ?_⟩, ⟨v1, (s _ (by omega)).trans q1⟩, ⟨v2, (s _ (by omega)).trans q2⟩, ⟨v3, (s _ (by omega)).trans q3⟩, ⟨v4, (s _ (by omega)).trans q4⟩, fun b hb => ?_, ⟨f6, (s _ (by omega)).trans q6⟩⟩
  · rw [e1]
    refine a1.fr fun b hb => s b ?_
    simp only [fFx, Bool.or_eq_true, Bool.and_eq_true, decide_eq_true_eq, beq_iff_eq] at hb
    omega
  · rw [new_1, g1, e2, ← Nat.add_assoc]
  · rw [n2, e2]
    omega
  · obtain ⟨k, hk⟩ := q5 b hb
    have all : ∀ b ∈ [52, 53, 55, 56, 58, 59, 61, 63, 65, 66], b < 97 := by decide
    exact ⟨k, (s b (by have := all b hb; omega)).trans hk⟩
theorem RSt.thr (h : RSt L xs a M) (hL : L % 1024 < 1023) : RSt (L + 1) xs a M := by
  have e1 : (L + 1) / 1024 = L / 1024 := by omega
  obtain ⟨⟨a1, a2⟩, h2, h3⟩ := h
  refine ⟨⟨fun b hb => ?_, a2⟩, h2, h3⟩
  rw [e1]
  exact a1 b hb
theorem CSt.o96 {c : MC} (h : CSt L xs a M) : CSt L xs a (setC M 96 c) := by
  refine ⟨CCo.fr (M := M) rfl rfl (fun b _ hb => get_ne (by omega)) h.1, ?_⟩
  obtain ⟨⟨v1, q1⟩, ⟨v2, q2⟩, ⟨v3, q3⟩, ⟨v4, q4⟩, q5, ⟨f6, q6⟩⟩ := h.2
  refine ⟨⟨v1, (get_ne (by decide)).trans q1⟩, ⟨v2, (get_ne (by decide)).trans q2⟩, ⟨v3, (get_ne (by decide)).trans q3⟩, ⟨v4, (get_ne (by decide)).trans q4⟩, fun b hb => ?_, ⟨f6, (get_ne (by decide)).trans q6⟩⟩
  obtain ⟨k, hk⟩ := q5 b hb
  have all : ∀ b ∈ [52, 53, 55, 56, 58, 59, 61, 63, 65, 66], b ≠ 96 := by decide
  exact ⟨k, (get_ne (all b hb)).trans hk⟩
theorem RSt.o96 {c : MC} (h : RSt L xs a M) : RSt L xs a (setC M 96 c) := by
  obtain ⟨h1, ⟨h2, ⟨f3, h3⟩, ⟨f4, h4⟩, ⟨f5, h5⟩⟩, ⟨th, pm, bm, h6⟩⟩ := h
  refine ⟨RCo.fr (M := M) (fun b _ hb => get_ne (by omega)) h1, ⟨fun b hb => ?_, ⟨f3, (get_ne (by decide)).trans h3⟩, ⟨f4, (get_ne (by decide)).trans h4⟩, ⟨f5, (get_ne (by decide)).trans h5⟩⟩, ⟨th, pm, bm, (get_ne (by decide)).trans h6⟩⟩
  obtain ⟨k, hk⟩ := h2 b hb
  have all : ∀ b ∈ [85, 86, 88, 89, 90, 93, 94, 95], b ≠ 96 := by decide
  exact ⟨k, (get_ne (all b hb)).trans hk⟩
/-- whether there is such a fall -/
def fnB (a : AS) (k w : Int32) : Bool := (isIn k 0 59 && oLt k (nI (zfe a))) && isIn w 0 1
def fnV (a : AS) (k w : Int32) : Int32 := if oEq w 0 = true then zfl a 0 k.toNatClampNeg else zfl a 1 k.toNatClampNeg
theorem fnB_k {k w : Int32} (h : fnB a k w = true) : ∃ n, n < 60 ∧ k = nI n := by
  unfold fnB isIn at h
  simp only [Bool.and_eq_true, decide_eq_true_eq, Int32.le_iff_toInt_le] at h
  have h1 : 0 ≤ k.toInt := h.1.1.1
  have h2 : k.toInt ≤ 59 := h.1.1.2
  exact ⟨k.toInt.toNat, by omega, nI_tn h1⟩
theorem fnB_iff (k w : Int32) : fnB a k w = true ↔ ¬ (k < 0 ∨ nI (zfe a) ≤ k ∨ 60 ≤ k ∨ w < 0 ∨ 1 < w) := by
  unfold fnB isIn oLt
  simp only [Bool.and_eq_true, decide_eq_true_eq, Int32.le_iff_toInt_le, Int32.lt_iff_toInt_lt]
  have e0 : (0 : Int32).toInt = 0 := rfl
  have e1 : (1 : Int32).toInt = 1 := rfl
  have e59 : (59 : Int32).toInt = 59 := rfl
  have e60 : (60 : Int32).toInt = 60 := rfl
  rw [e0, e1, e59, e60]
  omega
theorem sp_fallenC (h : CSt L xs a M) {k w : Int32} (hb : fnB a k w = true) : F_X11_fallen [.ref 5, .int k, .int w] M = some (some (.int (fnV a k w)), M) := by
  obtain ⟨h5, h67, h68⟩ := h.1.2.2.2.2.1
  have hn := (fnB_iff k w).mp hb
  obtain ⟨n, hn60, rfl⟩ := fnB_k hb
  have e13 : (fsCv (zfe a))[13]? = some (.int (nI (zfe a))) := rfl
  have c1 : oLt (nI n) 0 = false := decide_eq_false fun q => hn (Or.inl q)
  have c2 : oGe (nI n) (nI (zfe a)) = false := decide_eq_false fun q => hn (Or.inr (Or.inl q))
  have c3 : oGe (nI n) 60 = false := decide_eq_false fun q => hn (Or.inr (Or.inr (Or.inl q)))
  have c4 : oLt w 0 = false := decide_eq_false fun q => hn (Or.inr (Or.inr (Or.inr (Or.inl q))))
  have c5 : oGt w 1 = false := decide_eq_false fun q => hn (Or.inr (Or.inr (Or.inr (Or.inr q))))
  have g0 := pI_gI (t := 0) (M := M) (L := mkL 3 [.ref 5, .int (nI n), .int w]) (pA_fA (k := 11) (pA_lA (i := 0) rfl) h5 rfl) (pI_lI (i := 1) rfl) h67 (inb_nI hn60 (by decide))
  have g1 := pI_gI (t := 0) (M := M) (L := mkL 3 [.ref 5, .int (nI n), .int w]) (pA_fA (k := 12) (pA_lA (i := 0) rfl) h5 rfl) (pI_lI (i := 1) rfl) h68 (inb_nI hn60 (by decide))
  refine wF_eq (wF_b rfl (Nat.le_of_ble_eq_true rfl) (q_if (v := false) (pC_eq (pC_or (pC_or (pC_or (pC_or (pC_kI (pI_lI rfl) pI_cI) (pC_kI (pI_lI rfl) (pI_fI (pA_lA rfl) h5 e13))) (pC_kI (pI_lI rfl) pI_cI)) (pC_kI (pI_lI rfl) pI_cI)) (pC_kI (pI_lI rfl) pI_cI)) (by rw [c1, c2, c3, c4, c5]; rfl)) (fun q => by cases q) (fun _ => ?_)))
  exact l_ret (pI_tI (pC_kI (pI_lI rfl) pI_cI) g0 g1) ⟨rfl, rfl, rfl⟩
theorem sp_fallenR (h : RSt L xs a M) (hO : OkA a) (k w : Int32) : wF F_X12_fallen [.ref 69, .int k, .int w] M fun v M' => v = some (.int (if fnB a k w = true then fnV a k w else 0)) ∧ RSt L xs a M' ∧ ROn M M' ∧ ∃ pm bm, M'.2.2 69 = .inr (11, fsRv (if fnB a k w = true then 0 else 1) (zkn a) (znl a) (znr a) pm (zfe a) bm) := by
  obtain ⟨th, pm, bm, h69⟩ := id h.2.2
  have e26 : ∀ th, (fsRv th (zkn a) (znl a) (znr a) pm (zfe a) bm)[26]? = some (.int (nI (zfe a))) := fun _ => rfl
  refine wF_b rfl (Nat.le_of_ble_eq_true rfl) (q_pf (pA_lA rfl) (pI_tI (b := fnB a k w) (pC_and (pC_and (pC_nz (pI_vS (pR_I (pI_lI rfl) (pR_I pI_cI (pR_I pI_cI pR_0))) (sp_in _ _ _ _))) (pC_kI (pI_lI rfl) (pI_fI (pA_lA rfl) h69 (e26 _)))) (pC_nz (pI_vS (pR_I (pI_lI rfl) (pR_I pI_cI (pR_I pI_cI pR_0))) (sp_in _ _ _ _)))) pI_cI pI_cI) h69 (Nat.le_of_ble_eq_true rfl) ?_)
  obtain ⟨M1, hM1⟩ : ∃ M1, M1 = setC M 69 (.inr (11, (fsRv th (zkn a) (znl a) (znr a) pm (zfe a) bm).set 0 (.int (if fnB a k w = true then 0 else 1)))) := ⟨_, rfl⟩
  rw [← hM1]
  have n69 : M1.2.2 69 = .inr (11, fsRv (if fnB a k w = true then 0 else 1) (zkn a) (znl a) (znr a) pm (zfe a) bm) := by rw [hM1]; exact get_at
  have h1 : RSt L xs a M1 := by rw [hM1]; exact h.set69
  have s1 : ROn M M1 := by rw [hM1]; exact ron_set (by decide) (by decide)
  have e0 : ∀ th, (fsRv th (zkn a) (znl a) (znr a) pm (zfe a) bm)[0]? = some (.int th) := fun _ => rfl
  obtain ⟨h91, h92⟩ := h1.1.2.2.2.2.1
  cases hb : fnB a k w with
  | false =>
    rw [hb] at n69
    refine q_if (v := true) (pC_eq (pC_kI (pI_fI (pA_lA rfl) n69 (e0 _)) pI_cI) rfl) (fun _ => ?_) (fun q => by cases q)
    exact q_ret pI_cI ⟨rfl, rfl, h1, s1, pm, bm, n69⟩
  | true =>
    rw [hb] at n69
    obtain ⟨n, hn60, rfl⟩ := fnB_k hb
    refine q_if (v := false) (pC_eq (pC_kI (pI_fI (pA_lA rfl) n69 (e0 _)) pI_cI) rfl) (fun q => by cases q) (fun _ => ?_)
    have g0 := pI_gI (t := 0) (M := M1) (L := mkL 3 [.ref 69, .int (nI n), .int w]) (pA_fA (k := 27) (pA_lA (i := 0) rfl) n69 rfl) (pI_lI (i := 1) rfl) h91 (inb_nI hn60 (by decide))
    have g1 := pI_gI (t := 0) (M := M1) (L := mkL 3 [.ref 69, .int (nI n), .int w]) (pA_fA (k := 28) (pA_lA (i := 0) rfl) n69 rfl) (pI_lI (i := 1) rfl) h92 (inb_nI hn60 (by decide))
    exact l_ret (pI_tI (pC_kI (pI_lI rfl) pI_cI) g0 g1) ⟨rfl, rfl, h1, s1, pm, bm, n69⟩
theorem sp_thrown {fs : List Value} {th : Int32} (h69 : M.2.2 69 = .inr (11, fs)) (h0 : fs[0]? = some (.int th)) : F_X12_thrown [.ref 69] M = some (some (.int th), M) := wF_eq (wF_b rfl (Nat.le_of_ble_eq_true rfl) (l_ret (pI_fI (pA_lA rfl) h69 h0) ⟨rfl, rfl, rfl⟩))
end FA
theorem lf_throw {M : Mm} {fe : Nat} {k w : Int32} (h5 : M.2.2 5 = .inr (10, fsCv fe)) (h : k < 0 ∨ nI fe ≤ k ∨ 60 ≤ k ∨ w < 0 ∨ 1 < w) : F_L_fallen [.ref 5, .int k, .int w, .ref 96] M = some (some (.int 1), newC M 6 opq) := by
  show (rdF 10 13 5 M).bind _ = _
  rw [rdF_of h5 (v := .int (nI fe)) rfl]
  exact if_pos h
theorem lf_value {M : Mm} {fe : Nat} {k w x : Int32} {f : Nat → Int64} (h5 : M.2.2 5 = .inr (10, fsCv fe)) (h : ¬ (k < 0 ∨ nI fe ≤ k ∨ 60 ≤ k ∨ w < 0 ∨ 1 < w)) (h96 : M.2.2 96 = aJ 1 f) (hv : F_X11_fallen [.ref 5, .int k, .int w] M = some (some (.int x), M)) : F_L_fallen [.ref 5, .int k, .int w, .ref 96] M = some (some (.int 0), setC M 96 (aJ 1 (vp_updL f 0 x.toInt64))) := by
  have hw : wrJ 96 x.toInt64 M = some (setC M 96 (aJ 1 (vp_updL f 0 x.toInt64))) := by
    unfold wrJ
    rw [h96]
    exact if_pos ⟨by decide, by decide, by decide⟩
  show (rdF 10 13 5 M).bind _ = _
  rw [rdF_of h5 (v := .int (nI fe)) rfl]
  refine (if_neg h).trans ?_
  rw [hv]
  show (wrJ 96 x.toInt64 M).map _ = _
  rw [hw]
  rfl
theorem okf_fallen (L : Nat) (xs : Nat → Int32) (k w : Int32) : OKf (Inv3 L xs) k w := by
  rintro n M hn ⟨T, hT, hT2, a, h1, h2, h3, ⟨f, h4⟩, h5⟩
  have w5 := h2.1.o5
  have g0 := h2.1.1.1
  obtain ⟨th, pm, bm, h69⟩ := id h3.2.2
  have m1 := h2.1.2.2.2.2.2.2.1
  by_cases hb : fnB a k w = true
  · have hv := sp_fallenC h2 hb
    refine wF_of (lf_value w5 ((fnB_iff k w).mp hb) h4 hv) ⟨0, _, rfl, get_ne (by decide), ⟨_, (get_ne (by decide)).trans h69⟩, get_at, ?_⟩
    refine (sp_fallenR (h3.o96 (c := aJ 1 (vp_updL f 0 (fnV a k w).toInt64))) h1 k w).mono ?_
    rintro v M2 ⟨rfl, r1, r2, pm2, bm2, r3⟩
    rw [if_pos hb] at r3
    refine ⟨_, rfl, ⟨_, r3⟩, wF_of (sp_thrown r3 rfl) ⟨rfl, (r2.2.2 96 (by decide)).trans get_at, fun _ => ?_, T, by omega, hT2, a, h1, h2.o96.ron r2, r1, ⟨_, (r2.2.2 96 (by decide)).trans get_at⟩, by omega⟩⟩
    rw [if_pos hb]
    simp [vp_updL]
  · have hb' : fnB a k w = false := by simpa using hb
    have hth : k < 0 ∨ nI (zfe a) ≤ k ∨ 60 ≤ k ∨ w < 0 ∨ 1 < w := Classical.byContradiction fun q => hb ((fnB_iff k w).mpr q)
    have hmod := lt_mod (L := L) hT2
    have e96 : (newC M 6 opq).2.2 96 = aJ 1 f := (new_ne (by omega)).trans h4
    have c1 := h2.thr (by omega)
    have r0 : RSt (L * 1024 + T) xs a (newC M 6 opq) := h3.con fun b hb => new_ne (by omega)
    refine wF_of (lf_throw w5 hth) ⟨1, f, rfl, new_ne (by omega), ⟨_, (new_ne (by omega)).trans h69⟩, e96, ?_⟩
    refine (sp_fallenR r0 h1 k w).mono ?_
    rintro v M2 ⟨rfl, r1, r2, pm2, bm2, r3⟩
    rw [if_neg hb] at r3
    have eT : L * 1024 + (T + 1) = L * 1024 + T + 1 := (Nat.add_assoc _ _ _).symm
    have hI : Inv2 (L * 1024 + T + 1) xs (n + 1) M2 := ⟨a, h1, c1.ron r2, r1.thr (by omega), ⟨_, (r2.2.2 96 (by decide)).trans e96⟩, by omega⟩
    rw [← eT] at hI
    exact ⟨_, rfl, ⟨_, r3⟩, wF_of (sp_thrown r3 rfl) ⟨rfl, (r2.2.2 96 (by decide)).trans e96, fun q => absurd q (by decide), T + 1, by omega, by omega, hI⟩⟩
