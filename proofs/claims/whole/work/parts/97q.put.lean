/-! put, face -/
theorem in_kn {k : Int32} {kn : Nat} (hkn : kn ≤ 30) : isIn k 0 (nI kn) = (oEq k 0 || (oGe k 1 && oLe k (nI kn))) := by
  unfold isIn oEq oGe oLe
  rw [← Bool.decide_and, ← Bool.decide_and, ← Bool.decide_or, decide_eq_decide]
  simp only [Int32.le_iff_toInt_le, ← Int32.toInt_inj, nI_toInt (n := kn) (by omega)]
  have e0 : (0 : Int32).toInt = 0 := rfl
  have e1 : (1 : Int32).toInt = 1 := rfl
  omega
theorem in_nat {k : Int32} {kn : Nat} (hkn : kn ≤ 30) (h : isIn k 0 (nI kn) = true) : 0 ≤ k.toInt ∧ k.toInt ≤ kn := by
  simp only [isIn, Bool.and_eq_true, decide_eq_true_eq, Int32.le_iff_toInt_le, nI_toInt (n := kn) (show kn < 2 ^ 31 by omega)] at h
  exact h
theorem sp_isKindC {M : Mm} {kn : Nat} (h7 : M.2.2 7 = kC kn) (k : Int32) : F_X2_isKind [.ref 7, .int k] M = some (some (.int (bz (oGe k 1 && oLe k (nI kn)))), M) :=
  wF_eq (wF_b rfl (Nat.le_of_ble_eq_true rfl) (l_retZ (pI_zI (pC_and (pC_kI (pI_lI rfl) pI_cI) (pC_kI (pI_lI rfl) (pI_fI (k := 5) (pA_lA rfl) h7 rfl)))) ⟨rfl, rfl, rfl⟩))
theorem sp_isKOC {M : Mm} {kn : Nat} (hkn : kn ≤ 30) (h7 : M.2.2 7 = kC kn) (k : Int32) : F_X2_isKindOrOpen [.ref 7, .int k] M = some (some (.int (bz (isIn k 0 (nI kn)))), M) := by
  rw [in_kn hkn]
  exact wF_eq (wF_b rfl (Nat.le_of_ble_eq_true rfl) (l_retZ (pI_zI (pC_or (pC_kI (pI_lI rfl) pI_cI) (pC_nz (pI_vV (pR_A (pA_lA rfl) (pR_I (pI_lI rfl) pR_0)) h7 (sp_isKindC h7 k))))) ⟨rfl, rfl, rfl⟩))
theorem sp_isKOR {a : AS} {M : Mm} (ho : RO a M) (k : Int32) : F_X12_isKindOrOpen [.ref 69, .int k] M = some (some (.int (bz (isIn k 0 (nI (zkn a))))), M) := by
  obtain ⟨th, pm, bm, h69⟩ := ho
  exact wF_eq (wF_b rfl (Nat.le_of_ble_eq_true rfl) (l_retZ (pI_vS (pR_I (pI_lI rfl) (pR_I pI_cI (pR_I (pI_fI (k := 1) (pA_lA rfl) h69 rfl) pR_0))) (sp_in _ _ _ _)) ⟨rfl, rfl, rfl⟩))
theorem tn_in {kn : Nat} {v : Int32} (h : cOK kn v) (hne : ¬ v = -1) : 0 ≤ (tn v).toInt ∧ (tn v).toInt < 24 := by
  rcases h with rfl | rfl | ⟨h1, h2⟩
  · exact absurd rfl hne
  · decide
  · unfold tn
    rw [rmI (n := 24) rfl (by omega)]
    omega
theorem kd_in {kn : Nat} {v : Int32} (hkn : kn ≤ 30) (h : cOK kn v) (hne : ¬ v = -1) : 0 ≤ (kd v).toInt ∧ (kd v).toInt ≤ kn := by
  rcases h with rfl | rfl | ⟨h1, h2⟩
  · exact absurd rfl hne
  · exact ⟨by decide, by show (0 : Int) ≤ kn; omega⟩
  · unfold kd
    rw [dvI (n := 24) rfl (by decide) (by omega)]
    omega
theorem cdf_ok {kn : Nat} {k t : Int32} (hkn : kn ≤ 30) (h1 : 0 ≤ k.toInt) (h2 : k.toInt ≤ kn) (h3 : 0 ≤ t.toInt) (h4 : t.toInt < 24) : cOK kn (cdf k t) ∧ codeOk (cdf k t) := by
  unfold cdf
  by_cases e : oEq k 0 = true
  · rw [if_pos e]
    exact ⟨Or.inr (Or.inl rfl), by decide, by decide⟩
  · rw [if_neg e]
    have hk : ¬ k = 0 := fun q => e (decide_eq_true q)
    have hk0 : ¬ k.toInt = 0 := fun q => hk (Int32.toInt_inj.mp q)
    have := code_int h1 (by omega) h3 h4
    refine ⟨Or.inr (Or.inr ⟨?_, ?_⟩), ?_, ?_⟩ <;> rw [this] <;> omega
theorem cOK_code {kn : Nat} {v : Int32} (hkn : kn ≤ 30) (h : cOK kn v) (hne : ¬ v = -1) : codeOk v := by
  rcases h with rfl | rfl | ⟨h1, h2⟩
  · exact absurd rfl hne
  · exact ⟨by decide, by decide⟩
  · exact ⟨by omega, by omega⟩
theorem OkA.set {a : AS} {nl' nr' : Nat} {ab' : AB} (h : OkA a) (hv : AV (zkn a) ab') : OkA (zSet a nl' nr' ab') := ⟨h.1, h.2.1, h.2.2.1, h.2.2.2.1, h.2.2.2.2.1, hv⟩
theorem OkA.av {a : AS} (h : OkA a) : AV (zkn a) (zab a) := h.2.2.2.2.2
theorem AV.set {kn : Nat} {ab : AB} (h : AV kn ab) {k x : Nat} {c : Nat → Int32} (hc : ∀ w, w < 10 → cOK kn (c w)) : AV kn (aSet k x c ab) := fun i y u hi hy hu => by
  show cOK kn (if i = k ∧ y = x then c u else aat ab i y u)
  split
  · exact hc u hu
  · exact h i y u hi hy hu
theorem OkA.ch {a : AS} (h : OkA a) {y c : Nat} {v : Int32} (hy : y < 16) (hc : c < 1000) (hv : cOK (zkn a) v) : OkA (zch y c v a) := by
  unfold zch
  split
  · refine h.set (h.av.set fun w hw => ?_)
    split
    · exact hv
    · exact h.av _ _ _ (by omega) (by omega) hw
  · exact h
theorem zch_le (y c : Nat) (v : Int32) (a : AS) : znl (zch y c v a) + znr (zch y c v a) ≤ znl a + znr a + 2 := by
  unfold zch
  split
  · show znl a + b2n _ + (znr a + b2n _) ≤ _
    unfold b2n
    split <;> split <;> omega
  · omega
theorem zch_kn (y c : Nat) (v : Int32) (a : AS) : zkn (zch y c v a) = zkn a := by
  unfold zch
  split <;> rfl
def cNat (z x w : Int32) : Nat := 100 * z.toNatClampNeg + 10 * x.toNatClampNeg + w.toNatClampNeg
def puS (y z x w k : Int32) (a : AS) : Int32 × AS := if thV (zab a) y z x w = 0 then (if isIn k 0 (nI (zkn a)) = true then (0, zch y.toNatClampNeg (cNat z x w) (cdf k (tn (cdA (zab a) y.toNatClampNeg (cNat z x w)))) a) else (6, a)) else (thV (zab a) y z x w, a)
theorem thV_ge (ab : AB) (y z x w : Int32) : oGt (refuA ab y.toNatClampNeg z x w) 0 = oNe (refuA ab y.toNatClampNeg z x w) 0 := by
  unfold refuA
  repeat' split
  all_goals rfl
/-- a place that is there, in numbers -/
theorem thV_yes {a : AS} {y z x w : Int32} (h : thV (zab a) y z x w = 0) : ∃ yn zn xn wn, yn < 4 ∧ zn < 10 ∧ xn < 10 ∧ wn < 10 ∧ y = nI yn ∧ z = nI zn ∧ x = nI xn ∧ w = nI wn ∧ ¬ aat (zab a) (10 * yn + zn) xn wn = -1 ∧ y.toNatClampNeg = yn ∧ cNat z x w = 100 * zn + 10 * xn + wn ∧ ¬ cdA (zab a) yn (100 * zn + 10 * xn + wn) = -1 := by
  obtain ⟨yn, hy, rfl, e2⟩ := thV_0 h
  obtain ⟨zn, xn, wn, hz, hx, hw, rfl, rfl, rfl, -, -, hne⟩ := refuA_0 e2
  refine ⟨yn, zn, xn, wn, hy, hz, hx, hw, rfl, rfl, rfl, rfl, hne, nI_clamp (by omega), ?_, ?_⟩
  · unfold cNat
    rw [nI_clamp (by omega), nI_clamp (by omega), nI_clamp (by omega)]
  · rw [cdA_at _ hx hw]; exact hne
theorem RSt.bt {L : Nat} {xs : Nat → Int32} {a : AS} {M M' : Mm} (h : But [69, 75, 77, 78, 79, 80, 81, 82] M M') : ROn M M' := h.ron (by decide)
theorem pA_kinds {L : Nat} {xs : Nat → Int32} {a : AS} {M : Mm} {Lc : Lv} (h : CCo L xs a M) (h0 : lkp Lc 0 = some (.ref 5)) : pA (fA 10 1 (lA 0)) Lc M (some 7) := pA_fA (pA_lA h0) h.o5 rfl
theorem CCo.k7 {L : Nat} {xs : Nat → Int32} {a : AS} {M : Mm} (h : CCo L xs a M) : M.2.2 7 = kC (zkn a) := h.2.1.1
theorem ok2_put (L : Nat) (xs : Nat → Int32) (y z x w k : Int32) : OK2 (Inv2 L xs) F_X11_put F_X12_put [.int y, .int z, .int x, .int w, .int k] := by
  refine ok2_of (puS y z x w k) (fun a M hO hb h => ?_) (fun a M hO hb h => wF_b rfl (Nat.le_of_ble_eq_true rfl) (r_st h rfl fun M0 h0 s0 => ?_)) (fun a hO => ?_)
  · refine wF_b rfl (Nat.le_of_ble_eq_true rfl) (q_I rfl (pI_vV (pR_A (pA_lA rfl) (pR_I (pI_lI rfl) (pR_I (pI_lI rfl) (pR_I (pI_lI rfl) (pR_I (pI_lI rfl) pR_0))))) h.1.o5 (sp_there h.1 y z x w)) ?_)
    unfold puS
    by_cases e : thV (zab a) y z x w = 0
    · rw [if_pos e]
      refine q_if (v := false) (pC_eq (pC_kI (pI_lI rfl) pI_cI) (by rw [e]; rfl)) (fun q => (by cases q)) (fun _ => ?_)
      refine q_if (pC_not (pC_nz (pI_vV (pR_A (pA_kinds h.1 rfl) (pR_I (pI_lI rfl) pR_0)) h.1.k7 (sp_isKOC hO.1 h.1.k7 k)))) (fun hb2 => ?_) (fun hb2 => ?_)
      · rw [if_neg (by rw [Bool.not_eq_true'] at hb2; rw [hb2]; decide)]
        exact q_ret pI_cI ⟨rfl, rfl, h, COn.rf⟩
      · rw [Bool.not_eq_false'] at hb2
        rw [if_pos hb2]
        obtain ⟨yn, zn, xn, wn, hy, hz, hx, hw, rfl, rfl, rfl, rfl, hne, e1, e2, hne2⟩ := thV_yes e
        rw [e1, e2]
        have hc : 100 * zn + 10 * xn + wn < 1000 := by omega
        have hcv := hO.av.cd (y := yn) (by omega) hc
        have ht := tn_in hcv hne2
        have hk := in_nat hO.1 hb2
        refine q_I rfl (pI_vS (pR_I (pI_lI rfl) (pR_I (pI_lI rfl) (pR_I (pI_lI rfl) pR_0))) (sp_cellOf _ _ _ _)) ?_
        refine q_exP (wV_Vw (pR_A (pA_yard h.1.1 h.1.o5 hy rfl rfl) (pR_I (pI_lI rfl) (pR_I (pI_vS (pR_I (pI_lI rfl) (pR_I (pI_vS (pR_I (pI_vV (pR_A (pA_yard h.1.1 h.1.o5 hy rfl rfl) (pR_I (pI_lI rfl) pR_0)) (h.1.y hy) (sp_codeA h.1 hy hc)) pR_0) (sp_turnOf _ _)) pR_0)) (sp_codeOf _ _ _)) pR_0))) (h.1.y hy)
          ((sp_changeC h hy hc (cdf_ok hO.1 hk.1 hk.2 ht.1 ht.2).2 (by omega)).mono ?_))
        rintro v M' ⟨rfl, g1, g2⟩
        exact ⟨_, rfl, l_ret pI_cI ⟨rfl, rfl, g1, g2.con (by omega)⟩⟩
    · rw [if_neg e]
      refine q_if (v := true) (pC_eq (pC_kI (pI_lI rfl) pI_cI) (decide_eq_true e)) (fun _ => q_ret (pI_lI rfl) ⟨rfl, rfl, h, COn.rf⟩) (fun q => (by cases q))
  · obtain ⟨th, pm, bm, h69⟩ := id h0.2.2
    unfold puS
    refine q_if (pC_not (pC_nz (pI_vS (pR_I (pI_lI rfl) pR_0) (sp_isYardR _ _)))) (fun hb => ?_) (fun hb => ?_)
    · rw [Bool.not_eq_true'] at hb
      have e : thV (zab a) y z x w = -1 := by unfold thV; rw [if_neg (by rw [hb]; decide)]
      rw [if_neg (by rw [e]; decide), e]
      exact q_ret pI_cI ⟨rfl, rfl, h0, s0⟩
    · rw [Bool.not_eq_false'] at hb
      have e : thV (zab a) y z x w = refuA (zab a) y.toNatClampNeg z x w := by unfold thV; rw [if_pos hb]
      have hgt := thV_ge (zab a) y z x w
      rw [e]
      have hy4 : y.toNatClampNeg < 4 ∧ y = nI y.toNatClampNeg := by
        obtain ⟨yn, hy, rfl⟩ := isY_nat hb
        rw [nI_clamp (by omega)]
        exact ⟨hy, rfl⟩
      have sthere := sp_thereR h0.1 h0.2.2 (y := y.toNatClampNeg) (by omega) z x w
      rw [← hy4.2] at sthere
      refine q_I rfl (pI_vV (pR_A (pA_lA rfl) (pR_I (pI_lI rfl) (pR_I (pI_lI rfl) (pR_I (pI_lI rfl) (pR_I (pI_lI rfl) pR_0))))) h69 sthere) ?_
      by_cases e0 : refuA (zab a) y.toNatClampNeg z x w = 0
      · rw [if_pos e0]
        refine q_if (v := false) (pC_eq (pC_kI (pI_lI rfl) pI_cI) (by rw [e0]; rfl)) (fun q => (by cases q)) (fun _ => ?_)
        refine q_if (pC_not (pC_nz (pI_vV (pR_A (pA_lA rfl) (pR_I (pI_lI rfl) pR_0)) h69 (sp_isKOR h0.2.2 k)))) (fun hb2 => ?_) (fun hb2 => ?_)
        · rw [if_neg (by rw [Bool.not_eq_true'] at hb2; rw [hb2]; decide)]
          exact q_ret pI_cI ⟨rfl, rfl, h0, s0⟩
        · rw [Bool.not_eq_false'] at hb2
          rw [if_pos hb2]
          obtain ⟨yn, zn, xn, wn, hy, hz, hx, hw, rfl, rfl, rfl, rfl, hne, e1, e2, hne2⟩ := thV_yes (e.trans e0)
          rw [e1, e2]
          have hcv := hO.av.cd (y := yn) (c := 100 * zn + 10 * xn + wn) (by omega) (by omega)
          have ht := tn_in hcv hne2
          have hk := in_nat hO.1 hb2
          have hkn := hO.1
          obtain ⟨i, ck, ct, hi, p1, d1, d2, d3, d4, -⟩ := sp_cellA h0.1 h0.2.2 (y := yn) (by omega) hz hx hw hne
          have pt := pI_gI (t := 0) (L := (mkL 8 [.ref 69, .int (nI yn), .int (nI zn), .int (nI xn), .int (nI wn), .int k]).set 6 (some (.int (refuA (zab a) yn (nI zn) (nI xn) (nI wn))))) (pA_fA (k := 12) (pA_lA (i := 0) rfl) h69 rfl) (pI_vV (pR_A (pA_lA (i := 0) rfl) (pR_I (pI_lI (i := 1) rfl) (pR_I (pI_lI (i := 2) rfl) (pR_I (pI_lI (i := 3) rfl) (pR_I (pI_lI (i := 4) rfl) pR_0))))) h69 p1) d2 (inb_nI hi (by decide))
          rw [nI_clamp (by omega), d4] at pt
          rw [cdA_at _ hx hw] at ht ⊢
          refine q_Iw rfl (wI_vVw (pR_A (pA_lA rfl) (pR_I (pI_lI rfl) (pR_I (pI_lI rfl) (pR_I (pI_lI rfl) (pR_I (pI_lI rfl) (pR_I (pI_lI rfl) (pR_I pt pR_0))))))) h69 ((sp_changeR h0 hy hz hx hw hne hk.1 (by omega) ht.1 ht.2).mono ?_))
          rintro v M' ⟨rfl, g1, g2⟩
          exact ⟨_, rfl, l_ret pI_cI ⟨rfl, rfl, g1, s0.tr (g2.ron (by decide))⟩⟩
      · rw [if_neg e0]
        exact q_if (v := true) (pC_eq (pC_kI (pI_lI rfl) pI_cI) (hgt.trans (decide_eq_true e0))) (fun _ => q_ret (pI_lI rfl) ⟨rfl, rfl, h0, s0⟩) (fun q => (by cases q))
  · unfold puS
    split
    · rename_i e
      split
      · rename_i hb2
        obtain ⟨yn, zn, xn, wn, hy, hz, hx, hw, rfl, rfl, rfl, rfl, hne, e1, e2, hne2⟩ := thV_yes e
        rw [e1, e2]
        have hc : 100 * zn + 10 * xn + wn < 1000 := by omega
        have hcv := hO.av.cd (y := yn) (by omega) hc
        have ht := tn_in hcv hne2
        have hk := in_nat hO.1 hb2
        exact ⟨hO.ch (by omega) hc (cdf_ok hO.1 hk.1 hk.2 ht.1 ht.2).1, Nat.le_trans (zch_le yn (100 * zn + 10 * xn + wn) (cdf k (tn (cdA (zab a) yn (100 * zn + 10 * xn + wn)))) a) (by omega)⟩
      · exact ⟨hO, Nat.le_add_right _ _⟩
    · exact ⟨hO, Nat.le_add_right _ _⟩
