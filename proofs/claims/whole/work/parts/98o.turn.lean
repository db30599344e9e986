theorem pA_box {L : Nat} {xs : Nat → Int32} {a : AS} {M : Mm} {Lc : Lv} (h : CCo L xs a M) (h0 : lkp Lc 0 = some (.ref 5)) : pA (fA 10 2 (lA 0)) Lc M (some 13) := pA_fA (pA_lA h0) h.o5 rfl
theorem isT_nat {t : Int32} (h : isT t = true) : ∃ n, n < 24 ∧ t = nI n := by
  obtain ⟨h1, h2⟩ := isT_in h
  exact ⟨_, by omega, nI_tn h1⟩
theorem tuA_in {y t : Nat} {a : AS} {n : Nat} (h : hld (zbx a) n = true) : tuA y t a (n + 1) = zch y (tbT t (zbx a) n 3) (tuV y t a n) (tuA y t a n) := by
  unfold tuA
  rw [hlF_succ, if_pos h, mvG_app]
theorem tuA_out {y t : Nat} {a : AS} {n : Nat} (h : hld (zbx a) n = false) : tuA y t a (n + 1) = tuA y t a n := by
  unfold tuA
  rw [hlF_succ, if_neg (by rw [h]; decide), List.append_nil]
theorem tu_bad {y : Nat} {a : AS} {j : Nat} (hj : j < 1000) (h : tuOk y a j = false) : ¬ (List.range 1000).all (tuOk y a) = true := fun q => by
  have := List.all_eq_true.mp q j (List.mem_range.mpr hj)
  rw [h] at this
  cases this
theorem tb_C {L : Nat} {xs : Nat → Int32} {y t : Int32} : CMt L xs F_X11_turnBox [.int y, .int t] (tuS y t) := by
  intro a M hO hb h
  unfold tuS
  refine wF_b rfl (Nat.le_of_ble_eq_true rfl) (q_if (v := !((isY y && isT t) && go t.toNatClampNeg (zbx a))) (pC_eq (pC_orD (pC_or (pC_not (pC_nz (pI_vS (pR_I (pI_lI rfl) pR_0) (sp_isYardC _ _)))) (pC_not (pC_nz (pI_vS (pR_I (pI_lI rfl) pR_0) (sp_isTurn _ _))))) (y := !(go t.toNatClampNeg (zbx a))) fun hq => ?_) (not3 _ _ _)) (fun hb1 => ?_) (fun hb1 => ?_))
  · have ht : isT t = true := by
      have := (Bool.or_eq_false_iff.mp hq).2
      rw [Bool.not_eq_false'] at this
      exact this
    obtain ⟨tn, htn, rfl⟩ := isT_nat ht
    rw [nI_clamp (by omega)]
    exact pC_not (pC_nz (pI_vV (pR_A (pA_box h.1 rfl) (pR_I (pI_lI rfl) pR_0)) h.1.1.2.1 (sp_goes h hO htn)))
  · rw [Bool.not_eq_true'] at hb1
    rw [if_neg (by rw [hb1]; decide)]
    exact q_ret pI_cI ⟨rfl, rfl, h, COn.rf⟩
  rw [Bool.not_eq_false'] at hb1
  rw [if_pos hb1]
  obtain ⟨g0, g3⟩ := Bool.and_eq_true_iff.mp hb1
  obtain ⟨g1, g2⟩ := Bool.and_eq_true_iff.mp g0
  obtain ⟨yn, hy, rfl⟩ := isY_nat g1
  obtain ⟨tn', ht, rfl⟩ := isT_nat g2
  rw [nI_clamp (by omega), nI_clamp (by omega)] at *
  refine q_ex (wV_Vw (pR_A (pA_lA rfl) (pR_I (pI_lI rfl) pR_0)) h.1.o5 ((sp_readBox h hy).mono ?_))
  rintro v M1 ⟨rfl, h1, h2, h3⟩
  have hlen := opL_len yn a
  have h3 : GrC M1 51 (cdA (zab a) yn) (opL yn a) := h3
  have hbig : big = 1000000 := rfl
  refine ⟨rfl, ?_⟩
  -- is each place there?
  refine q_for 1000 (fun j L' M2 => L' = [some (.ref 5), some (.int (nI yn)), some (.int (nI tn')), some (.int (nI j)), none] ∧ M2 = M1 ∧ ∀ i, i < j → tuOk yn a i = true) rfl (a := 0) rfl rfl (by decide) (by decide) ⟨rfl, rfl, fun i hi => absurd hi (Nat.not_lt_zero i)⟩ ?_ ?_ ?_
  · rintro j L' M2 ⟨rfl, -⟩
    rfl
  · rintro j L' M2 hj ⟨rfl, rfl, c3⟩
    refine l_if (v := !(tuOk yn a j)) (pC_eq (pC_and (pC_nz (pI_vV (pR_A (pA_box h1.1 rfl) (pR_I (pI_lI rfl) pR_0)) h1.1.1.2.1 (sp_holdsC h1.1 hj))) (pC_eq (pC_kI (pI_eq (pI_vV (pR_A (pA_grid h1.1 rfl) (pR_I (pI_lI rfl) pR_0)) h3.1 (sp_code h3 _)) (gAt_nI _ hj)) pI_cI) rfl)) ?_) (fun hb2 => ?_) (fun hb2 => ?_)
    · unfold tuOk
      rw [Bool.not_not]
    · rw [Bool.not_eq_true'] at hb2
      have hno := tu_bad hj hb2
      refine l_ret pI_cI (Or.inl ⟨rfl, rfl, ?_, ?_, h2.con (by decide)⟩)
      · rw [if_neg hno]
      · rw [if_neg hno]; exact h1
    · rw [Bool.not_eq_false'] at hb2
      refine wS_nop (Or.inr ⟨by decide, by decide, rfl, rfl, rfl, rfl, fun i hi => ?_⟩)
      by_cases e : i = j
      · rw [e]; exact hb2
      · exact c3 i (by omega)
  rintro L' M2 ⟨rfl, rfl, c3⟩
  have hok : (List.range 1000).all (tuOk yn a) = true := List.all_eq_true.mpr fun i hi => c3 i (List.mem_range.mp hi)
  rw [if_pos hok]
  dsimp only
  refine q_for 1000 (fun j L' M3 => L' = [some (.ref 5), some (.int (nI yn)), some (.int (nI tn')), some (.int (nI j)), none] ∧ CSt L xs (tuA yn tn' a j) M3 ∧ FrH yn M2 M3) rfl (a := 0) rfl rfl (by decide) (by decide) ⟨rfl, h1, fun _ _ _ _ => rfl⟩ ?_ ?_ ?_
  · rintro j L' M3 ⟨rfl, -⟩
    rfl
  · rintro j L' M3 hj ⟨rfl, d1, d2⟩
    have h4 := d2.grid (by omega) h3
    have hfr := tu_from hO hy ht g3 hok (n := j) (by omega)
    have hle := hfr.le
    have hb : zbx (tuA yn tn' a j) = zbx a := hfr.2.2.1
    refine l_if (v := hld (zbx a) j) (pC_nz (pI_vV (pR_A (pA_box d1.1 rfl) (pR_I (pI_lI rfl) pR_0)) d1.1.1.2.1 (by rw [← hb]; exact sp_holdsC d1.1 hj))) (fun hb2 => ?_) (fun hb2 => ?_)
    · have hne : ¬ cdA (zab a) yn j = -1 := fun q => by
        have := c3 j hj
        unfold tuOk at this
        rw [hb2, q] at this
        exact absurd this (by decide)
      obtain ⟨s, hs, es, k1, k2, t1, t2, v1, v2⟩ := tuV_ok hO (show yn < 16 by omega) ht hj hne
      refine l_scp (q_I rfl (pI_eq (pI_vV (pR_A (pA_grid d1.1 rfl) (pR_I (pI_lI rfl) pR_0)) h4.1 (sp_code h4 _)) (gAt_nI _ hj)) ?_)
      have hT : F_X0_turned [.ref 13, .int (nI j), .int (nI tn')] M3 = some (some (.int (nI (tbT tn' (zbx a) j 3))), M3) := by
        rw [← hb]
        exact sp_turned d1 hfr.1 ht hj (by rw [hb]; exact hb2)
      have hAf : F_X8_after [.int (nI tn'), .int (tn (cdA (zab a) yn j))] M3 = some (some (.int (aft (nI tn') (tn (cdA (zab a) yn j)))), M3) := by
        rw [es]
        exact sp_after d1.tab (ts_all tn' ht s hs)
      refine wS_exP (wV_Vw (pR_A (pA_yard d1.1.1 d1.1.o5 hy rfl rfl) (pR_I (pI_vV (pR_A (pA_box d1.1 rfl) (pR_I (pI_lI rfl) (pR_I (pI_lI rfl) pR_0))) d1.1.1.2.1 hT) (pR_I (pI_vS (pR_I (pI_vS (pR_I (pI_lI rfl) pR_0) (sp_kindOf _ _)) (pR_I (pI_vS (pR_I (pI_lI rfl) (pR_I (pI_vS (pR_I (pI_lI rfl) pR_0) (sp_turnOf _ _)) pR_0)) hAf) pR_0)) (sp_codeOf _ _ _)) pR_0))) (d1.1.y hy) ((sp_changeC d1 hy (tbT_ok hO.2.2.1 ht hj hb2 g3).1 v2 (by omega)).mono ?_))
      rintro r M4 ⟨rfl, r1, r2⟩
      refine ⟨_, rfl, Or.inr ⟨by decide, by decide, rfl, rfl, rfl, ?_, d2.tr r2⟩⟩
      rw [tuA_in hb2]
      exact r1
    · refine wS_nop (Or.inr ⟨by decide, by decide, rfl, rfl, rfl, ?_, d2⟩)
      rw [tuA_out hb2]
      exact d1
  · rintro L' M3 ⟨rfl, d1, d2⟩
    exact l_ret (pI_blocks d1.1 (d2.grid (by omega) h3) rfl) ⟨rfl, rfl, d1, (h2.con (by decide)).tr (d2.con (by omega))⟩
theorem oGt_lt {s : Int32} : oGt s 0 = oLt 0 s := rfl
/-- the reference's place along the new axis -/
theorem tb_m {t c k : Nat} {a : AS} (hb : bOK (zbx a)) (hc : c < 1000) (hh : hld (zbx a) c = true) (hk : k < 3) : (if oGt (sgF (nI t) (nI k)) 0 = true then nI (c / stN k % 10 - bxF (zbx a) k) else nI (bxU (zbx a) k - bxF (zbx a) k + 1) - 1 - nI (c / stN k % 10 - bxF (zbx a) k)) = nI (if (!(oGt (sgF (nI t) (nI k)) 0)) = true then bxU (zbx a) k - c / stN k % 10 else c / stN k % 10 - bxF (zbx a) k) := by
  obtain ⟨g1, g2⟩ := (hld_nat hb hc).mp hh k hk
  obtain ⟨-, -, e2, e3⟩ := bx_nat hb hk
  cases oGt (sgF (nI t) (nI k)) 0 with
  | true => rfl
  | false =>
    rw [if_neg (by decide), if_pos (by decide), ← nI_1, Int32.add_sub_cancel, nI_sub (by omega) (by omega)]
    congr 1
    omega
theorem cdf_if (k x : Int32) : cdf k (if oEq k 0 = true then 0 else x) = cdf k x := by
  by_cases q : oEq k 0 = true
  · rw [if_pos q, show k = 0 from of_decide_eq_true q]
    unfold cdf
    rw [if_pos (show oEq 0 0 = true from rfl), if_pos (show oEq 0 0 = true from rfl)]
  · rw [if_neg q]
theorem tb_R {L : Nat} {xs : Nat → Int32} {y t : Int32} : RMt L xs F_X12_turnBox [.int y, .int t] (tuS y t) := by
  intro a M hO hb h
  refine wF_b rfl (Nat.le_of_ble_eq_true rfl) (r_st h rfl fun M0 h0 s0 => ?_)
  have hbig : big = 1000000 := rfl
  have hbx := hO.2.2.1
  obtain ⟨th, pm, bm, h69⟩ := id h0.2.2
  unfold tuS
  refine q_if (pC_eq (pC_or (pC_not (pC_nz (pI_vS (pR_I (pI_lI rfl) pR_0) (sp_isYardR _ _)))) (pC_not (pC_nz (pI_vS (pR_I (pI_lI rfl) pR_0) (sp_isTurnR _ _))))) (not_or_n _ _)) (fun hb1 => ?_) (fun hb1 => ?_)
  · rw [Bool.not_eq_true'] at hb1
    rw [if_neg (by rw [show (isY y && isT t) = false from hb1]; exact fun q => Bool.false_ne_true q)]
    exact q_ret pI_cI ⟨rfl, rfl, h0, s0⟩
  rw [Bool.not_eq_false'] at hb1
  have hb1 : (isY y && isT t) = true := hb1
  rw [hb1, Bool.true_and]
  obtain ⟨g1, g2⟩ := Bool.and_eq_true_iff.mp hb1
  obtain ⟨yn, hy, rfl⟩ := isY_nat g1
  obtain ⟨tn', ht, rfl⟩ := isT_nat g2
  rw [nI_clamp (by omega), nI_clamp (by omega)] at *
  -- does the box go to itself?
  refine q_for 3 (fun j L' M1 => L' = [some (.ref 69), some (.int (nI yn)), some (.int (nI tn')), some (.int (nI j)), none, none, none, none, none, none] ∧ M1 = M0 ∧ ∀ i, i < j → goK tn' (zbx a) i = true) rfl (a := 0) rfl rfl (by decide) (by decide) ⟨rfl, rfl, fun i hi => absurd hi (Nat.not_lt_zero i)⟩ ?_ ?_ ?_
  · rintro j L' M1 ⟨rfl, -⟩
    rfl
  · rintro j L' M1 hj ⟨rfl, rfl, c3⟩
    obtain ⟨a1, a2, a3, a4, -⟩ := ax_all tn' ht j hj
    obtain ⟨e0, e1, e2, e3⟩ := bx_nat hbx hj
    obtain ⟨f0, f1, f2, f3⟩ := bx_nat hbx a2
    have hax := sp_to (M := M1) h0.tab a3
    rw [a1] at hax
    refine l_if (v := !(goK tn' (zbx a) j)) (pC_eq (pC_kI (pI_vV (pR_A (pA_lA rfl) (pR_I (pI_lI rfl) pR_0)) h69 (sp_alongR h0.1 h0.2.2 hbx hj)) (pI_vV (pR_A (pA_lA rfl) (pR_I (pI_vS (pR_I (pI_lI rfl) (pR_I (pI_lI rfl) pR_0)) hax) pR_0)) h69 (sp_alongR h0.1 h0.2.2 hbx a2))) ?_) (fun hb2 => ?_) (fun hb2 => ?_)
    · rw [oNe_not, oEq_nI (by omega) (by omega)]
      unfold goK
      congr 1
      rw [decide_eq_decide]
      omega
    · rw [Bool.not_eq_true'] at hb2
      have hno : ¬ go tn' (zbx a) = true := fun q => by
        rw [go_iff.mp q j hj] at hb2
        cases hb2
      refine l_ret pI_cI (Or.inl ⟨rfl, rfl, ?_, ?_, s0⟩)
      · rw [if_neg hno]
      · rw [if_neg hno]; exact h0
    · rw [Bool.not_eq_false'] at hb2
      refine wS_nop (Or.inr ⟨by decide, by decide, rfl, rfl, rfl, rfl, fun i hi => ?_⟩)
      by_cases e : i = j
      · rw [e]; exact hb2
      · exact c3 i (by omega)
  rintro L' M1 ⟨rfl, rfl, c3⟩
  have g3 : go tn' (zbx a) = true := go_iff.mpr c3
  rw [if_pos g3]
  refine q_ex (wV_Vw (pR_A (pA_lA rfl) (pR_I (pI_lI rfl) pR_0)) h69 ((sp_reads h0 hO.av hy).mono ?_))
  rintro v M2 ⟨rfl, k1, fk, ft, k2, k3, k4⟩
  have h2 := h0.ka k1 (by decide)
  obtain ⟨th', pm', bm', h69'⟩ := id h2.2.2
  refine ⟨rfl, ?_⟩
  have pk : ∀ (Mx : Mm) (b : AS) (Lx : Lv) (j : Nat), RO b Mx → Mx.2.2 85 = aI 0 1000 fk → j < 1000 → lkp Lx 0 = some (.ref 69) → lkp Lx 4 = some (.int (nI j)) → pI (gI 0 (fA 11 19 (lA 0)) (lI 4)) Lx Mx (kR (cdA (zab a) yn j)) := fun Mx b Lx j ho h85 hj q0 q9 => by
    obtain ⟨a1, a2, a3, a4⟩ := ho
    have h9 := pI_gI (t := 0) (L := Lx) (pA_fA (k := 19) (pA_lA q0) a4 rfl) (pI_lI q9) h85 (inb_nI hj (by decide))
    rw [nI_clamp (by omega), (k4 j hj).1] at h9
    exact h9
  have pt : ∀ (Mx : Mm) (b : AS) (Lx : Lv) (j : Nat), RO b Mx → Mx.2.2 86 = aI 0 1000 ft → j < 1000 → ¬ cdA (zab a) yn j = -1 → lkp Lx 0 = some (.ref 69) → lkp Lx 4 = some (.int (nI j)) → pI (gI 0 (fA 11 20 (lA 0)) (lI 4)) Lx Mx (tn (cdA (zab a) yn j)) := fun Mx b Lx j ho h86 hj hne q0 q9 => by
    obtain ⟨a1, a2, a3, a4⟩ := ho
    have h9 := pI_gI (t := 0) (L := Lx) (pA_fA (k := 20) (pA_lA q0) a4 rfl) (pI_lI q9) h86 (inb_nI hj (by decide))
    have hcj := hO.av.cd (y := yn) (by omega) hj
    rw [nI_clamp (by omega), (k4 j hj).2, kR_no hcj, if_neg (show ¬ oEq (cdA (zab a) yn j) (-1) = true from fun q => hne (of_decide_eq_true q))] at h9
    exact h9
  refine q_I rfl pI_cI ?_
  refine q_for 1000 (fun j L' M3 => L' = [some (.ref 69), some (.int (nI yn)), some (.int (nI tn')), some (.int (nI (opF yn a j).length)), some (.int (nI j)), none, none, none, none, none] ∧ M3 = M2 ∧ ∀ i, i < j → tuOk yn a i = true) rfl (a := 0) rfl rfl (by decide) (by decide) ⟨rfl, rfl, fun i hi => absurd hi (Nat.not_lt_zero i)⟩ ?_ ?_ ?_
  · rintro j L' M3 ⟨rfl, -⟩
    rfl
  · rintro j L' M3 hj ⟨rfl, rfl, c4⟩
    have hcj := hO.av.cd (y := yn) (by omega) hj
    refine q_if (v := !(hld (zbx a) j)) (pC_not (pC_nz (pI_vV (pR_A (pA_lA rfl) (pR_I (pI_lI rfl) pR_0)) h69' (sp_isInR h2.1 h2.2.2 hj)))) (fun hb3 => ?_) (fun hb3 => ?_)
    · rw [Bool.not_eq_true'] at hb3
      refine q_cnt (Or.inr ⟨by decide, by decide, rfl, rfl, by rw [opF_skip (by rw [hb3]; rfl)]; rfl, rfl, fun i hi => ?_⟩)
      by_cases e : i = j
      · rw [e]; unfold tuOk; rw [hb3]; rfl
      · exact c4 i (by omega)
    · rw [Bool.not_eq_false'] at hb3
      refine q_if (pC_eq (pC_kI (pk M3 a _ j h2.2.2 k2 hj rfl rfl) pI_cI) (kR_no hcj)) (fun hb4 => ?_) (fun hb4 => ?_)
      · have hno := tu_bad (y := yn) (a := a) hj (by unfold tuOk; rw [hb3, hb4]; rfl)
        refine q_ret pI_cI (Or.inl ⟨rfl, rfl, ?_, ?_, s0.tr (k1.ron (by decide))⟩)
        · rw [if_neg hno]
        · rw [if_neg hno]; exact h2
      · refine l_I rfl (pI_add (pI_lI rfl) (pI_tI (pC_eq (pC_kI (pk M3 a _ j h2.2.2 k2 hj rfl rfl) pI_cI) (kR_gt hcj)) pI_cI pI_cI)) (Or.inr ⟨by decide, by decide, rfl, rfl, ?_, rfl, fun i hi => ?_⟩)
        · rw [opF_succ, List.length_append, hb3, Bool.true_and]
          have hbd : oGt (cdA (zab a) yn j) 0 = blk (cdA (zab a) yn) j := rfl
          rw [hbd]
          cases blk (cdA (zab a) yn) j with
          | true => rw [if_pos rfl, if_pos rfl, nI_1]; rfl
          | false => rw [if_neg (by decide), if_neg (by decide), Int32.add_zero]; rfl
        · by_cases e : i = j
          · rw [e]; unfold tuOk; rw [hb3, hb4]; rfl
          · exact c4 i (by omega)
  rintro L' M3 ⟨rfl, rfl, c4⟩
  have hok : (List.range 1000).all (tuOk yn a) = true := List.all_eq_true.mpr fun i hi => c4 i (List.mem_range.mp hi)
  rw [if_pos hok, opL_F]
  dsimp only
  -- change
  refine q_for 1000 (fun j L' M4 => (∃ x5 x6 x7 x8 x9, L' = [some (.ref 69), some (.int (nI yn)), some (.int (nI tn')), some (.int (nI (opF yn a 1000).length)), some (.int (nI j)), x5, x6, x7, x8, x9]) ∧ RSt L xs (tuA yn tn' a j) M4 ∧ But [69, 75, 77, 78, 79, 80, 81, 82] M3 M4) rfl (a := 0) rfl rfl (by decide) (by decide) ⟨⟨none, none, none, none, none, rfl⟩, h2, But.rf⟩ ?_ ?_ ?_
  · rintro j L' M4 ⟨⟨x5, x6, x7, x8, x9, rfl⟩, -⟩
    rfl
  · rintro j L' M4 hj ⟨⟨x5, x6, x7, x8, x9, rfl⟩, d1, d2⟩
    have hcj := hO.av.cd (y := yn) (by omega) hj
    have hfr := tu_from hO hy ht g3 hok (n := j) (by omega)
    have hbb : zbx (tuA yn tn' a j) = zbx a := hfr.2.2.1
    obtain ⟨th2, pm2, bm2, h692⟩ := id d1.2.2
    have hh : F_X12_isIn [.ref 69, .int (nI j)] M4 = some (some (.int (bz (hld (zbx a) j))), M4) := by rw [← hbb]; exact sp_isInR d1.1 d1.2.2 hj
    have h85 : M4.2.2 85 = aI 0 1000 fk := (d2.2.2 85 (by decide)).trans k2
    have h86 : M4.2.2 86 = aI 0 1000 ft := (d2.2.2 86 (by decide)).trans k3
    refine l_scp (q_if (v := !(hld (zbx a) j)) (pC_not (pC_nz (pI_vV (pR_A (pA_lA rfl) (pR_I (pI_lI rfl) pR_0)) h692 hh))) (fun hb3 => ?_) (fun hb3 => ?_))
    · rw [Bool.not_eq_true'] at hb3
      refine q_cnt (Or.inr ⟨by decide, by decide, rfl, rfl, ⟨_, _, _, _, _, rfl⟩, ?_, d2⟩)
      rw [tuA_out hb3]
      exact d1
    · rw [Bool.not_eq_false'] at hb3
      have hne : ¬ cdA (zab a) yn j = -1 := fun q => by
        have := c4 j hj
        unfold tuOk at this
        rw [hb3, q] at this
        exact absurd this (by decide)
      obtain ⟨s, hs, es, u1, u2, t1, t2, v1, v2⟩ := tuV_ok hO (show yn < 16 by omega) ht hj hne
      have htb := tbT_ok hO.2.2.1 ht hj hb3 g3
      refine q_I rfl pI_cI ?_
      refine q_for 3 (fun k L' M5 => (∃ x7 x8 x9, L' = [some (.ref 69), some (.int (nI yn)), some (.int (nI tn')), some (.int (nI (opF yn a 1000).length)), some (.int (nI j)), some (.int (nI (tbT tn' (zbx a) j k))), some (.int (nI k)), x7, x8, x9]) ∧ M5 = M4) rfl (a := 0) rfl rfl (by decide) (by decide) ⟨⟨_, _, _, rfl⟩, rfl⟩ ?_ ?_ ?_
      · rintro k L' M5 ⟨⟨x7, x8, x9, rfl⟩, -⟩
        rfl
      · rintro k L' M5 hk ⟨⟨x7, x8, x9, rfl⟩, rfl⟩
        obtain ⟨a1, a2, a3, a4, a5⟩ := ax_all tn' ht k hk
        obtain ⟨e0, e1, e2, e3⟩ := bx_nat hbx hk
        obtain ⟨f0, f1, f2, f3⟩ := bx_nat hbx a2
        have q1 := (hld_nat hbx hj).mp hb3 k hk
        have hax := sp_to (M := M5) d1.tab a3
        rw [a1] at hax
        obtain ⟨b0, b1⟩ := d1.1.2.2.1
        rw [hbb] at b0 b1
        refine l_scp (q_assoc (q_I rfl (pI_eq (pI_sub (pI_tI (pC_eq (pC_kI (pI_lI rfl) pI_cI) (oEq_nI (b := 0) (by omega) (by decide))) (pI_eq (pI_div (pI_lI rfl) pI_cI (by decide)) (nI_div (m := 100) rfl (by omega) (by decide) (by decide))) (pI_tI (pC_eq (pC_kI (pI_lI rfl) pI_cI) (oEq_nI (b := 1) (by omega) (by decide))) (pI_eq (pI_rem (pI_eq (pI_div (pI_lI rfl) pI_cI (by decide)) (nI_div (m := 10) rfl (by omega) (by decide) (by decide))) pI_cI (by decide)) (nI_rem rfl (by omega) (by decide) (by decide))) (pI_eq (pI_rem (pI_lI rfl) pI_cI (by decide)) (nI_rem rfl (by omega) (by decide) (by decide))))) (pI_bx (K := 17) rfl h692 rfl b0 rfl hk)) (y := nI (j / stN k % 10 - bxF (zbx a) k)) ?_) (q_I rfl (pI_vS (pR_I (pI_lI rfl) (pR_I (pI_lI rfl) pR_0)) hax) ?_)))
        · rw [e0]
          rcases (show k = 0 ∨ k = 1 ∨ k = 2 by omega) with rfl | rfl | rfl
          · rw [show j / stN 0 % 10 = j / 100 by show j / 100 % 10 = j / 100; omega] at q1 ⊢
            exact nI_sub q1.1 (by omega)
          · rw [show j / stN 1 % 10 = j / 10 % 10 from rfl] at q1 ⊢
            exact nI_sub q1.1 (show j / 10 % 10 < 2 ^ 31 by omega)
          · rw [show j / stN 2 % 10 = j % 10 by show j / 1 % 10 = j % 10; rw [Nat.div_one]] at q1 ⊢
            exact nI_sub q1.1 (show j % 10 < 2 ^ 31 by omega)
        · refine q_I rfl (pI_add (pI_bx (K := 17) rfl h692 rfl b0 rfl a2) (pI_eq (pI_tI (pC_kI (pI_vS (pR_I (pI_lI rfl) (pR_I (pI_lI rfl) pR_0)) (sp_sign d1.tab a4)) pI_cI) (pI_lI rfl) (pI_sub (pI_sub (pI_eq (pI_vV (pR_A (pA_lA rfl) (pR_I (pI_lI rfl) pR_0)) h692 (sp_alongR d1.1 d1.2.2 (by rw [hbb]; exact hbx) hk)) (by rw [hbb])) pI_cI) (pI_lI rfl))) (tb_m hbx hj hb3 hk))) ?_
          refine l_I rfl (pI_eq (pI_add (pI_lI rfl) (pI_tI (pC_eq (pC_kI (pI_lI rfl) pI_cI) (oEq_nI (b := 0) (by omega) (by decide))) (pI_mul pI_cI (pI_lI rfl)) (pI_tI (pC_eq (pC_kI (pI_lI rfl) pI_cI) (oEq_nI (b := 1) (by omega) (by decide))) (pI_mul pI_cI (pI_lI rfl)) (pI_lI rfl)))) ?_) (Or.inr ⟨by decide, by decide, rfl, rfl, ⟨_, _, _, rfl⟩, rfl⟩)
          have e : tbT tn' (zbx a) j (k + 1) = tbT tn' (zbx a) j k + stN (axN tn' k) * tbH tn' (zbx a) j k := rfl
          rw [e, f0, a5, Bool.not_not, nI_add]
          rcases (show axN tn' k = 0 ∨ axN tn' k = 1 ∨ axN tn' k = 2 by omega) with p | p | p
          · rw [show stN (axN tn' k) = 100 by rw [p]; rfl, if_pos (decide_eq_true p), show (100 : Int32) = nI 100 from rfl, nI_mul rfl, nI_add]
            rfl
          · rw [show stN (axN tn' k) = 10 by rw [p]; rfl, if_neg (by rw [p]; decide), if_pos (decide_eq_true p), show (10 : Int32) = nI 10 from rfl, nI_mul rfl, nI_add]
            rfl
          · rw [show stN (axN tn' k) = 1 by rw [p]; rfl, if_neg (by rw [p]; decide), if_neg (by rw [p]; decide), Nat.one_mul, nI_add]
            rfl
      · rintro L' M5 ⟨⟨x7, x8, x9, rfl⟩, rfl⟩
        obtain ⟨th5, pm5, bm5, h695⟩ := id d1.2.2
        have hnb : ¬ cdA (zab (tuA yn tn' a j)) yn (tbT tn' (zbx a) j 3) = -1 := fun q => by
          have q2 := (hfr.2.2.2.2.1 _ htb.1).mp q
          have := c4 _ htb.1
          unfold tuOk at this
          rw [htb.2, q2] at this
          exact absurd this (by decide)
        have hkk : kR (cdA (zab a) yn j) = kd (cdA (zab a) yn j) := by
          rcases kR_cs hcj with ⟨e, -⟩ | ⟨e, e2⟩ | ⟨-, -, e, -⟩
          · exact absurd e hne
          · rw [e]; rfl
          · exact e
        have htt : 0 ≤ (if oEq (kd (cdA (zab a) yn j)) 0 = true then 0 else aft (nI tn') (tn (cdA (zab a) yn j))).toInt ∧ (if oEq (kd (cdA (zab a) yn j)) 0 = true then 0 else aft (nI tn') (tn (cdA (zab a) yn j))).toInt < 24 := by
          split
          · decide
          · rw [es]; exact ⟨t1, t2⟩
        have key := sp_changeAt d1 hy htb.1 hnb u1 u2 htt.1 htt.2
        rw [cdf_if] at key
        have hti : F_X12_times [.ref 69, .int (nI tn'), .int (tn (cdA (zab a) yn j))] M5 = some (some (.int (aft (nI tn') (tn (cdA (zab a) yn j)))), M5) := by
          rw [es]
          exact sp_times d1.tab ht hs
        have pkk := fun (Lx : Lv) q0 q4 => pI_eq (pk M5 _ Lx j d1.2.2 h85 hj q0 q4) hkk
        refine wS_setK rfl (wI_vVw (pR_A (pA_lA rfl) (pR_I (pI_lI rfl) (pR_I (pI_lI rfl) (pR_I (pkk _ rfl rfl) (pR_I (pI_tI (pC_kI (pkk _ rfl rfl) pI_cI) pI_cI (pI_vV (pR_A (pA_lA rfl) (pR_I (pI_lI rfl) (pR_I (pt M5 _ _ j d1.2.2 h86 hj hne rfl rfl) pR_0))) h695 hti)) pR_0))))) h695 (key.mono ?_))
        rintro r M6 ⟨rfl, r1, r2⟩
        refine ⟨_, rfl, Or.inr ⟨by decide, by decide, rfl, rfl, ⟨_, _, _, _, _, rfl⟩, ?_, d2.tr r2⟩⟩
        rw [tuA_in hb3]
        exact r1
  · rintro L' M4 ⟨⟨x5, x6, x7, x8, x9, rfl⟩, d1, d2⟩
    exact l_ret (pI_lI rfl) ⟨rfl, rfl, d1, s0.tr ((k1.ron (by decide)).tr (d2.ron (by decide)))⟩
theorem ok2_turnBox (L : Nat) (xs : Nat → Int32) (y t : Int32) : OK2 (Inv2 L xs) F_X11_turnBox F_X12_turnBox [.int y, .int t] := by
  refine ok2_of (tuS y t) tb_C tb_R (fun a hO => ?_)
  unfold tuS
  split
  · rename_i hb1
    obtain ⟨g0, g3⟩ := Bool.and_eq_true_iff.mp hb1
    obtain ⟨g1, g2⟩ := Bool.and_eq_true_iff.mp g0
    obtain ⟨yn, hy, rfl⟩ := isY_nat g1
    obtain ⟨tn', ht, rfl⟩ := isT_nat g2
    rw [nI_clamp (by omega)] at g3
    split
    · rename_i hok
      dsimp only
      rw [nI_clamp (by omega)] at hok
      rw [nI_clamp (by omega), nI_clamp (by omega)]
      have hfr := tu_from hO hy ht g3 hok (n := 1000) (by omega)
      exact ⟨hfr.1, Nat.le_trans hfr.le (by omega)⟩
    · exact ⟨hO, Nat.le_add_right _ _⟩
  · exact ⟨hO, Nat.le_add_right _ _⟩
