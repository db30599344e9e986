/-! settle -/
theorem se_R {L : Nat} {xs : Nat → Int32} {y : Int32} : RMt L xs F_X12_settle [.int y] (seS y) := by
  intro a M hO hb h
  have hbig : big = 1000000 := rfl
  refine wF_b rfl (Nat.le_of_ble_eq_true rfl) (r_st h rfl fun M0 h0 s0 => ?_)
  unfold seS
  refine q_if (pC_not (pC_nz (pI_vS (pR_I (pI_lI rfl) pR_0) (sp_isYardR _ _)))) (fun hb1 => ?_) (fun hb1 => ?_)
  · rw [Bool.not_eq_true'] at hb1
    rw [if_neg (by rw [hb1]; decide)]
    exact q_ret pI_cI ⟨rfl, rfl, h0, s0⟩
  rw [Bool.not_eq_false'] at hb1
  rw [if_pos hb1]
  obtain ⟨yn, hy, rfl⟩ := isY_nat hb1
  rw [nI_clamp (by omega)]
  have hy16 : yn < 16 := by omega
  obtain ⟨th, pm, bm, h69⟩ := id h0.2.2
  obtain ⟨a1, ha1⟩ : ∃ a1, a1 = zFe a 0 (zfl a) := ⟨_, rfl⟩
  rw [← ha1]
  dsimp only
  have hO1 : OkA a1 := by
    rw [ha1]
    exact ⟨hO.1, hO.2.1, hO.2.2.1, hO.2.2.2.1, Nat.zero_le _, hO.2.2.2.2.2⟩
  obtain ⟨h91, h92⟩ := h0.1.2.2.2.2.1
  refine q_pf (pA_lA rfl) pI_cI h69 (Nat.le_of_ble_eq_true rfl) ?_
  obtain ⟨M1, hM1⟩ : ∃ M1, M1 = setC M0 69 (.inr (11, (fsRv th (zkn a) (znl a) (znr a) pm (zfe a) bm).set 26 (.int 0))) := ⟨_, rfl⟩
  rw [← hM1]
  have b1 : But [69, 91, 92] M0 M1 := by rw [hM1]; exact But.rf.set (by decide)
  have c1 : RSt L xs a1 M1 := by
    rw [ha1]
    exact h0.fe (th := th) (pm := pm) (bm := bm) b1 (by rw [hM1]; exact get_at) (by rw [hM1]; exact (get_ne (by decide)).trans h91) (by rw [hM1]; exact (get_ne (by decide)).trans h92)
  have s1 : ROn M M1 := s0.tr (b1.ron (by decide))
  obtain ⟨th1, pm1, bm1, k69⟩ := id c1.2.2
  have z1 : zfe a1 = 0 := by rw [ha1]; rfl
  have w1 := Wt_le yn a1
  refine q_ex (wV_Vw (pR_A (pA_lA rfl) (pR_I (pI_lI rfl) pR_0)) k69 ((sp_findPartsR c1 hO1 hy).mono ?_))
  rintro v M2 ⟨rfl, c2, s2, lb, hL, hP⟩
  obtain ⟨th2, pm2, bm2, m69⟩ := id c2.2.2
  refine ⟨rfl, q_I rfl (pI_vV (pR_A (pA_lA rfl) (pR_I (pI_lI rfl) pR_0)) m69 (sp_nextR c2 hO1 hy hL hP)) ?_⟩
  refine wS_seq (wS_wh (I := fun m L' M3 => ∃ a' lb, m = Wt yn a' ∧ L' = [some (.ref 69), some (.int (nI yn)), some (.int (oI (nxF a' (cdA (zab a') yn))))] ∧ From2 yn yn a1 a' ∧ zfe a' + Wt yn a' ≤ 9000 ∧ (∃ n, Wt yn a' < n ∧ stS yn 10000 a1 = stS yn n a') ∧ RSt L xs a' M3 ∧ ROn M M3 ∧ LB (cdA (zab a') yn) 1000 lb ∧ PSR a' (cdA (zab a') yn) 1000 1000 lb M3) ?_ (Wt yn a1) _ _ ⟨a1, lb, rfl, rfl, From2.rf hO1, by omega, ⟨10000, by omega, rfl⟩, c2, s1.tr s2, hL, hP⟩ (by omega))
  rintro m L' M3 ⟨a', lb, rfl, rfl, f1, f3, ⟨n, f4, f5⟩, f6, f7, hL, hP⟩
  obtain ⟨th3, pm3, bm3, n69⟩ := id f6.2.2
  cases q : nxF a' (cdA (zab a') yn) with
  | none =>
    refine wC_p (pC_eq (y := false) (pC_kI (pI_lI rfl) pI_cI) rfl) ⟨fun _ => ⟨fun _ => ?_, fun t => absurd rfl t⟩, fun t => by cases t⟩
    have e : stS yn 10000 a1 = a' := by rw [f5, stS_none q]
    rw [e]
    exact l_ret (pI_fI (pA_lA rfl) n69 rfl) ⟨rfl, rfl, f6, f7⟩
  | some k =>
    obtain ⟨q1, q2, q3⟩ := nxP_some q
    have hcn := cn_le 1000 (ldB (cdA (zab a') yn))
    have hst := stO_lt (cdA (zab a') yn) k
    have hW := Wt_fall (y := yn) (a := a') hy16 q1 q3
    have hz := zfe_fall yn k a'
    have hF2 : From2 yn yn a1 (flS yn a' k) := fl_From f1 hy16 (by omega)
    refine wC_p (pC_eq (y := true) (pC_kI (pI_lI rfl) pI_cI) (oI_isS (some k) fun k' t => by cases t; omega)) ⟨fun t => (by cases t), fun _ => ?_⟩
    refine q_ex (wV_Vw (pR_A (pA_lA rfl) (pR_I (pI_lI rfl) (pR_I (pI_lI rfl) (pR_I (pI_vV (pR_A (pA_lA rfl) (pR_I (pI_lI rfl) (pR_I (pI_lI rfl) pR_0))) n69 (sp_fallsR f6 f1.1 hy hL hP q1)) pR_0)))) n69 ((sp_fallR f6 hy f1 (by omega) hL hP q1 q3).mono ?_))
    rintro v M4 ⟨rfl, c4, s4⟩
    obtain ⟨th4, pm4, bm4, o69⟩ := id c4.2.2
    refine ⟨rfl, q_ex (wV_Vw (pR_A (pA_lA rfl) (pR_I (pI_lI rfl) pR_0)) o69 ((sp_findPartsR c4 hF2.1 hy).mono ?_))⟩
    rintro v M5 ⟨rfl, c5, s5, lb5, hL5, hP5⟩
    obtain ⟨th5, pm5, bm5, p69⟩ := id c5.2.2
    refine ⟨rfl, l_I rfl (pI_vV (pR_A (pA_lA rfl) (pR_I (pI_lI rfl) pR_0)) p69 (sp_nextR c5 hF2.1 hy hL5 hP5)) ⟨fun t => absurd t (by decide), fun t => absurd t (by decide), fun _ _ => wS_nop ⟨rfl, Wt yn (flS yn a' k), by omega, flS yn a' k, lb5, rfl, rfl, hF2, by omega, ⟨n - 1, by omega, ?_⟩, c5, (f7.tr s4).tr s5, hL5, hP5⟩⟩⟩
    rw [f5, show n = (n - 1) + 1 by omega, stS_some q]
    rfl
theorem ok2_settle (L : Nat) (xs : Nat → Int32) (y : Int32) : OK2 (Inv2 L xs) F_X11_settle F_X12_settle [.int y] := by
  refine ok2_of (seS y) se_C se_R (fun a hO => ?_)
  unfold seS
  split
  · rename_i hb1
    obtain ⟨yn, hy, rfl⟩ := isY_nat hb1
    dsimp only
    rw [nI_clamp (by omega)]
    have hO1 : OkA (zFe a 0 (zfl a)) := ⟨hO.1, hO.2.1, hO.2.2.1, hO.2.2.2.1, Nat.zero_le _, hO.2.2.2.2.2⟩
    have hw := Wt_le yn (zFe a 0 (zfl a))
    have hfr := stS_ok (y := yn) (by omega) 10000 (zFe a 0 (zfl a)) (From2.rf hO1) (by show 0 + _ ≤ _; omega)
    have hle := hfr.le
    exact ⟨hfr.1, Nat.le_trans hle (by show znl a + znr a + 220 ≤ _; omega)⟩
  · exact ⟨hO, Nat.le_add_right _ _⟩
