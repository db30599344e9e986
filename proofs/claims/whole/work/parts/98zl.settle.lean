/-! settle: the class's side -/
noncomputable def seS (y : Int32) (a : AS) : Int32 × AS := if isY y = true then (nI (zfe (stS y.toNatClampNeg 10000 (zFe a 0 (zfl a)))), stS y.toNatClampNeg 10000 (zFe a 0 (zfl a))) else (-1, a)
theorem se_C {L : Nat} {xs : Nat → Int32} {y : Int32} : CMt L xs F_X11_settle [.int y] (seS y) := by
  intro a M hO hb h
  have hbig : big = 1000000 := rfl
  unfold seS
  refine wF_b rfl (Nat.le_of_ble_eq_true rfl) (q_if (pC_not (pC_nz (pI_vS (pR_I (pI_lI rfl) pR_0) (sp_isYardC _ _)))) (fun hb1 => ?_) (fun hb1 => ?_))
  · rw [Bool.not_eq_true'] at hb1
    rw [if_neg (by rw [hb1]; decide)]
    exact q_ret pI_cI ⟨rfl, rfl, h, COn.rf⟩
  rw [Bool.not_eq_false'] at hb1
  rw [if_pos hb1]
  obtain ⟨yn, hy, rfl⟩ := isY_nat hb1
  rw [nI_clamp (by omega)]
  have hy16 : yn < 16 := by omega
  obtain ⟨v0, o1, -, -⟩ := h.scr
  refine q_ex (wV_Vw (pR_A (pA_grid h.1 rfl) (pR_A (pA_yard h.1.1 h.1.o5 hy rfl rfl) pR_0)) o1 ((sp_readC h hy).mono ?_))
  rintro v M1 ⟨rfl, h1, h2, h3⟩
  refine ⟨rfl, ?_⟩
  obtain ⟨a1, ha1⟩ : ∃ a1, a1 = zFe a 0 (zfl a) := ⟨_, rfl⟩
  rw [← ha1]
  dsimp only
  have hO1 : OkA a1 := by
    rw [ha1]
    exact ⟨hO.1, hO.2.1, hO.2.2.1, hO.2.2.2.1, Nat.zero_le _, hO.2.2.2.2.2⟩
  have hbd : znl a1 + znr a1 ≤ 256000 := by rw [ha1]; exact hb
  obtain ⟨w5, w67, w68⟩ := h1.1.2.2.2.2.1
  refine q_pf (pA_lA rfl) pI_cI w5 (Nat.le_of_ble_eq_true rfl) ?_
  obtain ⟨M2, hM2⟩ : ∃ M2, M2 = setC M1 5 (.inr (10, (fsCv (zfe a)).set 13 (.int 0))) := ⟨_, rfl⟩
  rw [← hM2]
  have b2 : But [5, 67, 68] M1 M2 := by rw [hM2]; exact But.rf.set (by decide)
  have c2 : CSt L xs a1 M2 := by
    rw [ha1]
    exact h1.fe b2 (by rw [hM2]; exact get_at) (by rw [hM2]; exact (get_ne (by decide)).trans w67) (by rw [hM2]; exact (get_ne (by decide)).trans w68)
  have g2 : GrC M2 51 (cdA (zab a1) yn) (bls (cdA (zab a) yn) 1000) := by
    rw [ha1]
    exact h3.fr (b2.2.2 51 (by decide)) (b2.2.2 52 (by decide)) (b2.2.2 53 (by decide))
  obtain ⟨bs, hbs⟩ : ∃ bs, bs = bls (cdA (zab a) yn) 1000 := ⟨_, rfl⟩
  rw [← hbs] at g2
  have s2 : COn M M2 := (h2.con (by decide)).tr (b2.con (by decide))
  have z1 : zfe a1 = 0 := by rw [ha1]; rfl
  have w1 := Wt_le yn a1
  refine q_scp (q_I rfl pI_cI (wS_forC 10000 (by omega) (fun j L' M3 => ∃ a', L' = [some (.ref 5), some (.int (nI yn)), some (.int (nI j)), none, none] ∧ From2 yn yn a1 a' ∧ zfe a' = j ∧ zfe a' + Wt yn a' ≤ 9000 ∧ stS yn 10000 a1 = stS yn (10000 - j) a' ∧ CSt L xs a' M3 ∧ COn M M3 ∧ GrC M3 51 (cdA (zab a') yn) bs) ?_ ?_ ?_ (Nat.zero_le _) ⟨a1, rfl, From2.rf hO1, z1, by omega, rfl, c2, s2, g2⟩))
  · rintro j L' M3 hj ⟨a', rfl, -⟩
    exact pC_eq (pC_kI (pI_lI rfl) pI_cI) (oLt_nI (b := 10000) (by omega) (by decide))
  · rintro j L' M3 hj ⟨a', rfl, f1, f2, f3, f4, f5, f6, f7⟩
    obtain ⟨w, hw⟩ := f5.2.2.2.1
    refine l_scp (q_ex (wV_Vw (pR_A (pA_lumps f5.1 rfl) (pR_A (pA_grid f5.1 rfl) pR_0)) hw ((sp_find f7 hw (f5.2.2.2.2.2.1 58 (by decide)) (f5.2.2.2.2.2.1 59 (by decide)) f5.2.2.2.2.2.2).mono ?_)))
    rintro v M4 ⟨rfl, k1, lb, mem, st, hL, hP⟩
    refine ⟨rfl, ?_⟩
    obtain ⟨l1, ⟨fl, fm, l2, l3, -⟩, -, -, fs, l4, -⟩ := id hP
    have c4 : CSt L xs a' M4 := f5.wr5 k1 ⟨_, l1⟩ ⟨_, l2⟩ ⟨_, l3⟩ ⟨_, l4⟩
    have g4 := f7.b57 k1
    have s4 : COn M M4 := f6.tr (k1.con (by decide))
    have hcd : ∀ c, c < 1000 → cOK (zkn a') (cdA (zab a') yn c) := fun c hc => f1.1.av.cd hy16 hc
    have hnx := sp_nextC c4.1 f1.1 g4 hcd hL hP
    refine q_I rfl (pI_vV (pR_A (pA_lumps c4.1 rfl) (pR_A (pA_grid c4.1 rfl) (pR_A (pA_kinds c4.1 rfl) pR_0))) l1 hnx) ?_
    cases q : nxF a' (cdA (zab a') yn) with
    | none =>
      refine q_if (v := true) (pC_eq (pC_kI (pI_lI rfl) pI_cI) rfl) (fun _ => ?_) (fun q => by cases q)
      refine q_brk ⟨fun _ => ⟨fun _ => ?_, fun q => absurd rfl q⟩, fun q => absurd q (by decide), fun q => absurd rfl q⟩
      have e : stS yn 10000 a1 = a' := by rw [f4, stS_none q]
      rw [e]
      exact l_ret (pI_fI (pA_lA rfl) c4.1.o5 rfl) ⟨rfl, rfl, c4, s4⟩
    | some k =>
      obtain ⟨q1, q2, q3⟩ := nxP_some q
      have hcn := cn_le 1000 (ldB (cdA (zab a') yn))
      have hst := stO_lt (cdA (zab a') yn) k
      refine q_if (v := false) (pC_eq (pC_kI (pI_lI rfl) pI_cI) (by
        have := oI_isS (some k) fun k' q => by cases q; omega
        rw [oNe_not] at this
        have this : (!(oEq (oI (some k)) (-1))) = true := this
        rw [Bool.not_eq_true'] at this
        exact this)) (fun q => by cases q) (fun _ => ?_)
      have hstp := sp_stepsC g4 hL hP q1
      refine q_I rfl (pI_vV (pR_A (pA_lumps c4.1 rfl) (pR_I (pI_lI rfl) (pR_A (pA_grid c4.1 rfl) pR_0))) l1 hstp) ?_
      refine q_ex (wV_Vw (pR_A (pA_lA rfl) (pR_I (pI_vV (pR_A (pA_lumps c4.1 rfl) (pR_I (pI_lI rfl) pR_0)) l1 (sp_firstC hL hP q1)) (pR_I (pI_lI rfl) pR_0))) c4.1.o5 ((sp_noteC c4 (by omega) _ _).mono ?_))
      rintro v M5 ⟨rfl, c5, b5⟩
      have e57 : ∀ b, 57 ≤ b → b ≤ 60 → M5.2.2 b = M4.2.2 b := fun b b1 b2 => b5.2.2 b (by simp; omega)
      have hP5 := hP.fr e57
      have g5 : GrC M5 51 (cdA (zab a') yn) bs := g4.fr (b5.2.2 51 (by decide)) (b5.2.2 52 (by decide)) (b5.2.2 53 (by decide))
      have hF5 : From2 yn yn a1 (ntF (fsO (cdA (zab a') yn) k) (stO (cdA (zab a') yn) k) a') := f1.nt (by omega)
      refine ⟨rfl, wS_exV (wV_Vw (pR_A (pA_lumps c5.1 rfl) (pR_I (pI_lI rfl) (pR_I (pI_lI rfl) (pR_A (pA_grid c5.1 rfl) (pR_A (pA_yard c5.1.1 c5.1.o5 hy rfl rfl) pR_0))))) hP5.1 ((sp_lowerC (b := ntF (fsO (cdA (zab a') yn) k) (stO (cdA (zab a') yn) k) a') c5 hy hF5 hbd g5 hL hP5 q1 hst fun c hc => stO_tgt q3 hc).mono ?_))⟩
      rintro v M6 ⟨rfl, c6, s6, g6⟩
      have hzb : zab (ntF (fsO (cdA (zab a') yn) k) (stO (cdA (zab a') yn) k) a') = zab a' := rfl
      have hfl : flS yn a' k = loA yn (stO (cdA (zab a') yn) k) (cdA (zab a') yn) (ntF (fsO (cdA (zab a') yn) k) (stO (cdA (zab a') yn) k) a') (psL (cdA (zab a') yn) k) := by unfold flS; rfl
      rw [hzb, ← hfl] at c6 g6
      have hW := Wt_fall (y := yn) (a := a') hy16 q1 q3
      have hz := zfe_fall yn k a'
      refine ⟨rfl, fun q => absurd q (by decide), fun q => absurd q (by decide), fun _ _ => ⟨rfl, flS yn a' k, rfl, fl_From f1 hy16 (by omega), by omega, by omega, ?_, c6, (s4.tr (b5.con (by decide))).tr s6, g6⟩⟩
      rw [f4, show 10000 - j = (10000 - (j + 1)) + 1 by omega, stS_some q]
  · rintro L' M3 ⟨a', rfl, f1, f2, f3, -⟩
    omega
