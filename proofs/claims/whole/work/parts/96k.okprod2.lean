theorem isT_eq (t : Int32) : isIn t 0 23 = (oGe t 0 && oLt t 24) := by
  unfold isIn oGe oLt
  congr 1
  rw [decide_eq_decide, Int32.le_iff_toInt_le, Int32.lt_iff_toInt_lt]
  show t.toInt ≤ 23 ↔ t.toInt < 24
  omega
theorem sp_isTurnR (t : Int32) (M : Mm) : F_X12_isTurn [.int t] M = some (some (.int (bz (oGe t 0 && oLt t 24))), M) := by
  apply wF_eq
  rw [← isT_eq]
  exact wF_run ⟨rfl, Nat.le_of_ble_eq_true rfl, wS_retZ (wI_p (pI_vS (pR_I (pI_lI rfl) (pR_I pI_cI (pR_I pI_cI pR_0))) (sp_in _ _ _ _)) ⟨bz_01 _, rfl, rfl, rfl⟩)⟩
def prV (t s : Int32) : Int32 := if ((oGe t 0 && oLt t 24) && (oGe s 0 && oLt s 24)) = true then aft t s else -1
theorem sp_productC {M : Mm} {t s : Int32} (hT : Tab M) : F_X11_product [.ref 5, .int t, .int s] M = some (some (.int (prV t s)), M) := by
  apply wF_eq
  refine wF_run ⟨rfl, Nat.le_of_ble_eq_true rfl, wS_retI (wI_tI (wC_p (v := (oGe t 0 && oLt t 24) && (oGe s 0 && oLt s 24)) ?_ ⟨fun hb => ?_, fun hb => wI_cI ⟨rfl, ?_, rfl⟩⟩))⟩
  · rw [← bz_ne (oGe t 0 && oLt t 24), ← bz_ne (oGe s 0 && oLt s 24)]
    exact pC_and (pC_kI (pI_vS (pR_I (pI_lI rfl) pR_0) (sp_isTurn _ _)) pI_cI) (pC_kI (pI_vS (pR_I (pI_lI rfl) pR_0) (sp_isTurn _ _)) pI_cI)
  · obtain ⟨g1, g2⟩ := Bool.and_eq_true_iff.mp hb
    obtain ⟨a, ha, rfl⟩ := turn_nat g1
    obtain ⟨b, hb2, rfl⟩ := turn_nat g2
    refine wI_p (pI_vS (pR_I (pI_lI rfl) (pR_I (pI_lI rfl) pR_0)) (sp_after hT (ts_all a ha b hb2))) ⟨rfl, ?_, rfl⟩
    unfold prV
    rw [if_pos hb]
  · unfold prV
    rw [if_neg (by rw [hb]; decide)]
theorem ok_product (L : Nat) (xs : Nat → Int32) (t s : Int32) : OK2 (Inv L xs) F_X11_product F_X12_product [.int t, .int s] := by
  intro n M hn hI
  have hT := hI.1.tab
  obtain ⟨kn, nl, nr, fe, th, pm, bm, b3, hset⟩ := hI.obj
  refine wF_of (sp_productC hT) ⟨prV t s, rfl, rfl, ⟨_, b3⟩, ?_⟩
  have hI2 := inv_mono _ _ _ _ (hset 0 pm bm)
  have hT2 := hI2.1.tab
  refine wF_run ⟨rfl, Nat.le_of_ble_eq_true rfl, wS_seq (wS_pfI (wA_lA rfl rfl ⟨69, rfl, wI_cI ⟨_, wrF_of b3 (Nat.le_of_ble_eq_true rfl), fun _ => ?_, fun q => absurd rfl q⟩⟩))⟩
  refine wS_retI (wI_tI (wC_p (v := (oGe t 0 && oLt t 24) && (oGe s 0 && oLt s 24)) ?_ ⟨fun hb => ?_, fun hb => wI_cI ⟨rfl, ?_, hI2⟩⟩))
  · rw [← bz_ne (oGe t 0 && oLt t 24), ← bz_ne (oGe s 0 && oLt s 24)]
    exact pC_and (pC_kI (pI_vS (pR_I (pI_lI rfl) pR_0) (sp_isTurnR _ _)) pI_cI) (pC_kI (pI_vS (pR_I (pI_lI rfl) pR_0) (sp_isTurnR _ _)) pI_cI)
  · obtain ⟨g1, g2⟩ := Bool.and_eq_true_iff.mp hb
    obtain ⟨a, ha, rfl⟩ := turn_nat g1
    obtain ⟨b, hb2, rfl⟩ := turn_nat g2
    refine wI_p (pI_vV (pR_A (pA_lA rfl) (pR_I (pI_lI rfl) (pR_I (pI_lI rfl) pR_0))) get_at (sp_times hT2 ha hb2)) ⟨rfl, ?_, hI2⟩
    unfold prV
    rw [if_pos hb]
  · unfold prV
    rw [if_neg (by rw [hb]; decide)]
