/-! product, class's side -/
def aft (t s : Int32) : Int32 := 4 * (2 * axF t (axF s 0) + (if oGt (axF t (axF s 1)) (3 - axF t (axF s 0) - axF t (axF s 1)) = true then 1 else 0)) + (if oLt (sgF s 1 * sgF t (axF s 1)) 0 = true then 2 else 0) + (if oLt (sgF s 0 * sgF t (axF s 0)) 0 = true then 1 else 0)
/-- all that is read of the tables is inside them -/
def tsOk (t s : Int32) : Bool := inb (3 * (s / 4) + 0) 18 && inb (3 * (s / 4) + 1) 18 && inb (3 * (s / 4) + 2) 18 && inb (3 * (t / 4) + axF s 0) 18 && inb (3 * (t / 4) + axF s 1) 18 && inb (3 * (t / 4) + axF s 2) 18 && inb (t / 4) 6 && inb (s / 4) 6
theorem ts_all : ∀ t, t < 24 → ∀ s, s < 24 → tsOk (nI t) (nI s) = true := by decide +kernel
theorem sp_after {M : Mm} {t s : Int32} (hT : Tab M) (h : tsOk t s = true) : F_X8_after [.int t, .int s] M = some (some (.int (aft t s)), M) := by
  simp only [tsOk, Bool.and_eq_true] at h
  obtain ⟨⟨⟨⟨⟨⟨⟨h1, h2⟩, h3⟩, h4⟩, h5⟩, h6⟩, h7⟩, h8⟩ := h
  apply wF_eq
  refine wF_run ⟨rfl, Nat.le_of_ble_eq_true rfl, ?_⟩
  refine wS_seq (wS_setK rfl (wI_p (v := axF t (axF s 0)) (pI_vS (pR_I (pI_lI rfl) (pR_I (pI_vS (pR_I (pI_lI rfl) (pR_I pI_cI pR_0)) (sp_axisOf hT h1)) pR_0)) (sp_axisOf hT h4)) ⟨fun _ => ?_, fun q => absurd rfl q⟩))
  refine wS_seq (wS_setK rfl (wI_p (v := axF t (axF s 1)) (pI_vS (pR_I (pI_lI rfl) (pR_I (pI_vS (pR_I (pI_lI rfl) (pR_I pI_cI pR_0)) (sp_axisOf hT h2)) pR_0)) (sp_axisOf hT h5)) ⟨fun _ => ?_, fun q => absurd rfl q⟩))
  refine wS_seq (wS_setK rfl (wI_p (v := sgF s 0 * sgF t (axF s 0)) (pI_mul (pI_vS (pR_I (pI_lI rfl) (pR_I pI_cI pR_0)) (sp_signOf hT h8)) (pI_vS (pR_I (pI_lI rfl) (pR_I (pI_vS (pR_I (pI_lI rfl) (pR_I pI_cI pR_0)) (sp_axisOf hT h1)) pR_0)) (sp_signOf hT h7))) ⟨fun _ => ?_, fun q => absurd rfl q⟩))
  refine wS_seq (wS_setK rfl (wI_p (v := sgF s 1 * sgF t (axF s 1)) (pI_mul (pI_vS (pR_I (pI_lI rfl) (pR_I pI_cI pR_0)) (sp_signOf hT h8)) (pI_vS (pR_I (pI_lI rfl) (pR_I (pI_vS (pR_I (pI_lI rfl) (pR_I pI_cI pR_0)) (sp_axisOf hT h2)) pR_0)) (sp_signOf hT h7))) ⟨fun _ => ?_, fun q => absurd rfl q⟩))
  refine wS_seq (wS_setK rfl (wI_p (v := 3 - axF t (axF s 0) - axF t (axF s 1)) (pI_sub (pI_sub pI_cI (pI_lI rfl)) (pI_lI rfl)) ⟨fun _ => ?_, fun q => absurd rfl q⟩))
  refine wS_seq (wS_setK rfl (wI_p (v := 2 * axF t (axF s 0) + (if oGt (axF t (axF s 1)) (3 - axF t (axF s 0) - axF t (axF s 1)) = true then 1 else 0)) (pI_add (pI_mul pI_cI (pI_lI rfl)) (pI_tI (pC_kI (pI_lI rfl) (pI_lI rfl)) pI_cI pI_cI)) ⟨fun _ => ?_, fun q => absurd rfl q⟩))
  exact wS_retI (wI_p (v := aft t s) (pI_add (pI_add (pI_mul pI_cI (pI_lI rfl)) (pI_tI (pC_kI (pI_lI rfl) pI_cI) pI_cI pI_cI)) (pI_tI (pC_kI (pI_lI rfl) pI_cI) pI_cI pI_cI)) ⟨rfl, rfl, rfl⟩)
theorem sp_isTurn (t : Int32) (M : Mm) : F_X8_isTurn [.int t] M = some (some (.int (bz (oGe t 0 && oLt t 24))), M) := by
  apply wF_eq
  exact wF_run ⟨rfl, Nat.le_of_ble_eq_true rfl, wS_retZ (wI_p (pI_zI (pC_and (pC_kI (pI_lI rfl) pI_cI) (pC_kI (pI_lI rfl) pI_cI))) ⟨bz_01 _, rfl, rfl, rfl⟩)⟩
/-- a turn's place in the tables -/
theorem turn_nat {t : Int32} (h : (oGe t 0 && oLt t 24) = true) : ∃ n, n < 24 ∧ t = nI n := by
  simp only [oGe, oLt, Bool.and_eq_true, decide_eq_true_eq, Int32.le_iff_toInt_le, Int32.lt_iff_toInt_lt] at h
  have h1 : 0 ≤ t.toInt := h.1
  have h2 : t.toInt < 24 := h.2
  refine ⟨t.toInt.toNat, by omega, ?_⟩
  apply Int32.toInt_inj.mp
  rw [nI_toInt (by omega)]
  omega
