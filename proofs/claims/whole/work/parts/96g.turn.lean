/-! turns: the tables -/
abbrev axT : Nat → Int32 := fun j => axL.getD j 0
abbrev sgT : Nat → Int32 := fun j => sgL.getD j 0
def axF (t k : Int32) : Int32 := axT (3 * (t / 4) + k).toNatClampNeg
def sg0 (t : Int32) : Int32 := if oEq (t - t / 2 * 2) 1 = true then -1 else 1
def sg1 (t : Int32) : Int32 := if oGe (t - t / 4 * 4) 2 = true then -1 else 1
def sgF (t k : Int32) : Int32 := if oEq k 0 = true then sg0 t else if oEq k 1 = true then sg1 t else sg0 t * sg1 t * sgT (t / 4).toNatClampNeg
/-- the cells of the tables -/
def Tab (M : Mm) : Prop := M.2.2 1 = aI 0 18 axT ∧ M.2.2 2 = aI 0 6 sgT ∧ M.2.2 3 = aI 0 18 axT ∧ M.2.2 4 = aI 0 6 sgT
theorem GFx.tab {L : Nat} {xs : Nat → Int32} {M : Mm} (h : GFx L xs M) : Tab M := ⟨h.1 1 (by decide), h.1 2 (by decide), h.1 3 (by decide), h.1 4 (by decide)⟩
theorem sp_axisOf {M : Mm} {t k : Int32} (hT : Tab M) (h : inb (3 * (t / 4) + k) 18 = true) : F_X8_axisOf [.int t, .int k] M = some (some (.int (axF t k)), M) := by
  apply wF_eq
  exact wF_run ⟨rfl, Nat.le_of_ble_eq_true rfl, wS_retI (wI_p (pI_gI (pA_of (wA_cS ⟨rfl, rfl⟩)) (pI_add (pI_mul pI_cI (pI_div (pI_lI rfl) pI_cI (by decide))) (pI_lI rfl)) hT.1 h) ⟨rfl, rfl, rfl⟩)⟩
theorem sp_to {M : Mm} {t k : Int32} (hT : Tab M) (h : inb (3 * (t / 4) + k) 18 = true) : F_X12_to [.int t, .int k] M = some (some (.int (axF t k)), M) := by
  apply wF_eq
  exact wF_run ⟨rfl, Nat.le_of_ble_eq_true rfl, wS_retI (wI_p (pI_gI (pA_of (wA_cS ⟨rfl, rfl⟩)) (pI_add (pI_mul pI_cI (pI_div (pI_lI rfl) pI_cI (by decide))) (pI_lI rfl)) hT.2.2.1 h) ⟨rfl, rfl, rfl⟩)⟩
theorem sp_signOf {M : Mm} {t k : Int32} (hT : Tab M) (h : inb (t / 4) 6 = true) : F_X8_signOf [.int t, .int k] M = some (some (.int (sgF t k)), M) := by
  apply wF_eq
  refine wF_run ⟨rfl, Nat.le_of_ble_eq_true rfl, ?_⟩
  refine wS_seq (wS_setK rfl (wI_p (v := sg0 t) (pI_tI (pC_kI (pI_rem (pI_lI rfl) pI_cI (by decide)) pI_cI) pI_cI pI_cI) ⟨fun _ => ?_, fun q => absurd rfl q⟩))
  refine wS_seq (wS_setK rfl (wI_p (v := sg1 t) (pI_tI (pC_kI (pI_rem (pI_lI rfl) pI_cI (by decide)) pI_cI) pI_cI pI_cI) ⟨fun _ => ?_, fun q => absurd rfl q⟩))
  refine wS_seq (wS_if (wC_p (pC_kI (pI_lI rfl) pI_cI) ⟨fun hb => wS_retI (wI_p (pI_lI rfl) ⟨fun q => absurd q (by decide), fun _ => ⟨rfl, ?_, rfl⟩⟩), fun hb => wS_nop ⟨fun _ => ?_, fun q => absurd rfl q⟩⟩))
  · unfold sgF
    rw [if_pos hb]
  · refine wS_retI (wI_p (pI_tI (pC_kI (pI_lI rfl) pI_cI) (pI_lI rfl) (pI_mul (pI_mul (pI_lI rfl) (pI_lI rfl)) (pI_gI (pA_of (wA_cS ⟨rfl, rfl⟩)) (pI_div (pI_lI rfl) pI_cI (by decide)) hT.2.1 h))) ⟨rfl, ?_, rfl⟩)
    unfold sgF
    rw [hb]
    rfl
theorem sg1_eq (t : Int32) : (if oGt (t - t / 4 * 4) 1 = true then (-1 : Int32) else 1) = sg1 t := by
  unfold sg1
  have e : oGt (t - t / 4 * 4) 1 = oGe (t - t / 4 * 4) 2 := by
    unfold oGt oGe
    rw [decide_eq_decide, Int32.le_iff_toInt_le, Int32.lt_iff_toInt_lt]
    show 1 < (t - t / 4 * 4).toInt ↔ 2 ≤ (t - t / 4 * 4).toInt
    omega
  rw [e]
theorem sp_sign {M : Mm} {t k : Int32} (hT : Tab M) (h : inb (t / 4) 6 = true) : F_X12_sign [.int t, .int k] M = some (some (.int (sgF t k)), M) := by
  apply wF_eq
  refine wF_run ⟨rfl, Nat.le_of_ble_eq_true rfl, ?_⟩
  refine wS_seq (wS_seq (wS_setK rfl (wI_p (v := sg0 t) (pI_tI (pC_kI (pI_rem (pI_lI rfl) pI_cI (by decide)) pI_cI) pI_cI pI_cI) ⟨fun _ => ?_, fun q => absurd rfl q⟩)))
  refine wS_setK rfl (wI_p (v := sg1 t) (by rw [← sg1_eq]; exact pI_tI (pC_kI (pI_rem (pI_lI rfl) pI_cI (by decide)) pI_cI) pI_cI pI_cI) ⟨fun _ => ?_, fun q => absurd rfl q⟩)
  exact wS_retI (wI_p (pI_tI (pC_kI (pI_lI rfl) pI_cI) (pI_lI rfl) (pI_tI (pC_kI (pI_lI rfl) pI_cI) (pI_lI rfl) (pI_mul (pI_mul (pI_lI rfl) (pI_lI rfl)) (pI_gI (pA_of (wA_cS ⟨rfl, rfl⟩)) (pI_div (pI_lI rfl) pI_cI (by decide)) hT.2.2.2 h)))) ⟨rfl, rfl, rfl⟩)
