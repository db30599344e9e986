theorem isCell_nI {c : Nat} (h : c < 1000) : (oGe (nI c) 0 && oLt (nI c) 1000) = true := by
  simp only [oGe, oLt, Bool.and_eq_true, decide_eq_true_eq]
  exact ⟨nI_pos' (by omega), nI_lt (b := 1000) h (by decide)⟩
theorem sp_isCell (p : Int32) (M : Mm) : F_X11_isCell [.int p] M = some (some (.int (bz (oGe p 0 && oLt p 1000))), M) := by
  apply wF_eq
  exact wF_run ⟨rfl, Nat.le_of_ble_eq_true rfl, wS_retZ (wI_p (pI_zI (pC_and (pC_kI (pI_lI rfl) pI_cI) (pC_kI (pI_lI rfl) pI_cI))) ⟨bz_01 _, rfl, rfl, rfl⟩)⟩
/-- the code of cell c of holder h -/
def cdA (a : AB) (h c : Nat) : Int32 := aat a (10 * h + c / 100) (c / 10 % 10) (c % 10)
theorem sp_codeAt {L : Nat} {xs : Nat → Int32} {M : Mm} {s : SN} {ab : AB} {nl nr y c : Nat} (hG : GFx L xs M) (hC : CRep M s nl nr) (hA : Ag s ab) (hy : y < 4) (hc : c < 1000) : F_X10_codeAt [.ref (17 + 2 * y), .int (nI c)] M = some (some (.int (cdA ab y c)), M) := by
  have hz : c / 100 < 10 := by omega
  have hx : c / 10 % 10 < 10 := by omega
  have hw : c % 10 < 10 := by omega
  have ev : cdA ab y c = cdo s (10 * y + c / 100) (c / 10 % 10) (c % 10) := ((hA (10 * y + c / 100) (by omega)).2.2 _ hx).2.2 _ hw
  rw [ev]
  apply wF_eq
  refine wF_run ⟨rfl, Nat.le_of_ble_eq_true rfl, wS_seq (wS_if (wC_p (pC_not (pC_kI (pI_vS (pR_I (pI_lI rfl) pR_0) (sp_isCell _ _)) pI_cI)) ⟨fun hb => (by rw [bz_ne, isCell_nI hc] at hb; cases hb), fun hb => wS_nop ⟨fun _ => ?_, fun q => absurd rfl q⟩⟩))⟩
  refine wS_seq (wS_setA (wA_vA (wV_V (wR_A (wA_p (pA_lA rfl) (wR_I (wI_p (pI_vS (pR_I (pI_lI rfl) pR_0) (sp_zOf hc M)) (wR_I (wI_p (pI_vS (pR_I (pI_lI rfl) pR_0) (sp_xOf hc M)) (wR_0 ⟨isR_of (hG.2.2.2.1 y hy), wF_of (sp_rowAt hG hC hy hz hx) ⟨_, _, rfl, asA_of _, fun _ => ?_, fun q => absurd rfl q⟩⟩))))))))))
  cases hr : rwo s (10 * y + c / 100) (c / 10 % 10) with
  | none =>
    have e : cdo s (10 * y + c / 100) (c / 10 % 10) (c % 10) = -1 := by unfold cdo; rw [hr]
    rw [e]
    exact wS_retI (wI_tI (wC_and (wC_p (pC_notN (pA_of (wA_lA rfl (asA_of none) ⟨rfl, rfl⟩))) ⟨fun q => (by cases q), fun _ => ⟨fun q => (by cases q), fun _ => wI_cI ⟨rfl, rfl, rfl⟩⟩⟩)))
  | some r =>
    have e : cdo s (10 * y + c / 100) (c / 10 % 10) (c % 10) = if c % 10 < nln s r then ncd s r (c % 10) else -1 := by unfold cdo; rw [hr]
    rw [e]
    have hr2 := hr
    unfold rwo at hr2
    obtain ⟨l, hl, hr2⟩ := Option.bind_eq_some_iff.mp hr2
    obtain ⟨-, -, -, gl, -, hrow⟩ := hC.2.1 _ l (by omega) hl
    obtain ⟨-, -, hro, hln, cr, hcr, hcc⟩ := (hrow _ hx).2 r hr2
    have hnA : ∀ Lc : Lv, lkp Lc 2 = some (.ref r) → pI (nA (fA 7 0 (lA 2))) Lc M (nI (nln s r)) := fun Lc h2 => pI_of (wI_nA (wA_p (pA_fA (pA_lA h2) hro rfl) ⟨r + 1, _, rfl, lenA_of hcr (by decide), rfl, rfl⟩))
    refine wS_retI (wI_tI (wC_p (pC_and (pC_notN (pA_lA (a := r) rfl)) (pC_kI (pI_vS (pR_I (pI_lI rfl) pR_0) (sp_wOf hc M)) (hnA _ rfl))) ⟨fun hb => ?_, fun hb => wI_cI ⟨rfl, ?_, rfl⟩⟩))
    · have hlt : c % 10 < nln s r := by
        by_cases q : c % 10 < nln s r
        · exact q
        · have : ¬ oLt (nI (c % 10)) (nI (nln s r)) = true := by
            unfold oLt
            rw [decide_eq_true_eq]
            exact nI_nlt (by omega) (by omega)
          exact absurd (Bool.and_eq_true_iff.mp hb).2 this
      have h9 := pI_gI (t := 0) (pA_fA (k := 0) (pA_lA (a := r) (i := 2) (L := stL 2 (va_rf (some r)) (mkL 3 [.ref (17 + 2 * y), .int (nI c)])) rfl) hro rfl) (pI_vS (pR_I (pI_lI (i := 1) rfl) pR_0) (sp_wOf hc M)) hcr (inb_nI hlt (by omega))
      rw [nI_clamp (by omega), (hcc _ hlt).1] at h9
      rw [if_pos hlt]
      exact wI_p h9 ⟨rfl, rfl, rfl⟩
    · have hlt : ¬ c % 10 < nln s r := by
        intro q
        have : oLt (nI (c % 10)) (nI (nln s r)) = true := by
          unfold oLt
          rw [decide_eq_true_eq]
          exact nI_lt q (by omega)
        rw [this] at hb
        cases hb
      rw [if_neg hlt]
