/-! there -/
def isY (y : Int32) : Bool := oGe y 0 && oLt y 4
theorem isY_nat {p : Int32} (h : isY p = true) : ∃ n, n < 4 ∧ p = nI n := by
  simp only [isY, oGe, oLt, Bool.and_eq_true, decide_eq_true_eq, Int32.le_iff_toInt_le, Int32.lt_iff_toInt_lt] at h
  have h1 : 0 ≤ p.toInt := h.1
  have h2 : p.toInt < 4 := h.2
  refine ⟨p.toInt.toNat, by omega, ?_⟩
  apply Int32.toInt_inj.mp
  rw [nI_toInt (by omega)]
  omega
theorem isY_in (z : Int32) : isIn z 0 3 = isY z := by
  unfold isIn isY oGe oLt
  congr 1
  rw [decide_eq_decide, Int32.le_iff_toInt_le, Int32.lt_iff_toInt_lt]
  show z.toInt ≤ 3 ↔ z.toInt < 4
  omega
theorem sp_isYardC (p : Int32) (M : Mm) : F_X11_isYard [.int p] M = some (some (.int (bz (isY p))), M) := by
  apply wF_eq
  exact wF_run ⟨rfl, Nat.le_of_ble_eq_true rfl, wS_retZ (wI_p (pI_zI (pC_and (pC_kI (pI_lI rfl) pI_cI) (pC_kI (pI_lI rfl) pI_cI))) ⟨bz_01 _, rfl, rfl, rfl⟩)⟩
theorem sp_isYardR (p : Int32) (M : Mm) : F_X12_isYard [.int p] M = some (some (.int (bz (isY p))), M) := by
  apply wF_eq
  rw [← isY_in]
  exact wF_run ⟨rfl, Nat.le_of_ble_eq_true rfl, wS_retZ (wI_p (pI_vS (pR_I (pI_lI rfl) (pR_I pI_cI (pR_I pI_cI pR_0))) (sp_in _ _ _ _)) ⟨bz_01 _, rfl, rfl, rfl⟩)⟩
/-- yards[y] -/
theorem pA_yard {L : Nat} {xs : Nat → Int32} {Lc : Lv} {M : Mm} {fe y i : Nat} (hG : GFx L xs M) (h5 : M.2.2 5 = .inr (10, fsCv fe)) (hy : y < 4) (h0 : lkp Lc 0 = some (.ref 5)) (hi : lkp Lc i = some (.int (nI y))) : pA (gA 3 (fA 10 3 (lA 0)) (lI i)) Lc M (some (17 + 2 * y)) := by
  have h9 := pA_gA (pA_fA (k := 3) (pA_lA h0) h5 rfl) (pI_lI hi) hG.2.2.1 (inb_nI hy (by decide))
  rw [nI_clamp (by omega), if_pos hy] at h9
  exact h9
def thV (a : AB) (y z x w : Int32) : Int32 := if isY y = true then refuA a y.toNatClampNeg z x w else -1
theorem sp_thereC {L : Nat} {xs : Nat → Int32} {M : Mm} {fe nl nr : Nat} {sc : SN} {ab : AB} {y z x w : Int32} (hG : GFx L xs M) (h5 : M.2.2 5 = .inr (10, fsCv fe)) (hC : CRep M sc nl nr) (hA : Ag sc ab) : F_X11_there [.ref 5, .int y, .int z, .int x, .int w] M = some (some (.int (thV ab y z x w)), M) := by
  apply wF_eq
  refine wF_run ⟨rfl, Nat.le_of_ble_eq_true rfl, wS_retI (wI_tI (wC_p (pC_kI (pI_vS (pR_I (pI_lI rfl) pR_0) (sp_isYardC _ _)) pI_cI) ⟨fun hb => ?_, fun hb => wI_cI ⟨rfl, ?_, rfl⟩⟩))⟩
  · rw [bz_ne] at hb
    obtain ⟨n, hn, rfl⟩ := isY_nat hb
    refine wI_p (pI_vV (pR_A (pA_yard hG h5 hn rfl rfl) (pR_I (pI_lI rfl) (pR_I (pI_lI rfl) (pR_I (pI_lI rfl) pR_0)))) (hG.2.2.2.1 n hn) (sp_refusal hG hC hn)) ⟨rfl, ?_, rfl⟩
    unfold thV
    rw [if_pos hb, nI_clamp (by omega), refu_A hA hC.nn (by omega)]
  · rw [bz_ne] at hb
    unfold thV
    rw [if_neg (by rw [hb]; decide)]
theorem ok_there (L : Nat) (xs : Nat → Int32) (y z x w : Int32) : OK2 (Inv L xs) F_X11_there F_X12_there [.int y, .int z, .int x, .int w] := by
  intro n M hn hI
  have hI' := hI
  obtain ⟨a1, -, -, -, kn0, nl0, nr0, fe0, ab, -, b2, -, ⟨sc, sr, hC, hR, hAc, hAr⟩, -⟩ := hI'
  obtain ⟨kn, nl, nr, fe, th, pm, bm, b3, hset⟩ := hI.obj
  refine wF_of (sp_thereC a1 b2.2.1 hC hAc) ⟨_, rfl, rfl, ⟨_, b3⟩, ?_⟩
  have hI2 := inv_mono _ _ _ _ (hset 0 pm bm)
  have hR2 : RRep (setC M 69 (.inr (11, fsRv 0 kn nl nr pm fe bm))) sr := hR.fr (sm_set rfl)
  refine wF_run ⟨rfl, Nat.le_of_ble_eq_true rfl, wS_seq (wS_pfI (wA_lA rfl rfl ⟨69, rfl, wI_cI ⟨_, wrF_of b3 (Nat.le_of_ble_eq_true rfl), fun _ => ?_, fun q => absurd rfl q⟩⟩))⟩
  refine wS_retI (wI_tI (wC_p (pC_kI (pI_vS (pR_I (pI_lI rfl) pR_0) (sp_isYardR _ _)) pI_cI) ⟨fun hb => ?_, fun hb => wI_cI ⟨rfl, ?_, hI2⟩⟩))
  · rw [bz_ne] at hb
    obtain ⟨m, hm, rfl⟩ := isY_nat hb
    refine wI_p (pI_vV (pR_A (pA_lA rfl) (pR_I (pI_lI rfl) (pR_I (pI_lI rfl) (pR_I (pI_lI rfl) (pR_I (pI_lI rfl) pR_0))))) get_at (sp_isThere get_at hR2 (by omega))) ⟨rfl, ?_, hI2⟩
    unfold thV
    rw [if_pos hb, nI_clamp (by omega), refu_A hAr hR.nn (by omega)]
  · rw [bz_ne] at hb
    unfold thV
    rw [if_neg (by rw [hb]; decide)]
