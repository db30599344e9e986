/-! what a yard has: the reference's side -/
theorem nI_ne {l : Nat} (h : l < 2 ^ 31) : ¬ nI l = -1 := fun q => by
  have := congrArg Int32.toInt q
  rw [nI_toInt h] at this
  have e : (-1 : Int32).toInt = -1 := rfl
  omega
theorem oI_none : oEq (oI none) (-1) = true := rfl
theorem oI_some {l : Nat} (h : l < 2 ^ 31) : oEq (oI (some l)) (-1) = false := by
  unfold oEq
  rw [decide_eq_false_iff_not]
  exact nI_ne h
theorem isIn_len {w : Int32} {n : Nat} (h : n < 2 ^ 31) : isIn w 0 (nI n - 1) = (oGe w 0 && oLt w (nI n)) := by
  unfold isIn oGe oLt
  congr 1
  rw [decide_eq_decide, Int32.le_iff_toInt_le, Int32.lt_iff_toInt_lt, Int32.toInt_sub, nI_toInt h]
  show w.toInt ≤ ((n : Int) - 1).bmod (2 ^ 32) ↔ _
  rw [Int.bmod_eq_of_le (by omega) (by omega)]
  omega
theorem isP_in (z : Int32) : isIn z 0 9 = isP z := by
  unfold isIn isP oGe oLt
  congr 1
  rw [decide_eq_decide, Int32.le_iff_toInt_le, Int32.lt_iff_toInt_lt]
  show z.toInt ≤ 9 ↔ z.toInt < 10
  omega
theorem nI_mul10 (h z : Nat) : 10 * nI h + nI z = nI (10 * h + z) := by
  have e : (10 : Int32) * nI h = nI (10 * h) := (Int32.ofNat_mul 10 h).symm
  rw [e, nI_add]
theorem sp_isThere {M : Mm} {s : SN} {th pm bm : Int32} {kn nl nr fe h : Nat} {z x w : Int32} (h69 : M.2.2 69 = .inr (11, fsRv th kn nl nr pm fe bm)) (hR : RRep M s) (hh : h < 16) : F_X12_isThere [.ref 69, .int (nI h), .int z, .int x, .int w] M = some (some (.int (refu s h z x w)), M) := by
  obtain ⟨⟨hd, a1, a2⟩, ⟨rw9, b1, b2⟩, ⟨ln, c1, c2⟩, -, -⟩ := hR
  apply wF_eq
  refine wF_run ⟨rfl, Nat.le_of_ble_eq_true rfl, wS_seq (wS_if (wC_p (pC_not (pC_kI (pI_vS (pR_I (pI_lI rfl) (pR_I pI_cI (pR_I pI_cI pR_0))) (sp_in _ _ _ _)) pI_cI)) ⟨fun hb => wS_retI (wI_cI ⟨fun q => absurd q (by decide), fun _ => ⟨rfl, ?_, rfl⟩⟩), fun hb => wS_nop ⟨fun _ => ?_, fun q => absurd rfl q⟩⟩))⟩
  · rw [bz_ne, isP_in] at hb
    unfold refu
    rw [if_neg (by intro q; rw [q] at hb; exact absurd hb (by decide))]
  rw [bz_ne, isP_in, Bool.not_eq_false'] at hb
  obtain ⟨a, ha, rfl⟩ := isP_nat hb
  obtain ⟨a3, a4⟩ := a2 (10 * h + a) (by omega)
  have er : refu s h (nI a) x w = (match nf s (10 * h + a) with
    | none => 2
    | some l => if isP x = true then (match ng s l x.toNatClampNeg with
        | none => 4
        | some r => if (oGe w 0 && oLt w (nI (nln s r))) = true then 0 else 5) else 3) := by
    unfold refu
    rw [if_pos hb, nI_clamp (by omega)]
    rfl
  rw [er]
  have hp1 : pI (gI 0 (fA 11 7 (lA 0)) (bI oAdd (bI oMul (cI 10) (lI 1)) (lI 2))) (mkL 7 [.ref 69, .int (nI h), .int (nI a), .int x, .int w]) M (oI (nf s (10 * h + a))) := by
    have h9 := pI_gI (t := 0) (pA_fA (k := 7) (pA_lA (i := 0) (L := mkL 7 [.ref 69, .int (nI h), .int (nI a), .int x, .int w]) rfl) h69 rfl) (pI_add (pI_mul pI_cI (pI_lI (i := 1) rfl)) (pI_lI (i := 2) rfl)) a1 (by rw [nI_mul10]; exact inb_nI (by omega) (by decide))
    rw [nI_mul10, nI_clamp (by omega), a3] at h9
    exact h9
  refine wS_seq (wS_setK rfl (wI_p hp1 ⟨fun _ => ?_, fun q => absurd rfl q⟩))
  cases hl : nf s (10 * h + a) with
  | none =>
    exact wS_seq (wS_if (wC_p (pC_kI (pI_lI rfl) pI_cI) ⟨fun _ => wS_retI (wI_cI ⟨fun q => absurd q (by decide), fun _ => ⟨rfl, rfl, rfl⟩⟩), fun q => absurd (oI_none.symm.trans q) (by decide)⟩))
  | some l =>
    have hl170 := a4 l hl
    refine wS_seq (wS_if (wC_p (pC_kI (pI_lI rfl) pI_cI) ⟨fun q => absurd (q.symm.trans (oI_some (by omega))) (by decide), fun _ => wS_nop ⟨fun _ => ?_, fun q => absurd rfl q⟩⟩))
    dsimp only
    refine wS_seq (wS_if (wC_p (pC_not (pC_kI (pI_vS (pR_I (pI_lI rfl) (pR_I pI_cI (pR_I pI_cI pR_0))) (sp_in _ _ _ _)) pI_cI)) ⟨fun hx => wS_retI (wI_cI ⟨fun q => absurd q (by decide), fun _ => ⟨rfl, ?_, rfl⟩⟩), fun hx => wS_nop ⟨fun _ => ?_, fun q => absurd rfl q⟩⟩))
    · rw [bz_ne, isP_in] at hx
      rw [if_neg (by intro q; rw [q] at hx; exact absurd hx (by decide))]
    rw [bz_ne, isP_in, Bool.not_eq_false'] at hx
    obtain ⟨b, hb2, rfl⟩ := isP_nat hx
    rw [if_pos hx, nI_clamp (by omega)]
    obtain ⟨b3, b4⟩ := b2 l b hl170 hb2
    have hp2 : pI (gI 0 (fA 11 9 (lA 0)) (bI oAdd (bI oMul (cI 10) (lI 5)) (lI 3))) ((mkL 7 [.ref 69, .int (nI h), .int (nI a), .int (nI b), .int w]).set 5 (some (.int (nI l)))) M (oI (ng s l b)) := by
      have h9 := pI_gI (t := 0) (pA_fA (k := 9) (pA_lA (i := 0) (L := (mkL 7 [.ref 69, .int (nI h), .int (nI a), .int (nI b), .int w]).set 5 (some (.int (nI l)))) rfl) h69 rfl) (pI_add (pI_mul pI_cI (pI_lI (i := 5) rfl)) (pI_lI (i := 3) rfl)) b1 (by rw [nI_mul10]; exact inb_nI (by omega) (by decide))
      rw [nI_mul10, nI_clamp (by omega), b3] at h9
      exact h9
    refine wS_seq (wS_setK rfl (wI_p hp2 ⟨fun _ => ?_, fun q => absurd rfl q⟩))
    cases hr : ng s l b with
    | none =>
      exact wS_seq (wS_if (wC_p (pC_kI (pI_lI rfl) pI_cI) ⟨fun _ => wS_retI (wI_cI ⟨fun q => absurd q (by decide), fun _ => ⟨rfl, rfl, rfl⟩⟩), fun q => absurd (oI_none.symm.trans q) (by decide)⟩))
    | some r =>
      have hr1710 := b4 r hr
      obtain ⟨c3, c4⟩ := c2 r hr1710
      refine wS_seq (wS_if (wC_p (pC_kI (pI_lI rfl) pI_cI) ⟨fun q => absurd (q.symm.trans (oI_some (by omega))) (by decide), fun _ => wS_nop ⟨fun _ => ?_, fun q => absurd rfl q⟩⟩))
      have hp3 : pI (gI 0 (fA 11 10 (lA 0)) (lI 6)) (((mkL 7 [.ref 69, .int (nI h), .int (nI a), .int (nI b), .int w]).set 5 (some (.int (nI l)))).set 6 (some (.int (nI r)))) M (nI (nln s r)) := by
        have h9 := pI_gI (t := 0) (pA_fA (k := 10) (pA_lA (i := 0) (L := ((mkL 7 [.ref 69, .int (nI h), .int (nI a), .int (nI b), .int w]).set 5 (some (.int (nI l)))).set 6 (some (.int (nI r)))) rfl) h69 rfl) (pI_lI (i := 6) rfl) c1 (inb_nI hr1710 (by decide))
        rw [nI_clamp (by omega), c3] at h9
        exact h9
      refine wS_retI (wI_p (pI_tI (pC_kI (pI_vS (pR_I (pI_lI rfl) (pR_I pI_cI (pR_I (pI_sub hp3 pI_cI) pR_0))) (sp_in _ _ _ _)) pI_cI) pI_cI pI_cI) ⟨rfl, ?_, rfl⟩)
      rw [bz_ne, isIn_len (by omega)]
