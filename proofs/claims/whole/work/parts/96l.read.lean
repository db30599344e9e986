/-! what a yard has: the class's side -/
def isP (p : Int32) : Bool := oGe p 0 && oLt p 10
theorem isP_nat {p : Int32} (h : isP p = true) : ∃ n, n < 10 ∧ p = nI n := by
  simp only [isP, oGe, oLt, Bool.and_eq_true, decide_eq_true_eq, Int32.le_iff_toInt_le, Int32.lt_iff_toInt_lt] at h
  have h1 : 0 ≤ p.toInt := h.1
  have h2 : p.toInt < 10 := h.2
  refine ⟨p.toInt.toNat, by omega, ?_⟩
  apply Int32.toInt_inj.mp
  rw [nI_toInt (by omega)]
  omega
theorem sp_isPlace (p : Int32) (M : Mm) : F_X11_isPlace [.int p] M = some (some (.int (bz (isP p))), M) := by
  apply wF_eq
  exact wF_run ⟨rfl, Nat.le_of_ble_eq_true rfl, wS_retZ (wI_p (pI_zI (pC_and (pC_kI (pI_lI rfl) pI_cI) (pC_kI (pI_lI rfl) pI_cI))) ⟨bz_01 _, rfl, rfl, rfl⟩)⟩
/-- which promise refuses the cell z, x, w of holder h; 0: it is there -/
def refu (s : SN) (h : Nat) (z x w : Int32) : Int32 := if isP z = true then (match nf s (10 * h + z.toNatClampNeg) with
    | none => 2
    | some l => if isP x = true then (match ng s l x.toNatClampNeg with
        | none => 4
        | some r => if (oGe w 0 && oLt w (nI (nln s r))) = true then 0 else 5) else 3) else 1
theorem sp_refusal {L : Nat} {xs : Nat → Int32} {M : Mm} {s : SN} {nl nr y : Nat} {z x w : Int32} (hG : GFx L xs M) (hC : CRep M s nl nr) (hy : y < 4) : F_X10_refusal [.ref (17 + 2 * y), .int z, .int x, .int w] M = some (some (.int (refu s y z x w)), M) := by
  have hY := hG.2.2.2.1 y hy
  obtain ⟨fl, hF, hf⟩ := hC.1 y (by omega)
  have hLA : LA y = 18 + 2 * y := if_pos hy
  rw [hLA] at hF
  apply wF_eq
  refine wF_run ⟨rfl, Nat.le_of_ble_eq_true rfl, wS_seq (wS_if (wC_p (pC_not (pC_kI (pI_vS (pR_I (pI_lI rfl) pR_0) (sp_isPlace _ _)) pI_cI)) ⟨fun hb => wS_retI (wI_cI ⟨fun q => absurd q (by decide), fun _ => ⟨rfl, ?_, rfl⟩⟩), fun hb => wS_nop ⟨fun _ => ?_, fun q => absurd rfl q⟩⟩))⟩
  · rw [bz_ne] at hb
    unfold refu
    rw [if_neg (by intro q; rw [q] at hb; exact absurd hb (by decide))]
  rw [bz_ne, Bool.not_eq_false'] at hb
  obtain ⟨a, ha, rfl⟩ := isP_nat hb
  have pl : ∀ L : Lv, lkp L 0 = some (.ref (17 + 2 * y)) → lkp L 1 = some (.int (nI a)) → pA (gA 4 (fA 9 1 (lA 0)) (lI 1)) L M (nf s (10 * y + a)) := fun L h0 h1 => by
    have h9 := pA_gA (pA_fA (k := 1) (pA_lA h0) hY rfl) (pI_lI h1) hF (inb_nI ha (by decide))
    rw [nI_clamp (by omega), hf a ha] at h9
    exact h9
  have er : refu s y (nI a) x w = (match nf s (10 * y + a) with
    | none => 2
    | some l => if isP x = true then (match ng s l x.toNatClampNeg with
        | none => 4
        | some r => if (oGe w 0 && oLt w (nI (nln s r))) = true then 0 else 5) else 3) := by
    unfold refu
    rw [if_pos hb, nI_clamp (by omega)]
  rw [er]
  refine wS_seq (wS_if (wC_p (pC_isN (pl _ rfl rfl)) ⟨fun hn => wS_retI (wI_cI ⟨fun q => absurd q (by decide), fun _ => ⟨rfl, ?_, rfl⟩⟩), fun hn => wS_nop ⟨fun _ => ?_, fun q => absurd rfl q⟩⟩))
  · rw [Option.isNone_iff_eq_none.mp hn]
  cases hl : nf s (10 * y + a) with
  | none => rw [hl] at hn; cases hn
  | some l =>
    have hlay := hC.2.1 _ l (by omega) hl
    obtain ⟨-, -, hlo, gl, hgl, hrow⟩ := hlay
    dsimp only
    refine wS_seq (wS_if (wC_p (pC_not (pC_kI (pI_vS (pR_I (pI_lI rfl) pR_0) (sp_isPlace _ _)) pI_cI)) ⟨fun hx => wS_retI (wI_cI ⟨fun q => absurd q (by decide), fun _ => ⟨rfl, ?_, rfl⟩⟩), fun hx => wS_nop ⟨fun _ => ?_, fun q => absurd rfl q⟩⟩))
    · rw [bz_ne] at hx
      rw [if_neg (by intro q; rw [q] at hx; exact absurd hx (by decide))]
    rw [bz_ne, Bool.not_eq_false'] at hx
    obtain ⟨b, hb2, rfl⟩ := isP_nat hx
    rw [if_pos hx, nI_clamp (by omega)]
    have hrw : pA (gA 5 (fA 4 0 (gA 4 (fA 9 1 (lA 0)) (lI 1))) (lI 2)) (mkL 5 [.ref (17 + 2 * y), .int (nI a), .int (nI b), .int w]) M (ng s l b) := by
      have h8 := pl (mkL 5 [.ref (17 + 2 * y), .int (nI a), .int (nI b), .int w]) rfl rfl
      rw [hl] at h8
      have h9 := pA_gA (pA_fA (k := 0) h8 hlo rfl) (pI_lI (i := 2) rfl) hgl (inb_nI hb2 (by decide))
      rw [nI_clamp (by omega), (hrow b hb2).1] at h9
      exact h9
    refine wS_seq (wS_setA (wA_p hrw ⟨fun _ => ?_, fun q => absurd rfl q⟩))
    cases hr : ng s l b with
    | none =>
      refine wS_seq (wS_if (wC_p (pC_isN (pA_of (wA_lA rfl (asA_of none) ⟨rfl, rfl⟩))) ⟨fun _ => wS_retI (wI_cI ⟨fun q => absurd q (by decide), fun _ => ⟨rfl, rfl, rfl⟩⟩), fun q => (by cases q)⟩))
    | some r =>
      obtain ⟨-, -, hro, hln, cr, hcr, -⟩ := (hrow b hb2).2 r hr
      refine wS_seq (wS_if (wC_p (pC_isN (pA_lA (a := r) rfl)) ⟨fun q => (by cases q), fun _ => wS_nop ⟨fun _ => ?_, fun q => absurd rfl q⟩⟩))
      have hnA : pI (nA (fA 7 0 (lA 4))) (stL 4 (va_rf (some r)) (mkL 5 [.ref (17 + 2 * y), .int (nI a), .int (nI b), .int w])) M (nI (nln s r)) := pI_of (wI_nA (wA_p (pA_fA (pA_lA rfl) hro rfl) ⟨r + 1, _, rfl, lenA_of hcr (by decide), rfl, rfl⟩))
      exact wS_retI (wI_p (pI_tI (pC_and (pC_kI (pI_lI rfl) pI_cI) (pC_kI (pI_lI rfl) hnA)) pI_cI pI_cI) ⟨rfl, rfl, rfl⟩)
