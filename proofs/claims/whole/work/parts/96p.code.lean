/-! a cell's code: the class's side -/
theorem nI_div {c m : Nat} {a : Int32} (ha : a = nI m) (hc : c < 2 ^ 31) (hm : 0 < m) (hm2 : m < 2 ^ 31) : nI c / a = nI (c / m) := by
  subst ha
  apply Int32.toInt_inj.mp
  have h1 : c / m ≤ c := Nat.div_le_self c m
  rw [dvI (n := (m : Int)) (nI_toInt hm2) (by omega) (by rw [nI_toInt hc]; omega), nI_toInt hc, nI_toInt (by omega)]
  exact (Int.natCast_ediv c m).symm
theorem nI_rem {c m : Nat} {a : Int32} (ha : a = nI m) (hc : c < 2 ^ 31) (hm : 0 < m) (hm2 : m < 2 ^ 31) : nI c - nI c / a * a = nI (c % m) := by
  subst ha
  apply Int32.toInt_inj.mp
  have h1 : c % m ≤ c := Nat.mod_le c m
  rw [rmI (n := (m : Int)) (nI_toInt hm2) (by rw [nI_toInt hc]; omega), nI_toInt hc, nI_toInt (by omega)]
  exact (Int.natCast_emod c m).symm
theorem sp_zOf {c : Nat} (h : c < 1000) (M : Mm) : F_X11_zOf [.int (nI c)] M = some (some (.int (nI (c / 100))), M) := by
  rw [← nI_div (a := 100) rfl (by omega) (by decide) (by decide)]
  rfl
theorem sp_xOf {c : Nat} (h : c < 1000) (M : Mm) : F_X11_xOf [.int (nI c)] M = some (some (.int (nI (c / 10 % 10))), M) := by
  rw [← nI_rem (c := c / 10) (a := 10) rfl (by omega) (by decide) (by decide), ← nI_div (a := 10) rfl (by omega) (by decide) (by decide)]
  rfl
theorem sp_wOf {c : Nat} (h : c < 1000) (M : Mm) : F_X11_wOf [.int (nI c)] M = some (some (.int (nI (c % 10))), M) := by
  rw [← nI_rem (a := 10) rfl (by omega) (by decide) (by decide)]
  rfl
theorem sp_layerAt {L : Nat} {xs : Nat → Int32} {M : Mm} {s : SN} {nl nr y z : Nat} (hG : GFx L xs M) (hC : CRep M s nl nr) (hy : y < 4) (hz : z < 10) : F_X10_layerAt [.ref (17 + 2 * y), .int (nI z)] M = some (some (va_rf (nf s (10 * y + z))), M) := by
  have hY := hG.2.2.2.1 y hy
  obtain ⟨fl, hF, hf⟩ := hC.1 y (by omega)
  rw [show LA y = 18 + 2 * y from if_pos hy] at hF
  have hp : isP (nI z) = true := by
    simp only [isP, oGe, oLt, Bool.and_eq_true, decide_eq_true_eq]
    exact ⟨nI_pos' (by omega), nI_lt (b := 10) hz (by decide)⟩
  apply wF_eq
  refine wF_run ⟨rfl, Nat.le_of_ble_eq_true rfl, wS_retA (wA_tA (wC_p (pC_kI (pI_vS (pR_I (pI_lI rfl) pR_0) (sp_isPlace _ _)) pI_cI) ⟨fun _ => ?_, fun hb => by rw [bz_ne, hp] at hb; cases hb⟩))⟩
  have h9 := pA_gA (pA_fA (k := 1) (pA_lA (i := 0) (L := mkL 2 [.ref (17 + 2 * y), .int (nI z)]) rfl) hY rfl) (pI_lI (i := 1) rfl) hF (inb_nI hz (by decide))
  rw [nI_clamp (by omega), hf z hz] at h9
  exact wA_p h9 ⟨rfl, rfl, rfl⟩
theorem sp_rowAt {L : Nat} {xs : Nat → Int32} {M : Mm} {s : SN} {nl nr y z x : Nat} (hG : GFx L xs M) (hC : CRep M s nl nr) (hy : y < 4) (hz : z < 10) (hx : x < 10) : F_X10_rowAt [.ref (17 + 2 * y), .int (nI z), .int (nI x)] M = some (some (va_rf (rwo s (10 * y + z) x)), M) := by
  have hp : isP (nI x) = true := by
    simp only [isP, oGe, oLt, Bool.and_eq_true, decide_eq_true_eq]
    exact ⟨nI_pos' (by omega), nI_lt (b := 10) hx (by decide)⟩
  apply wF_eq
  refine wF_run ⟨rfl, Nat.le_of_ble_eq_true rfl, wS_seq (wS_setA (wA_vA (wV_V (wR_A (wA_p (pA_lA rfl) (wR_I (wI_p (pI_lI rfl) (wR_0 ⟨isR_of (hG.2.2.2.1 y hy), wF_of (sp_layerAt hG hC hy hz) ⟨_, _, rfl, asA_of _, fun _ => ?_, fun q => absurd rfl q⟩⟩))))))))⟩
  cases hl : nf s (10 * y + z) with
  | none =>
    have er : rwo s (10 * y + z) x = none := by unfold rwo; rw [hl]; rfl
    rw [er]
    exact wS_retA (wA_tA (wC_and (wC_p (pC_notN (pA_of (wA_lA rfl (asA_of none) ⟨rfl, rfl⟩))) ⟨fun q => (by cases q), fun _ => ⟨fun q => (by cases q), fun _ => wA_cN ⟨rfl, rfl, rfl⟩⟩⟩)))
  | some l =>
    have er : rwo s (10 * y + z) x = ng s l x := by unfold rwo; rw [hl]; rfl
    rw [er]
    obtain ⟨-, -, hlo, gl, hgl, hrow⟩ := hC.2.1 _ l (by omega) hl
    refine wS_retA (wA_tA (wC_p (pC_and (pC_notN (pA_lA (a := l) rfl)) (pC_kI (pI_vS (pR_I (pI_lI rfl) pR_0) (sp_isPlace _ _)) pI_cI)) ⟨fun _ => ?_, fun hb => by rw [bz_ne, hp] at hb; cases hb⟩))
    have h9 := pA_gA (pA_fA (k := 0) (pA_lA (i := 3) (L := stL 3 (va_rf (some l)) (mkL 4 [.ref (17 + 2 * y), .int (nI z), .int (nI x)])) rfl) hlo rfl) (pI_lI (i := 2) rfl) hgl (inb_nI hx (by decide))
    rw [nI_clamp (by omega), (hrow x hx).1] at h9
    exact wA_p h9 ⟨rfl, rfl, rfl⟩
