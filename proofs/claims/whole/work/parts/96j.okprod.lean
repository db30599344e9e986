theorem ts_k {t s : Int32} (h : tsOk t s = true) {j : Nat} (hj : j < 3) : inb (3 * (s / 4) + nI j) 18 = true ∧ inb (3 * (t / 4) + axF s (nI j)) 18 = true ∧ inb (t / 4) 6 = true ∧ inb (s / 4) 6 = true := by
  simp only [tsOk, Bool.and_eq_true] at h
  obtain ⟨⟨⟨⟨⟨⟨⟨h1, h2⟩, h3⟩, h4⟩, h5⟩, h6⟩, h7⟩, h8⟩ := h
  rcases (show j = 0 ∨ j = 1 ∨ j = 2 by omega) with rfl | rfl | rfl
  · exact ⟨h1, h4, h7, h8⟩
  · exact ⟨h2, h5, h7, h8⟩
  · exact ⟨h3, h6, h7, h8⟩
theorem sp_times {M : Mm} {t s : Nat} (hT : Tab M) (ht : t < 24) (hs : s < 24) : F_X12_times [.ref 69, .int (nI t), .int (nI s)] M = some (some (.int (aft (nI t) (nI s))), M) := by
  obtain ⟨a, ha, e, hm, hno⟩ := mt_all t ht s hs
  apply wF_eq
  refine wF_run ⟨rfl, Nat.le_of_ble_eq_true rfl, ?_⟩
  refine wS_seq (wS_scp (wS_seq (wS_setK rfl (wI_p pI_cI ⟨fun _ => ?_, fun q => absurd rfl q⟩))))
  refine wS_for 24 rfl (by decide) (fun r L M' => M' = M ∧ L = [some (.ref 69), some (.int (nI t)), some (.int (nI s)), some (.int (nI r)), none, none] ∧ r ≤ a) ?_ ?_ ?_ (j := 0) (Nat.zero_le _) ⟨rfl, rfl, Nat.zero_le _⟩
  · rintro r L M' ⟨-, rfl, -⟩
    rfl
  · rintro r L M' hr ⟨rfl, rfl, hra⟩
    refine wS_scp (wS_seq (wS_setK rfl (wI_p pI_cI ⟨fun _ => ?_, fun q => absurd rfl q⟩)))
    refine wS_seq (wS_scp (wS_seq (wS_setK rfl (wI_p pI_cI ⟨fun _ => ?_, fun q => absurd rfl q⟩))))
    refine wS_for 3 rfl (by decide) (fun j L M'' => M'' = M' ∧ L = [some (.ref 69), some (.int (nI t)), some (.int (nI s)), some (.int (nI r)), some (.int (bz (mtk (nI r) (nI t) (nI s) j))), some (.int (nI j))]) ?_ ?_ ?_ (j := 0) (Nat.zero_le _) ⟨rfl, rfl⟩
    · rintro j L M'' ⟨-, rfl⟩
      rfl
    · rintro j L M'' hj ⟨rfl, rfl⟩
      obtain ⟨k1, k2, k3, k4⟩ := ts_k (ts_all t ht s hs) hj
      obtain ⟨r1, -, -, r4⟩ := ts_k (ts_all t ht r hr) hj
      refine wS_setK rfl (wI_p (v := bz (mtk (nI r) (nI t) (nI s) (j + 1))) ?_ ⟨fun q => absurd q (by decide), fun q => absurd q (by decide), fun _ _ => ⟨rfl, rfl, rfl⟩⟩)
      have hp := pI_zI (L := [some (.ref 69), some (.int (nI t)), some (.int (nI s)), some (.int (nI r)), some (.int (bz (mtk (nI r) (nI t) (nI s) j))), some (.int (nI j))]) (M := M'') (pC_and (pC_and (pC_kI (op := oNe) (pI_lI (i := 4) rfl) (pI_cI (v := 0)))
        (pC_kI (op := oEq) (pI_vS (pR_I (pI_lI (i := 3) rfl) (pR_I (pI_lI (i := 5) rfl) pR_0)) (sp_to hT r1)) (pI_vS (pR_I (pI_lI (i := 1) rfl) (pR_I (pI_vS (pR_I (pI_lI (i := 2) rfl) (pR_I (pI_lI (i := 5) rfl) pR_0)) (sp_to hT k1)) pR_0)) (sp_to hT k2))))
        (pC_kI (op := oEq) (pI_vS (pR_I (pI_lI (i := 3) rfl) (pR_I (pI_lI (i := 5) rfl) pR_0)) (sp_sign hT r4)) (pI_mul (pI_vS (pR_I (pI_lI (i := 2) rfl) (pR_I (pI_lI (i := 5) rfl) pR_0)) (sp_sign hT k4)) (pI_vS (pR_I (pI_lI (i := 1) rfl) (pR_I (pI_vS (pR_I (pI_lI (i := 2) rfl) (pR_I (pI_lI (i := 5) rfl) pR_0)) (sp_to hT k1)) pR_0)) (sp_sign hT k3)))))
      rw [bz_ne] at hp
      exact hp
    · rintro L M'' ⟨rfl, rfl⟩
      refine ⟨fun _ => ?_, fun q => absurd rfl q⟩
      refine wS_if (wC_p (pC_kI (pI_lI rfl) pI_cI) ⟨fun hb => wS_retI (wI_p (pI_lI rfl) ⟨fun q => absurd q (by decide), fun _ => ?_, fun _ q => absurd rfl q⟩), fun hb => wS_nop ⟨fun q => absurd q (by decide), fun q => absurd q (by decide), fun _ _ => ⟨rfl, rfl, rfl, ?_⟩⟩⟩)
      · rw [bz_ne] at hb
        have hra2 : r = a := by
          by_cases q : r < a
          · exact absurd (hb.symm.trans (hno r q)) (by decide)
          · omega
        subst hra2
        exact ⟨fun q => absurd q (by decide), fun _ => ⟨rfl, by rw [e], rfl⟩⟩
      · rw [bz_ne] at hb
        by_cases q : r = a
        · subst q
          exact absurd (hb.symm.trans hm) (by decide)
        · omega
  · rintro L M' ⟨-, -, hra⟩
    omega
