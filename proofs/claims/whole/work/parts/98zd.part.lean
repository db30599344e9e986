noncomputable def lbS (g : Nat → Int32) (c : Nat) : Option Nat := @dite _ (∃ lb, LB g 1000 lb) (Classical.propDecidable _) (fun h => Classical.choose h c) (fun _ => none)
theorem lbS_eq {g : Nat → Int32} {lb : Nat → Option Nat} (h : LB g 1000 lb) {c : Nat} (hc : c < 1000) : lb c = lbS g c := by
  have hx : ∃ lb, LB g 1000 lb := ⟨lb, h⟩
  unfold lbS
  rw [dif_pos hx]
  exact h.un (Classical.choose_spec hx) hc
noncomputable def paV (y z x w : Int32) (a : AS) : Int32 := if oLe (inV (zab a) y z x w) 0 = true then -1 else oI (lbS (cdA (zab a) y.toNatClampNeg) (cNat z x w))
theorem ok2_part (L : Nat) (xs : Nat → Int32) (y z x w : Int32) : OK2 (Inv2 L xs) F_X11_part F_X12_part [.int y, .int z, .int x, .int w] := by
  refine ok2_rd (paV y z x w) (fun a M hO hb h => ?_) (fun a M hO hb h => wF_b rfl (Nat.le_of_ble_eq_true rfl) (r_st h rfl fun M0 h0 s0 => ?_))
  · unfold paV
    refine wF_b rfl (Nat.le_of_ble_eq_true rfl) (q_if (pC_kI (pI_vV (pR_A (pA_lA rfl) (pR_I (pI_lI rfl) (pR_I (pI_lI rfl) (pR_I (pI_lI rfl) (pR_I (pI_lI rfl) pR_0))))) h.1.o5 (sp_codeIn h.1 y z x w)) pI_cI) (fun hb1 => ?_) (fun hb1 => ?_))
    · rw [if_pos hb1]
      exact q_ret pI_cI ⟨rfl, rfl, h, COn.rf⟩
    · rw [if_neg (by rw [hb1]; decide)]
      obtain ⟨yn, zn, xn, wn, hy, hz, hx, hw, rfl, rfl, rfl, rfl, e1, e2, e3, e4⟩ := inV_blk hb1
      rw [e1, e2]
      have hc : 100 * zn + 10 * xn + wn < 1000 := by omega
      refine q_ex (wV_Vw (pR_A (pA_lA rfl) (pR_I (pI_lI rfl) pR_0)) h.1.o5 ((sp_findPartsC h hy).mono ?_))
      rintro v M1 ⟨rfl, h1, h2, h3, lb, mem, st, k2, k3⟩
      obtain ⟨l1, ⟨fl, fm, l2, l3, l4, -⟩, -⟩ := id k3
      have h9 := pI_gI (t := 0) (pA_fA (k := 0) (pA_lumps (Lc := [some (.ref 5), some (.int (nI yn)), some (.int (nI zn)), some (.int (nI xn)), some (.int (nI wn))]) h1.1 rfl) l1 rfl) (pI_vS (pR_I (pI_lI (i := 2) rfl) (pR_I (pI_lI (i := 3) rfl) (pR_I (pI_lI (i := 4) rfl) pR_0))) (sp_cellOf zn xn wn M1)) l2 (inb_nI hc (by decide))
      rw [nI_clamp (by omega), l4 _ hc, lbS_eq k2 hc] at h9
      exact ⟨rfl, l_ret h9 ⟨rfl, rfl, h1, h2.con (by decide)⟩⟩
  · obtain ⟨th, pm, bm, h69⟩ := id h0.2.2
    unfold paV
    have er := kR_le (inV_ok hO y z x w)
    refine q_if (v := oLe (inV (zab a) y z x w) 0) (pC_eq (pC_orD (y := oLe (inV (zab a) y z x w) 0) (pC_not (pC_nz (pI_vS (pR_I (pI_lI rfl) pR_0) (sp_isYardR _ _)))) fun hb1 => ?_) ?_) (fun hb1 => ?_) (fun hb1 => ?_)
    · rw [Bool.not_eq_false'] at hb1
      rw [← er]
      unfold inV
      rw [if_pos hb1]
      obtain ⟨yn, hy, rfl⟩ := isY_nat hb1
      rw [nI_clamp (by omega)]
      exact pC_kI (pI_vV (pR_A (pA_lA rfl) (pR_I (pI_lI rfl) (pR_I (pI_lI rfl) (pR_I (pI_lI rfl) (pR_I (pI_lI rfl) pR_0))))) h69 (sp_kindAt h0.1 h0.2.2 (by omega) z x w)) pI_cI
    · by_cases q : isY y = true
      · rw [q]; rfl
      · have : inV (zab a) y z x w = -1 := by unfold inV; rw [if_neg q]
        rw [this, Bool.eq_false_iff.mpr q]; rfl
    · rw [if_pos hb1]
      exact q_ret pI_cI ⟨rfl, rfl, h0, s0⟩
    · rw [if_neg (by rw [hb1]; decide)]
      obtain ⟨yn, zn, xn, wn, hy, hz, hx, hw, rfl, rfl, rfl, rfl, e1, e2, e3, e4⟩ := inV_blk hb1
      rw [e1, e2]
      have hc : 100 * zn + 10 * xn + wn < 1000 := by omega
      have ec : (100 : Int32) * nI zn + 10 * nI xn + nI wn = nI (100 * zn + 10 * xn + wn) := by
        rw [← nI_add, ← nI_add, ← nI_mul (c := 100) rfl, ← nI_mul (c := 10) rfl]
      refine q_ex (wV_Vw (pR_A (pA_lA rfl) (pR_I (pI_lI rfl) pR_0)) h69 ((sp_findPartsR h0 hO hy).mono ?_))
      rintro v M1 ⟨rfl, h1, s1, lb, k2, th1, bm1, fl, ff, k3, k4, k5, k6, -⟩
      have h9 := pI_gI (t := 0) (L := [some (.ref 69), some (.int (nI yn)), some (.int (nI zn)), some (.int (nI xn)), some (.int (nI wn))]) (pA_fA (k := 22) (pA_lA (i := 0) rfl) k3 rfl) (pI_eq (pI_add (pI_add (pI_mul pI_cI (pI_lI (i := 2) rfl)) (pI_mul pI_cI (pI_lI (i := 3) rfl))) (pI_lI (i := 4) rfl)) ec) k4 (inb_nI hc (by decide))
      rw [nI_clamp (by omega), k6 _ hc, lbS_eq k2 hc] at h9
      exact ⟨rfl, l_ret h9 ⟨rfl, rfl, h1, s0.tr s1⟩⟩
