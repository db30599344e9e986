/-! there, at, turnAt -/
section RS
variable {L : Nat} {xs : Nat → Int32} {M : Mm} {a : AS} {Lc : Lv} {Q : Lv → Mm → Nat → Option Value → Prop}
theorem ROn.rf : ROn M M := ⟨rfl, rfl, fun _ _ => rfl⟩
theorem ROn.tr {M1 M2 : Mm} (h : ROn M M1) (g : ROn M1 M2) : ROn M M2 := ⟨g.1.trans h.1, g.2.1.trans h.2.1, fun b hb => (g.2.2 b hb).trans (h.2.2 b hb)⟩
theorem COn.rf : COn M M := fun _ _ => rfl
theorem COn.tr {M1 M2 : Mm} (h : COn M M1) (g : COn M1 M2) : COn M M2 := fun b hb => (g b hb).trans (h b hb)
theorem But.ron {S : List Nat} {M' : Mm} (h : But S M M') (hs : ∀ b ∈ S, 69 ≤ b ∧ b < 96) : ROn M M' := ⟨h.1, h.2.1, fun b hb => h.2.2 b (fun q => by have := hs b q; omega)⟩
theorem But.con {S : List Nat} {M' : Mm} (h : But S M M') (hs : ∀ b ∈ S, 5 ≤ b ∧ (b < 69 ∨ 97 ≤ b)) : COn M M' := fun b hb => h.2.2 b (fun q => by have := hs b q; omega)
theorem RSt.set69 (h : RSt L xs a M) {th pm bm : Int32} : RSt L xs a (setC M 69 (.inr (11, fsRv th (zkn a) (znl a) (znr a) pm (zfe a) bm))) := by
  obtain ⟨h1, ⟨h2, ⟨f3, h3⟩, ⟨f4, h4⟩, ⟨f5, h5⟩⟩, -⟩ := h
  refine ⟨h1.fr fun b hb _ => get_ne (fun e => hb (by rw [e]; decide)), ⟨fun a ha => ?_, ⟨f3, (get_ne (by decide)).trans h3⟩, ⟨f4, (get_ne (by decide)).trans h4⟩, ⟨f5, (get_ne (by decide)).trans h5⟩⟩, ⟨th, pm, bm, get_at⟩⟩
  obtain ⟨f, hf⟩ := h2 a ha
  have all : ∀ a ∈ [85, 86, 88, 89, 90, 93, 94, 95], a ≠ 69 := by decide
  exact ⟨f, (get_ne (all a ha)).trans hf⟩
theorem ron_set {b : Nat} {c : MC} (h1 : 69 ≤ b) (h2 : b < 96) : ROn M (setC M b c) := ⟨rfl, rfl, fun d hd => get_ne (by omega)⟩
theorem r_st {b : DS} (h : RSt L xs a M) (h0 : lkp Lc 0 = some (.ref 69)) (k : ∀ M0, RSt L xs a M0 → ROn M M0 → wS b Lc M0 Q) : wS (seqS (pfI 11 0 (lA 0) (cI 0)) b) Lc M Q := by
  obtain ⟨th, pm, bm, h69⟩ := id h.2.2
  exact q_pf (pA_lA h0) pI_cI h69 (Nat.le_of_ble_eq_true rfl) (k _ (h.set69 (th := 0) (pm := pm) (bm := bm)) (ron_set (by decide) (by decide)))
end RS
theorem ok2_there (L : Nat) (xs : Nat → Int32) (y z x w : Int32) : OK2 (Inv2 L xs) F_X11_there F_X12_there [.int y, .int z, .int x, .int w] := by
  refine ok2_rd (fun a => thV (zab a) y z x w) (fun a M _ _ h => wF_of (sp_there h.1 y z x w) ⟨rfl, h, COn.rf⟩) (fun a M _ _ h => wF_b rfl (Nat.le_of_ble_eq_true rfl) (r_st h rfl fun M0 h0 s0 => ?_))
  obtain ⟨th, pm, bm, h69⟩ := id h0.2.2
  refine l_ret (pI_tD (x := refuA (zab a) y.toNatClampNeg z x w) (pC_nz (pI_vS (pR_I (pI_lI rfl) pR_0) (sp_isYardR _ _))) (fun hb => ?_) (fun _ => pI_cI)) ⟨rfl, rfl, h0, s0⟩
  obtain ⟨yn, hy, rfl⟩ := isY_nat hb
  rw [nI_clamp (by omega)]
  exact pI_vV (pR_A (pA_lA rfl) (pR_I (pI_lI rfl) (pR_I (pI_lI rfl) (pR_I (pI_lI rfl) (pR_I (pI_lI rfl) pR_0))))) h69 (sp_thereR h0.1 h0.2.2 (by omega) z x w)
theorem kR_if (v : Int32) : (if oEq v (-1) = true then -1 else kd v) = kR v := by
  unfold kR kd oEq
  by_cases e : v = -1 <;> simp [e]
theorem ok2_at (L : Nat) (xs : Nat → Int32) (y z x w : Int32) : OK2 (Inv2 L xs) F_X11_at F_X12_at [.int y, .int z, .int x, .int w] := by
  refine ok2_rd (fun a => kR (inV (zab a) y z x w)) (fun a M _ _ h => wF_b rfl (Nat.le_of_ble_eq_true rfl) ?_) (fun a M _ _ h => wF_b rfl (Nat.le_of_ble_eq_true rfl) (r_st h rfl fun M0 h0 s0 => ?_))
  · refine q_I rfl (pI_vV (pR_A (pA_lA rfl) (pR_I (pI_lI rfl) (pR_I (pI_lI rfl) (pR_I (pI_lI rfl) (pR_I (pI_lI rfl) pR_0))))) h.1.o5 (sp_codeIn h.1 y z x w)) ?_
    refine l_ret (pI_tI (pC_kI (pI_lI rfl) pI_cI) pI_cI (pI_vS (pR_I (pI_lI rfl) pR_0) (sp_kindOf _ _))) ⟨rfl, ?_, h, COn.rf⟩
    rw [kR_if]
  · obtain ⟨th, pm, bm, h69⟩ := id h0.2.2
    refine l_ret (pI_tD (x := kR (inV (zab a) y z x w)) (pC_nz (pI_vS (pR_I (pI_lI rfl) pR_0) (sp_isYardR _ _))) (fun hb => ?_) (fun _ => pI_cI)) ⟨rfl, ?_, h0, s0⟩
    · unfold inV
      rw [if_pos hb]
      obtain ⟨yn, hy, rfl⟩ := isY_nat hb
      rw [nI_clamp (by omega)]
      exact pI_vV (pR_A (pA_lA rfl) (pR_I (pI_lI rfl) (pR_I (pI_lI rfl) (pR_I (pI_lI rfl) (pR_I (pI_lI rfl) pR_0))))) h69 (sp_kindAt h0.1 h0.2.2 (by omega) z x w)
    · by_cases hb : isY y = true
      · rw [if_pos hb]
      · unfold inV
        rw [if_neg hb, if_neg hb]
        rfl
theorem ok2_turnAt (L : Nat) (xs : Nat → Int32) (y z x w : Int32) : OK2 (Inv2 L xs) F_X11_turnAt F_X12_turnAt [.int y, .int z, .int x, .int w] := by
  refine ok2_rd (fun a => if oEq (inV (zab a) y z x w) (-1) = true then -1 else tn (inV (zab a) y z x w)) (fun a M _ _ h => wF_b rfl (Nat.le_of_ble_eq_true rfl) ?_) (fun a M _ _ h => wF_b rfl (Nat.le_of_ble_eq_true rfl) (r_st h rfl fun M0 h0 s0 => ?_))
  · refine q_I rfl (pI_vV (pR_A (pA_lA rfl) (pR_I (pI_lI rfl) (pR_I (pI_lI rfl) (pR_I (pI_lI rfl) (pR_I (pI_lI rfl) pR_0))))) h.1.o5 (sp_codeIn h.1 y z x w)) ?_
    exact l_ret (pI_tI (pC_kI (pI_lI rfl) pI_cI) pI_cI (pI_vS (pR_I (pI_lI rfl) pR_0) (sp_turnOf _ _))) ⟨rfl, rfl, h, COn.rf⟩
  · obtain ⟨th, pm, bm, h69⟩ := id h0.2.2
    refine l_ret (pI_tD (b := isY y && oEq (refuA (zab a) y.toNatClampNeg z x w) 0) (x := tn (inV (zab a) y z x w)) (pC_andD (pC_nz (pI_vS (pR_I (pI_lI rfl) pR_0) (sp_isYardR _ _))) fun hb => ?_) (fun hb => ?_) (fun _ => pI_cI)) ⟨rfl, ?_, h0, s0⟩
    · obtain ⟨yn, hy, rfl⟩ := isY_nat hb
      rw [nI_clamp (by omega)]
      exact pC_kI (pI_vV (pR_A (pA_lA rfl) (pR_I (pI_lI rfl) (pR_I (pI_lI rfl) (pR_I (pI_lI rfl) (pR_I (pI_lI rfl) pR_0))))) h69 (sp_thereR h0.1 h0.2.2 (by omega) z x w)) pI_cI
    · obtain ⟨hb, h2⟩ := Bool.and_eq_true_iff.mp hb
      obtain ⟨yn, hy, rfl⟩ := isY_nat hb
      rw [nI_clamp (by omega)] at h2
      have e2 : refuA (zab a) yn z x w = 0 := by simpa [oEq] using h2
      obtain ⟨zn, xn, wn, hz, hx, hw, rfl, rfl, rfl, -, -, hne⟩ := refuA_0 e2
      rw [inV_yes hy hz hx hw e2]
      obtain ⟨i, ck, ct, hi, e1, d1, d2, -, d3, -⟩ := sp_cellA h0.1 h0.2.2 (y := yn) (by omega) hz hx hw hne
      have h9 := pI_gI (t := 0) (L := mkL 5 [.ref 69, .int (nI yn), .int (nI zn), .int (nI xn), .int (nI wn)]) (pA_fA (k := 12) (pA_lA (i := 0) rfl) h69 rfl) (pI_vV (pR_A (pA_lA (i := 0) rfl) (pR_I (pI_lI (i := 1) rfl) (pR_I (pI_lI (i := 2) rfl) (pR_I (pI_lI (i := 3) rfl) (pR_I (pI_lI (i := 4) rfl) pR_0))))) h69 e1) d2 (inb_nI hi (by decide))
      rw [nI_clamp (by omega), d3] at h9
      exact h9
    · by_cases hb : isY y = true
      · rw [hb, Bool.true_and]
        by_cases e2 : refuA (zab a) y.toNatClampNeg z x w = 0
        · have e3 : ¬ inV (zab a) y z x w = -1 := by
            obtain ⟨yn, hy, rfl⟩ := isY_nat hb
            rw [nI_clamp (by omega)] at e2
            have e4 := e2
            obtain ⟨zn, xn, wn, hz, hx, hw, rfl, rfl, rfl, -, -, hne⟩ := refuA_0 e2
            rw [inV_yes hy hz hx hw e4]
            exact hne
          have e5 : ¬ oEq (inV (zab a) y z x w) (-1) = true := by simpa [oEq] using e3
          have e6 : oEq (refuA (zab a) y.toNatClampNeg z x w) 0 = true := by simpa [oEq] using e2
          rw [if_pos e6, if_neg e5]
        · have e3 : inV (zab a) y z x w = -1 := by
            unfold inV atV
            rw [if_pos hb, if_neg e2]
          have e6 : ¬ oEq (refuA (zab a) y.toNatClampNeg z x w) 0 = true := by simpa [oEq] using e2
          rw [if_neg e6, e3]
          rfl
      · have e3 : inV (zab a) y z x w = -1 := by
          unfold inV
          rw [if_neg hb]
        rw [e3, Bool.eq_false_iff.mpr hb]
        rfl
