/-! cut -/
section PJ
variable {L : Lv} {M : Mm} {Q : Lv → Mm → Nat → Option Value → Prop}
def pJ (e : DJ) (L : Lv) (M : Mm) (v : Int64) : Prop := e L M = some (v, M)
theorem wJ_p {e : DJ} {v : Int64} {Q : Int64 → Mm → Prop} (h : pJ e L M v) (k : Q v M) : wJ e L M Q := ⟨v, M, h, k⟩
theorem pJ_of {e : DJ} {v : Int64} (h : wJ e L M fun x M1 => x = v ∧ M1 = M) : pJ e L M v := by
  obtain ⟨x, M1, h1, rfl, rfl⟩ := h
  exact h1
theorem pJ_i {e : DI} {x : Int32} (h : pI e L M x) : pJ (iJ e) L M x.toInt64 := pJ_of (wJ_iJ (wI_p h ⟨rfl, rfl⟩))
theorem pJ_add {a b : DJ} {x y : Int64} (h : pJ a L M x) (g : pJ b L M y) : pJ (bJ jAdd a b) L M (x + y) := pJ_of (wJ_add (wJ_p h (wJ_p g ⟨rfl, rfl⟩)))
theorem pJ_mul {a b : DJ} {x y : Int64} (h : pJ a L M x) (g : pJ b L M y) : pJ (bJ jMul a b) L M (x * y) := pJ_of (wJ_mul (wJ_p h (wJ_p g ⟨rfl, rfl⟩)))
theorem pJ_c {v : Int64} : pJ (cJ v) L M v := rfl
theorem pJ_l {i : Nat} {x : Int64} (h : lkp L i = some (.long x)) : pJ (lJ i) L M x := pJ_of (wJ_lJ h rfl ⟨rfl, rfl⟩)
theorem pC_kJ {op : Int64 → Int64 → Bool} {a b : DJ} {x y : Int64} (h : pJ a L M x) (g : pJ b L M y) : pC (kJ op a b) L M (op x y) := pC_of (wC_kJ (wJ_p h (wJ_p g ⟨rfl, rfl⟩)))
theorem q_J {i : Nat} {e : DJ} {v : Int64} {b : DS} (h : pJ e L M v) (k : wS b (stJ i (.long v) L) M Q) : wS (seqS (setJ i e) b) L M Q := wS_seq (wS_setJ (wJ_p h ⟨fun _ => k, fun q => absurd rfl q⟩))
end PJ
def cuL (a b c : Int32) (e : Nat) : Int64 := a.toInt64 * (2 * nI (e / 100) + 1).toInt64 + b.toInt64 * (2 * nI (e / 10 % 10) + 1).toInt64 + c.toInt64 * (2 * nI (e % 10) + 1).toInt64
def cuQ (a b c d : Int32) (e : Nat) : Bool := jGt (cuL a b c e) (2 * d.toInt64)
def cuS (y a b c d : Int32) (s : AS) : Int32 × AS := if isY y = true then (nI (opR y.toNatClampNeg (cuQ a b c d) s 1000).1, (opR y.toNatClampNeg (cuQ a b c d) s 1000).2) else (-1, s)
theorem ok2_cut (L : Nat) (xs : Nat → Int32) (y e1 e2 e3 e4 : Int32) : OK2 (Inv2 L xs) F_X11_cut F_X12_cut [.int y, .int e1, .int e2, .int e3, .int e4] := by
  refine ok2_of (cuS y e1 e2 e3 e4) (fun a M hO hb h => ?_) (fun a M hO hb h => wF_b rfl (Nat.le_of_ble_eq_true rfl) (r_st h rfl fun M0 h0 s0 => ?_)) (fun a hO => ?_)
  · unfold cuS
    refine wF_b rfl (Nat.le_of_ble_eq_true rfl) (q_if (pC_not (pC_nz (pI_vS (pR_I (pI_lI rfl) pR_0) (sp_isYardC _ _)))) (fun hb1 => ?_) (fun hb1 => ?_))
    · rw [Bool.not_eq_true'] at hb1
      rw [if_neg (by rw [hb1]; decide)]
      exact q_ret pI_cI ⟨rfl, rfl, h, COn.rf⟩
    · rw [Bool.not_eq_false'] at hb1
      rw [if_pos hb1]
      dsimp only
      obtain ⟨yn, hy, rfl⟩ := isY_nat hb1
      rw [nI_clamp (by omega), ← op_list]
      refine q_ex (wV_Vw (pR_A (pA_lA rfl) (pR_I (pI_lI rfl) pR_0)) h.1.o5 ((sp_readBox h hy).mono ?_))
      rintro v M1 ⟨rfl, h1, h2, h3⟩
      have hlen := opL_len yn a
      have h3 : GrC M1 51 (cdA (zab a) yn) (opL yn a) := h3
      refine ⟨rfl, q_I rfl pI_cI ?_⟩
      refine q_forC (opL yn a).length (fun j L' M2 => L' = [some (.ref 5), some (.int (nI yn)), some (.int e1), some (.int e2), some (.int e3), some (.int e4), some (.int (nI (chG yn (fun _ c => cuQ e1 e2 e3 e4 c) (fun _ _ => 0) a ((opL yn a).take j)).1)), some (.int (nI j)), none, none, none] ∧ CSt L xs (chG yn (fun _ c => cuQ e1 e2 e3 e4 c) (fun _ _ => 0) a ((opL yn a).take j)).2 M2 ∧ FrH yn M1 M2) rfl (a := 0) pI_cI (by have : big = 1000000 := rfl; omega) (Nat.zero_le _) ⟨rfl, h1, fun _ _ _ _ => rfl⟩ ?_ ?_ ?_
      · rintro j L' M2 hj ⟨rfl, c1, c2⟩
        exact pC_eq (pC_kI (pI_lI rfl) (pI_blocks c1.1 (c2.grid (by omega) h3) rfl)) (oLt_nI (by omega) (by omega))
      · rintro j L' M2 hj ⟨rfl, c1, c2⟩
        have h4 := c2.grid (by omega) h3
        have hcj := opL_lt (getD_mem hj)
        have est : chG yn (fun _ c => cuQ e1 e2 e3 e4 c) (fun _ _ => 0) a ((opL yn a).take (j + 1)) = stp yn (fun _ c => cuQ e1 e2 e3 e4 c) (fun _ _ => 0) (chG yn (fun _ c => cuQ e1 e2 e3 e4 c) (fun _ _ => 0) a ((opL yn a).take j)) ((opL yn a).getD j 0) := chG_take _ _ _ _ hj
        refine l_scp (q_I rfl (pI_list c1.1 h4 hlen rfl rfl hj) ?_)
        refine q_J (v := cuL e1 e2 e3 ((opL yn a).getD j 0)) (pJ_add (pJ_add (pJ_mul (pJ_i (pI_lI rfl)) (pJ_i (pI_add (pI_mul pI_cI (pI_vS (pR_I (pI_lI rfl) pR_0) (sp_zOf hcj M2))) pI_cI))) (pJ_mul (pJ_i (pI_lI rfl)) (pJ_i (pI_add (pI_mul pI_cI (pI_vS (pR_I (pI_lI rfl) pR_0) (sp_xOf hcj M2))) pI_cI)))) (pJ_mul (pJ_i (pI_lI rfl)) (pJ_i (pI_add (pI_mul pI_cI (pI_vS (pR_I (pI_lI rfl) pR_0) (sp_wOf hcj M2))) pI_cI)))) ?_
        refine l_if (v := cuQ e1 e2 e3 e4 ((opL yn a).getD j 0)) (pC_kJ (pJ_l rfl) (pJ_mul pJ_c (pJ_i (pI_lI rfl)))) (fun hb2 => ?_) (fun hb2 => ?_)
        · have est2 := est.trans (if_pos hb2)
          rw [op_ch (by omega) hj] at est2
          refine q_exP (wV_Vw (pR_A (pA_yard c1.1.1 c1.1.o5 hy rfl rfl) (pR_I (pI_lI rfl) (pR_I pI_cI pR_0))) (c1.1.y hy) ((sp_open hO hb hy hj (fun _ _ _ => trivial) c1 c2).mono ?_))
          rintro r M3 ⟨rfl, d1, d2, -⟩
          refine ⟨_, rfl, l_inc rfl rfl (Or.inr ⟨by decide, by decide, rfl, rfl, ?_, ?_, d2⟩)⟩
          · rw [est2, nI_1]; rfl
          · rw [est2]; exact d1
        · have est2 := est.trans (if_neg (by show ¬ cuQ e1 e2 e3 e4 ((opL yn a).getD j 0) = true; rw [hb2]; decide))
          exact wS_nop (Or.inr ⟨by decide, by decide, rfl, rfl, by rw [est2]; rfl, by rw [est2]; exact c1, c2⟩)
      · rintro L' M2 ⟨rfl, c1, c2⟩
        rw [List.take_length] at c1 ⊢
        exact l_ret (pI_lI rfl) ⟨rfl, rfl, c1, (h2.con (by decide)).tr (c2.con (by omega))⟩
  · obtain ⟨th, pm, bm, h69⟩ := id h0.2.2
    unfold cuS
    refine q_if (pC_not (pC_nz (pI_vS (pR_I (pI_lI rfl) pR_0) (sp_isYardR _ _)))) (fun hb1 => ?_) (fun hb1 => ?_)
    · rw [Bool.not_eq_true'] at hb1
      rw [if_neg (by rw [hb1]; decide)]
      exact q_ret pI_cI ⟨rfl, rfl, h0, s0⟩
    · rw [Bool.not_eq_false'] at hb1
      rw [if_pos hb1]
      dsimp only
      obtain ⟨yn, hy, rfl⟩ := isY_nat hb1
      rw [nI_clamp (by omega)]
      refine q_I rfl pI_cI ?_
      refine q_for 1000 (fun j L' M2 => L' = [some (.ref 69), some (.int (nI yn)), some (.int e1), some (.int e2), some (.int e3), some (.int e4), some (.int (nI (opR yn (cuQ e1 e2 e3 e4) a j).1)), some (.int (nI j)), none, none] ∧ RSt L xs (opR yn (cuQ e1 e2 e3 e4) a j).2 M2 ∧ But [69, 75, 77, 78, 79, 80, 81, 82] M0 M2) rfl (a := 0) rfl rfl (by decide) (by decide) ⟨rfl, h0, But.rf⟩ ?_ ?_ ?_
      · rintro j L' M2 ⟨rfl, -⟩
        rfl
      · rintro j L' M2 hj ⟨rfl, d1, d2⟩
        obtain ⟨th', pm', bm', h69'⟩ := id d1.2.2
        have hfr : From yn a (opR yn (cuQ e1 e2 e3 e4) a j).2 := op_from hO (by omega) _ (range_lt (by omega))
        have hh : F_X12_isIn [.ref 69, .int (nI j)] M2 = some (some (.int (bz (hld (zbx a) j))), M2) := by rw [← hfr.2.2.1]; exact sp_isInR d1.1 d1.2.2 hj
        have hk : F_X12_kindOf [.ref 69, .int (nI yn), .int (nI j)] M2 = some (some (.int (kR (cdA (zab a) yn j))), M2) := by rw [← op_chR (q := cuQ e1 e2 e3 e4) (by omega) hj]; exact sp_kindR2 d1.1 d1.2.2 (by omega) hj
        have hcj := hO.av.cd (y := yn) (by omega) hj
        have est : opR yn (cuQ e1 e2 e3 e4) a (j + 1) = stp yn (opP yn a (cuQ e1 e2 e3 e4)) (fun _ _ => 0) (opR yn (cuQ e1 e2 e3 e4) a j) j := chG_range _ _ _ _ _
        have pz : ∀ Lx : Lv, lkp Lx 7 = some (.int (nI j)) → pI (bI oDiv (lI 7) (cI 100)) Lx M2 (nI (j / 100)) := fun Lx q => pI_eq (pI_div (pI_lI q) pI_cI (by decide)) (nI_div rfl (by omega) (by decide) (by decide))
        have px : ∀ Lx : Lv, lkp Lx 7 = some (.int (nI j)) → pI (bI oRem (bI oDiv (lI 7) (cI 10)) (cI 10)) Lx M2 (nI (j / 10 % 10)) := fun Lx q => pI_eq (pI_rem (pI_eq (pI_div (pI_lI q) pI_cI (by decide)) (nI_div (m := 10) rfl (by omega) (by decide) (by decide))) pI_cI (by decide)) (nI_rem rfl (by omega) (by decide) (by decide))
        have pw : ∀ Lx : Lv, lkp Lx 7 = some (.int (nI j)) → pI (bI oRem (lI 7) (cI 10)) Lx M2 (nI (j % 10)) := fun Lx q => pI_eq (pI_rem (pI_lI q) pI_cI (by decide)) (nI_rem rfl (by omega) (by decide) (by decide))
        refine l_scp (q_J (v := cuL e1 e2 e3 j) (pJ_add (pJ_add (pJ_mul (pJ_i (pI_lI rfl)) (pJ_i (pI_add (pI_mul pI_cI (pz _ rfl)) pI_cI))) (pJ_mul (pJ_i (pI_lI rfl)) (pJ_i (pI_add (pI_mul pI_cI (px _ rfl)) pI_cI)))) (pJ_mul (pJ_i (pI_lI rfl)) (pJ_i (pI_add (pI_mul pI_cI (pw _ rfl)) pI_cI)))) ?_)
        refine wS_if (wC_and (wC_p (v := opP yn a (cuQ e1 e2 e3 e4) a j) (pC_eq (pC_and (pC_and (pC_nz (pI_vV (pR_A (pA_lA rfl) (pR_I (pI_lI rfl) pR_0)) h69' hh)) (pC_eq (pC_kI (pI_vV (pR_A (pA_lA rfl) (pR_I (pI_lI rfl) (pR_I (pI_lI rfl) pR_0))) h69' hk) pI_cI) (kR_gt hcj))) (pC_kJ (pJ_l rfl) (pJ_mul pJ_c (pJ_i (pI_lI rfl))))) (Bool.and_assoc _ _ _)) ⟨fun hb2 => ?_, fun hb2 => ⟨fun q => (by cases q), fun _ => wS_nop ?_⟩⟩))
        · have hbl : blk (cdA (zab a) yn) j = true := (Bool.and_eq_true_iff.mp (Bool.and_eq_true_iff.mp hb2).2).1
          have hne : ¬ cdA (zab (opR yn (cuQ e1 e2 e3 e4) a j).2) yn j = -1 := by
            rw [op_chR (by omega) hj]
            intro q
            unfold blk at hbl
            rw [q] at hbl
            exact absurd hbl (by decide)
          have est2 : opR yn (cuQ e1 e2 e3 e4) a (j + 1) = ((opR yn (cuQ e1 e2 e3 e4) a j).1 + b2n (chB (zab (opR yn (cuQ e1 e2 e3 e4) a j).2) yn j 0), zch yn j 0 (opR yn (cuQ e1 e2 e3 e4) a j).2) := est.trans (if_pos hb2)
          have key := sp_changeAt d1 hy hj hne (k0 := 0) (t0 := 0) (by decide) (by decide) (by decide) (by decide)
          rw [show cdf 0 0 = 0 from rfl] at key
          refine wC_kI (wI_vVw (pR_A (pA_lA rfl) (pR_I (pI_lI rfl) (pR_I (pI_lI rfl) (pR_I pI_cI (pR_I pI_cI pR_0))))) h69' (key.mono ?_))
          rintro r M3 ⟨rfl, k1, k2⟩
          refine ⟨_, rfl, wI_cI ?_⟩
          rw [bz_ne]
          refine ⟨fun hb3 => l_inc rfl rfl (Or.inr ⟨by decide, by decide, rfl, rfl, ?_, ?_, d2.tr k2⟩), fun hb3 => wS_nop (Or.inr ⟨by decide, by decide, rfl, rfl, ?_, ?_, d2.tr k2⟩)⟩
          · rw [est2, hb3, nI_1]; rfl
          · rw [est2]; exact k1
          · rw [est2, hb3]; rfl
          · rw [est2]; exact k1
        · have est2 := est.trans (if_neg (show ¬ opP yn a (cuQ e1 e2 e3 e4) (opR yn (cuQ e1 e2 e3 e4) a j).2 j = true by rw [show opP yn a (cuQ e1 e2 e3 e4) (opR yn (cuQ e1 e2 e3 e4) a j).2 j = opP yn a (cuQ e1 e2 e3 e4) a j from rfl, hb2]; decide))
          exact Or.inr ⟨by decide, by decide, rfl, rfl, by rw [est2]; rfl, by rw [est2]; exact d1, d2⟩
      · rintro L' M2 ⟨rfl, d1, d2⟩
        exact l_ret (pI_lI rfl) ⟨rfl, rfl, d1, s0.tr (d2.ron (by decide))⟩
  · unfold cuS
    split
    · rename_i hb1
      dsimp only
      obtain ⟨yn, hy, rfl⟩ := isY_nat hb1
      rw [nI_clamp (by omega)]
      have hfr : From yn a (opR yn (cuQ e1 e2 e3 e4) a 1000).2 := op_from hO (by omega) _ (range_lt (by omega))
      exact ⟨hfr.1, Nat.le_trans hfr.le (by omega)⟩
    · exact ⟨hO, Nat.le_add_right _ _⟩
