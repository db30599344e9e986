/-! move: the reference's side -/
theorem gt18 {p : Nat} (h : p < 2 ^ 30) : oGt (nI p - 9) 9 = !(oLe (nI p) 18) := by
  unfold oGt oLe
  rw [← decide_not, decide_eq_decide, Int32.lt_iff_toInt_lt, Int32.le_iff_toInt_le, Int32.toInt_sub, nI_toInt (by omega)]
  have e9 : (9 : Int32).toInt = 9 := rfl
  have e18 : (18 : Int32).toInt = 18 := rfl
  rw [e9, e18, Int.bmod_eq_of_le (by omega) (by omega)]
  omega
theorem opF_mem {y : Nat} {a : AS} {n c : Nat} (h : c ∈ opF y a n) : c < n ∧ hld (zbx a) c = true ∧ blk (cdA (zab a) y) c = true := by
  obtain ⟨h1, h2⟩ := List.mem_filter.mp h
  obtain ⟨h3, h4⟩ := Bool.and_eq_true_iff.mp h2
  exact ⟨List.mem_range.mp h1, h3, h4⟩
theorem opF_sub {y : Nat} {a : AS} {n c : Nat} (hn : n ≤ 1000) (h : c ∈ opF y a n) : c ∈ opL y a := by
  rw [opL_F]
  obtain ⟨h1, h2⟩ := List.mem_filter.mp h
  exact List.mem_filter.mpr ⟨List.mem_range.mpr (by have := List.mem_range.mp h1; omega), h2⟩
theorem opF_ins {y : Nat} {a : AS} {n : Nat} (h : (hld (zbx a) n && blk (cdA (zab a) y) n) = true) : opF y a (n + 1) = opF y a n ++ [n] := by rw [opF_succ, if_pos h]
theorem opF_skip {y : Nat} {a : AS} {n : Nat} (h : (hld (zbx a) n && blk (cdA (zab a) y) n) = false) : opF y a (n + 1) = opF y a n := by rw [opF_succ, if_neg (by rw [h]; decide), List.append_nil]
theorem opF_len (y : Nat) (a : AS) (n : Nat) : (opF y a n).length ≤ n := by
  have := List.length_filter_le (fun c => hld (zbx a) c && blk (cdA (zab a) y) c) (List.range n)
  rw [List.length_range] at this
  exact this
theorem mv_R {L : Nat} {xs : Nat → Int32} {y u t c : Int32} (hc01 : c = 0 ∨ c = 1) : RMt L xs F_X12_move [.int y, .int u, .int t, .int c] (moS y u t c) := by
  intro a M hO hb h
  refine wF_b rfl (Nat.le_of_ble_eq_true rfl) (r_st h rfl fun M0 h0 s0 => ?_)
  have hbig : big = 1000000 := rfl
  obtain ⟨th, pm, bm, h69⟩ := id h0.2.2
  unfold moS
  refine q_if (v := !((isY y && isY u) && oGe t 0)) (pC_eq (pC_or (pC_or (pC_not (pC_nz (pI_vS (pR_I (pI_lI rfl) pR_0) (sp_isYardR _ _)))) (pC_not (pC_nz (pI_vS (pR_I (pI_lI rfl) pR_0) (sp_isYardR _ _))))) (pC_kI (pI_lI rfl) pI_cI)) ?_) (fun hb1 => ?_) (fun hb1 => ?_)
  · have e : oLt t 0 = !(oGe t 0) := by
      unfold oLt oGe
      rw [← decide_not, decide_eq_decide]
      exact Int32.not_le.symm
    rw [e]
    exact not3 _ _ _
  · rw [Bool.not_eq_true'] at hb1
    rw [if_neg (fun q => by
      obtain ⟨q1, q2⟩ := Bool.and_eq_true_iff.mp q
      obtain ⟨q3, -⟩ := Bool.and_eq_true_iff.mp q2
      obtain ⟨q3, -⟩ := Bool.and_eq_true_iff.mp q3
      obtain ⟨q3, -⟩ := Bool.and_eq_true_iff.mp q3
      rw [q1, q3] at hb1
      exact absurd hb1 (by decide))]
    exact q_ret pI_cI ⟨rfl, rfl, h0, s0⟩
  rw [Bool.not_eq_false'] at hb1
  obtain ⟨g0, g3⟩ := Bool.and_eq_true_iff.mp hb1
  obtain ⟨g1, g2⟩ := Bool.and_eq_true_iff.mp g0
  obtain ⟨yn, hy, rfl⟩ := isY_nat g1
  obtain ⟨un, hu, rfl⟩ := isY_nat g2
  have ht0 : 0 ≤ t.toInt := Int32.le_iff_toInt_le.mp (of_decide_eq_true g3)
  have hlt := Int32.toInt_lt t
  obtain ⟨n, hn⟩ : ∃ n, n = t.toInt.toNat := ⟨_, rfl⟩
  have et := nI_tn ht0
  rw [← hn] at et
  subst et
  have hn31 : n < 2 ^ 31 := by omega
  clear hn
  refine q_assoc (q_I rfl (pI_sub (pI_eq (pI_div (pI_lI rfl) pI_cI (by decide)) (nI_div (m := 10000) rfl hn31 (by decide) (by decide))) pI_cI) (q_assoc (q_I rfl (pI_sub (pI_eq (pI_rem (pI_eq (pI_div (pI_lI rfl) pI_cI (by decide)) (nI_div (m := 100) rfl hn31 (by decide) (by decide))) pI_cI (by decide)) (nI_rem (m := 100) rfl (by omega) (by decide) (by decide))) pI_cI) (q_I rfl (pI_sub (pI_eq (pI_rem (pI_lI rfl) pI_cI (by decide)) (nI_rem (m := 100) rfl hn31 (by decide) (by decide))) pI_cI) ?_))))
  have hsh : shO (nI n) = ((oLe (nI (n / 10000)) 18 && oLe (nI (n / 100 % 100)) 18) && oLe (nI (n % 100)) 18) := by
    unfold shO
    rw [g3, Bool.true_and, nI_div (a := 10000) (m := 10000) rfl hn31 (by decide) (by decide), nI_rem (a := 100) (m := 100) rfl hn31 (by decide) (by decide), nI_div (a := 100) (m := 100) rfl hn31 (by decide) (by decide), nI_rem (a := 100) (m := 100) rfl (by omega) (by decide) (by decide)]
  refine q_if (v := !(shO (nI n))) (pC_eq (pC_or (pC_or (pC_kI (pI_lI rfl) pI_cI) (pC_kI (pI_lI rfl) pI_cI)) (pC_kI (pI_lI rfl) pI_cI)) (by rw [gt18 (by omega), gt18 (by omega), gt18 (by omega), not3, ← hsh])) (fun hb2 => ?_) (fun hb2 => ?_)
  · rw [Bool.not_eq_true'] at hb2
    rw [if_neg (fun q => by rw [(Bool.and_eq_true_iff.mp q).2] at hb2; exact absurd hb2 (by decide))]
    exact q_ret pI_cI ⟨rfl, rfl, h0, s0⟩
  rw [Bool.not_eq_false'] at hb2
  rw [if_pos (Bool.and_eq_true_iff.mpr ⟨g0, hb2⟩), nI_clamp (by omega), nI_clamp (by omega), nI_clamp (by omega)]
  obtain ⟨n', en, t1, t2, t3, t4⟩ := shO_nat hb2
  have enn : n = n' := (nI_inj hn31 (by omega)).mp en
  subst enn
  refine q_ex (wV_Vw (pR_A (pA_lA rfl) (pR_I (pI_lI rfl) pR_0)) h69 ((sp_reads h0 hO.av hy).mono ?_))
  rintro v M2 ⟨rfl, k1, fk, ft, k2, k3, k4⟩
  have h2 := h0.ka k1 (by decide)
  obtain ⟨th', pm', bm', h69'⟩ := id h2.2.2
  obtain ⟨s, hR, hA⟩ := h2.1.rep
  refine ⟨rfl, q_I rfl pI_cI ?_⟩
  have pk : ∀ (Mx : Mm) (b : AS) (Lx : Lv) (j : Nat), RO b Mx → Mx.2.2 85 = aI 0 1000 fk → j < 1000 → lkp Lx 0 = some (.ref 69) → lkp Lx 9 = some (.int (nI j)) → pI (gI 0 (fA 11 19 (lA 0)) (lI 9)) Lx Mx (kR (cdA (zab a) yn j)) := fun Mx b Lx j ho h85 hj q0 q9 => by
    obtain ⟨a1, a2, a3, a4⟩ := ho
    have h9 := pI_gI (t := 0) (L := Lx) (pA_fA (k := 19) (pA_lA q0) a4 rfl) (pI_lI q9) h85 (inb_nI hj (by decide))
    rw [nI_clamp (by omega), (k4 j hj).1] at h9
    exact h9
  have pt : ∀ (Mx : Mm) (b : AS) (Lx : Lv) (j : Nat), RO b Mx → Mx.2.2 86 = aI 0 1000 ft → j < 1000 → ¬ cdA (zab a) yn j = -1 → lkp Lx 0 = some (.ref 69) → lkp Lx 9 = some (.int (nI j)) → pI (gI 0 (fA 11 20 (lA 0)) (lI 9)) Lx Mx (tn (cdA (zab a) yn j)) := fun Mx b Lx j ho h86 hj hne q0 q9 => by
    obtain ⟨a1, a2, a3, a4⟩ := ho
    have h9 := pI_gI (t := 0) (L := Lx) (pA_fA (k := 20) (pA_lA q0) a4 rfl) (pI_lI q9) h86 (inb_nI hj (by decide))
    have hcj := hO.av.cd (y := yn) (by omega) hj
    rw [nI_clamp (by omega), (k4 j hj).2, kR_no hcj, if_neg (show ¬ oEq (cdA (zab a) yn j) (-1) = true from fun q => hne (of_decide_eq_true q))] at h9
    exact h9
  have pz : ∀ (Lx : Lv) (Mx : Mm) (j : Nat), j < 1000 → lkp Lx 9 = some (.int (nI j)) → lkp Lx 5 = some (.int (nI (n / 10000) - 9)) → pI (bI oAdd (bI oDiv (lI 9) (cI 100)) (lI 5)) Lx Mx (nI (j / 100) + (nI (n / 10000) - 9)) := fun Lx Mx j hj q q5 => pI_add (pI_eq (pI_div (pI_lI q) pI_cI (by decide)) (nI_div rfl (by omega) (by decide) (by decide))) (pI_lI q5)
  have px : ∀ (Lx : Lv) (Mx : Mm) (j : Nat), j < 1000 → lkp Lx 9 = some (.int (nI j)) → lkp Lx 6 = some (.int (nI (n / 100 % 100) - 9)) → pI (bI oAdd (bI oRem (bI oDiv (lI 9) (cI 10)) (cI 10)) (lI 6)) Lx Mx (nI (j / 10 % 10) + (nI (n / 100 % 100) - 9)) := fun Lx Mx j hj q q6 => pI_add (pI_eq (pI_rem (pI_eq (pI_div (pI_lI q) pI_cI (by decide)) (nI_div (m := 10) rfl (by omega) (by decide) (by decide))) pI_cI (by decide)) (nI_rem rfl (by omega) (by decide) (by decide))) (pI_lI q6)
  have pw : ∀ (Lx : Lv) (Mx : Mm) (j : Nat), j < 1000 → lkp Lx 9 = some (.int (nI j)) → lkp Lx 7 = some (.int (nI (n % 100) - 9)) → pI (bI oAdd (bI oRem (lI 9) (cI 10)) (lI 7)) Lx Mx (nI (j % 10) + (nI (n % 100) - 9)) := fun Lx Mx j hj q q7 => pI_add (pI_eq (pI_rem (pI_lI q) pI_cI (by decide)) (nI_rem rfl (by omega) (by decide) (by decide))) (pI_lI q7)
  -- is each place there?
  refine q_for 1000 (fun j L' M3 => L' = [some (.ref 69), some (.int (nI yn)), some (.int (nI un)), some (.int (nI n)), some (.int c), some (.int (nI (n / 10000) - 9)), some (.int (nI (n / 100 % 100) - 9)), some (.int (nI (n % 100) - 9)), some (.int (nI (opF yn a j).length)), some (.int (nI j)), none] ∧ M3 = M2 ∧ ∀ e, e ∈ opF yn a j → moOk un n a e = true) rfl (a := 0) rfl rfl (by decide) (by decide) ⟨rfl, rfl, fun e he => absurd (opF_mem he).1 (Nat.not_lt_zero e)⟩ ?_ ?_ ?_
  · rintro j L' M3 ⟨rfl, -⟩
    rfl
  · rintro j L' M3 hj ⟨rfl, rfl, c3⟩
    have hcj := hO.av.cd (y := yn) (by omega) hj
    refine q_if (v := !(hld (zbx a) j && blk (cdA (zab a) yn) j)) (pC_eq (pC_or (pC_not (pC_nz (pI_vV (pR_A (pA_lA rfl) (pR_I (pI_lI rfl) pR_0)) h69' (sp_isInR h2.1 h2.2.2 hj)))) (pC_eq (pC_kI (pk M3 a _ j h2.2.2 k2 hj rfl rfl) pI_cI) (show oLe (kR (cdA (zab a) yn j)) 0 = !(blk (cdA (zab a) yn) j) by rw [kR_le hcj, le_gt]; rfl))) (not_or_n _ _)) (fun hb3 => ?_) (fun hb3 => ?_)
    · rw [Bool.not_eq_true'] at hb3
      refine q_cnt (Or.inr ⟨by decide, by decide, rfl, rfl, by rw [opF_skip hb3]; rfl, rfl, by rw [opF_skip hb3]; exact c3⟩)
    · rw [Bool.not_eq_false'] at hb3
      have hmem : j ∈ opL yn a := opF_sub (n := j + 1) (by omega) (by rw [opF_ins hb3]; exact List.mem_append_right _ (List.mem_singleton.mpr rfl))
      have hrf : oNe (refuA (zab a) un (nI (j / 100) + (nI (n / 10000) - 9)) (nI (j / 10 % 10) + (nI (n / 100 % 100) - 9)) (nI (j % 10) + (nI (n % 100) - 9))) 0 = !(moOk un n a j) := by
        unfold moOk
        rw [Bool.not_not]
        rcases refu_fb hA (t := n) (c := j) (u := un) hj hu with q | q
        · exact q
        · omega
      refine q_if (pC_eq (pC_kI (pI_vV (pR_A (pA_lA rfl) (pR_I (pI_lI rfl) (pR_I (pz _ _ j hj rfl rfl) (pR_I (px _ _ j hj rfl rfl) (pR_I (pw _ _ j hj rfl rfl) pR_0))))) h69' (sp_thereR h2.1 h2.2.2 (by omega) _ _ _)) pI_cI) hrf) (fun hb4 => ?_) (fun hb4 => ?_)
      · rw [Bool.not_eq_true'] at hb4
        have hno : ¬ (opL yn a).all (moOk un n a) = true := fun q => by
          have := List.all_eq_true.mp q _ hmem
          rw [hb4] at this
          exact absurd this (by decide)
        refine q_ret pI_cI (Or.inl ⟨rfl, rfl, ?_, ?_, s0.tr (k1.ron (by decide))⟩)
        · rw [if_neg hno]
        · rw [if_neg hno]; exact h2
      · rw [Bool.not_eq_false'] at hb4
        refine l_inc rfl rfl (Or.inr ⟨by decide, by decide, rfl, rfl, ?_, rfl, fun e he => ?_⟩)
        · rw [opF_ins hb3, List.length_append, nI_1]; rfl
        · rw [opF_ins hb3] at he
          rcases List.mem_append.mp he with q | q
          · exact c3 e q
          · rw [List.mem_singleton.mp q]; exact hb4
  rintro L' M3 ⟨rfl, rfl, c3⟩
  rw [← opL_F] at c3
  have hok : (opL yn a).all (moOk un n a) = true := List.all_eq_true.mpr c3
  rw [if_pos hok, opL_F]
  dsimp only
  -- cut
  refine q_forC (if c = 0 then 0 else 1000) (fun j L' M4 => L' = [some (.ref 69), some (.int (nI yn)), some (.int (nI un)), some (.int (nI n)), some (.int c), some (.int (nI (n / 10000) - 9)), some (.int (nI (n / 100 % 100) - 9)), some (.int (nI (n % 100) - 9)), some (.int (nI (opF yn a 1000).length)), some (.int (nI j)), none] ∧ RSt L xs (mvG yn (fun e => e) (fun _ => 0) a (opF yn a j)) M4 ∧ But [69, 75, 77, 78, 79, 80, 81, 82] M3 M4) rfl (a := 0) pI_cI (by split <;> omega) (Nat.zero_le _) ⟨rfl, h2, But.rf⟩ ?_ ?_ ?_
  · rintro j L' M4 hj ⟨rfl, d1, d2⟩
    have hj2 : j ≤ 1000 := Nat.le_trans hj (by split <;> omega)
    refine pC_eq (pC_and (pC_eq (pC_kI (pI_lI rfl) pI_cI) (oLt_nI (b := 1000) (by omega) (by decide))) (pC_kI (pI_lI rfl) pI_cI)) ?_
    rcases hc01 with rfl | rfl
    · rw [if_pos rfl, decide_eq_false (Nat.not_lt_zero j)]; exact Bool.and_false _
    · rw [if_neg (by decide)]; exact Bool.and_true _
  · rintro j L' M4 hj ⟨rfl, d1, d2⟩
    have hj : j < 1000 := by
      rcases hc01 with rfl | rfl
      · rw [if_pos rfl] at hj; exact absurd hj (Nat.not_lt_zero j)
      · rw [if_neg (by decide)] at hj; exact hj
    have hcj := hO.av.cd (y := yn) (by omega) hj
    have hfr : From2 un yn a (mvG yn (fun e => e) (fun _ => 0) a (opF yn a j)) := mvG_from (From2.rf hO) (by omega) (by omega) _ (fun e he => ⟨by have := (opF_mem he).1; omega, Or.inr (Or.inl rfl), by decide⟩) (Or.inr rfl)
    obtain ⟨th2, pm2, bm2, h692⟩ := id d1.2.2
    have hh : F_X12_isIn [.ref 69, .int (nI j)] M4 = some (some (.int (bz (hld (zbx a) j))), M4) := by rw [← hfr.2.2.1]; exact sp_isInR d1.1 d1.2.2 hj
    refine l_if (v := hld (zbx a) j && blk (cdA (zab a) yn) j) (pC_and (pC_nz (pI_vV (pR_A (pA_lA rfl) (pR_I (pI_lI rfl) pR_0)) h692 hh)) (pC_eq (pC_kI (pk M4 _ _ j d1.2.2 ((d2.2.2 85 (by decide)).trans k2) hj rfl rfl) pI_cI) (kR_gt hcj))) (fun hb3 => ?_) (fun hb3 => ?_)
    · have hbl := (Bool.and_eq_true_iff.mp hb3).2
      have hne : ¬ cdA (zab (mvG yn (fun e => e) (fun _ => 0) a (opF yn a j))) yn j = -1 := fun q => by
        rw [hfr.2.2.2.2.1 j hj] at q
        unfold blk at hbl
        rw [q] at hbl
        exact absurd hbl (by decide)
      have key := sp_changeAt d1 hy hj hne (k0 := 0) (t0 := 0) (by decide) (by decide) (by decide) (by decide)
      rw [show cdf 0 0 = 0 from rfl] at key
      refine l_scp (wS_setK rfl (wI_vVw (pR_A (pA_lA rfl) (pR_I (pI_lI rfl) (pR_I (pI_lI rfl) (pR_I pI_cI (pR_I pI_cI pR_0))))) h692 (key.mono ?_)))
      rintro r M5 ⟨rfl, r1, r2⟩
      refine ⟨_, rfl, Or.inr ⟨by decide, by decide, rfl, rfl, rfl, ?_, d2.tr r2⟩⟩
      rw [opF_ins hb3, mvG_app]
      exact r1
    · refine wS_nop (Or.inr ⟨by decide, by decide, rfl, rfl, rfl, ?_, d2⟩)
      rw [opF_skip hb3]
      exact d1
  rintro L' M4 ⟨rfl, d1, d2⟩
  have hmid : mvG yn (fun e => e) (fun _ => 0) a (opF yn a (if c = 0 then 0 else 1000)) = if c = 0 then a else mvG yn (fun e => e) (fun _ => 0) a (opF yn a 1000) := by
    split
    · rfl
    · rfl
  rw [hmid] at d1
  have hmfr : From2 yn un a (if c = 0 then a else mvG yn (fun e => e) (fun _ => 0) a (opF yn a 1000)) := mo_mid hO hy hu _ fun e he => (opF_mem he).1
  -- put
  refine q_for 1000 (fun j L' M5 => L' = [some (.ref 69), some (.int (nI yn)), some (.int (nI un)), some (.int (nI n)), some (.int c), some (.int (nI (n / 10000) - 9)), some (.int (nI (n / 100 % 100) - 9)), some (.int (nI (n % 100) - 9)), some (.int (nI (opF yn a 1000).length)), some (.int (nI j)), none] ∧ RSt L xs (mvG un (moT n) (cdA (zab a) yn) (if c = 0 then a else mvG yn (fun e => e) (fun _ => 0) a (opF yn a 1000)) (opF yn a j)) M5 ∧ But [69, 75, 77, 78, 79, 80, 81, 82] M4 M5) rfl (a := 0) rfl rfl (by decide) (by decide) ⟨rfl, d1, But.rf⟩ ?_ ?_ ?_
  · rintro j L' M5 ⟨rfl, -⟩
    rfl
  · rintro j L' M5 hj ⟨rfl, e1, e2⟩
    have hcj := hO.av.cd (y := yn) (by omega) hj
    have hfr : From2 yn un a (mvG un (moT n) (cdA (zab a) yn) (if c = 0 then a else mvG yn (fun e => e) (fun _ => 0) a (opF yn a 1000)) (opF yn a j)) := mo_put hO hy hu hmfr _ (fun e he => opF_sub (by omega) he) hok
    obtain ⟨th2, pm2, bm2, h692⟩ := id e1.2.2
    have hh : F_X12_isIn [.ref 69, .int (nI j)] M5 = some (some (.int (bz (hld (zbx a) j))), M5) := by rw [← hfr.2.2.1]; exact sp_isInR e1.1 e1.2.2 hj
    have h85 : M5.2.2 85 = aI 0 1000 fk := (e2.2.2 85 (by decide)).trans ((d2.2.2 85 (by decide)).trans k2)
    have h86 : M5.2.2 86 = aI 0 1000 ft := (e2.2.2 86 (by decide)).trans ((d2.2.2 86 (by decide)).trans k3)
    refine l_if (v := hld (zbx a) j && blk (cdA (zab a) yn) j) (pC_and (pC_nz (pI_vV (pR_A (pA_lA rfl) (pR_I (pI_lI rfl) pR_0)) h692 hh)) (pC_eq (pC_kI (pk M5 _ _ j e1.2.2 h85 hj rfl rfl) pI_cI) (kR_gt hcj))) (fun hb3 => ?_) (fun hb3 => ?_)
    · have hbl := (Bool.and_eq_true_iff.mp hb3).2
      obtain ⟨f1, f2, f3, f4, f5, f6, f7, f8⟩ := blk_facts hO.1 hcj hbl
      have hmem : j ∈ opL yn a := opF_sub (n := j + 1) (by omega) (by rw [opF_ins hb3]; exact List.mem_append_right _ (List.mem_singleton.mpr rfl))
      obtain ⟨e, q1, q2, q3, q4⟩ := moOk_yes (List.all_eq_true.mp hok _ hmem)
      have q2' := q2
      unfold fbO at q2'
      split at q2'
      · rename_i qq
        injection q2' with q5
        have as : ∀ p q : Int32, p + (q - 9) = p + q - 9 := fun p q => by rw [Int32.sub_eq_add_neg, Int32.sub_eq_add_neg, Int32.add_assoc]
        have ez : nI (j / 100) + (nI (n / 10000) - 9) = nI (j / 100 + n / 10000 - 9) := by rw [as]; exact sh_nI (by omega) (by omega) qq.1.1
        have ex : nI (j / 10 % 10) + (nI (n / 100 % 100) - 9) = nI (j / 10 % 10 + n / 100 % 100 - 9) := by rw [as]; exact sh_nI (by omega) (by omega) qq.2.1.1
        have ew : nI (j % 10) + (nI (n % 100) - 9) = nI (j % 10 + n % 100 - 9) := by rw [as]; exact sh_nI (by omega) (by omega) qq.2.2.1
        have hne : ¬ cdA (zab (mvG un (moT n) (cdA (zab a) yn) (if c = 0 then a else mvG yn (fun e => e) (fun _ => 0) a (opF yn a 1000)) (opF yn a j))) un e = -1 := fun q => q4 ((hfr.2.2.2.2.1 e q1).mp q)
        rw [← q5, cdA_at _ (by omega) (by omega)] at hne
        have key := sp_changeR e1 hu (z := j / 100 + n / 10000 - 9) (x := j / 10 % 10 + n / 100 % 100 - 9) (w := j % 10 + n % 100 - 9) (by omega) (by omega) (by omega) hne f4 f5 f6 f7
        rw [f8, q5] at key
        refine l_scp (wS_setK rfl (wI_vVw (pR_A (pA_lA rfl) (pR_I (pI_lI rfl) (pR_I (pI_eq (pz _ _ j hj rfl rfl) ez) (pR_I (pI_eq (px _ _ j hj rfl rfl) ex) (pR_I (pI_eq (pw _ _ j hj rfl rfl) ew) (pR_I (pI_eq (pk M5 _ _ j e1.2.2 h85 hj rfl rfl) f3) (pR_I (pt M5 _ _ j e1.2.2 h86 hj f1 rfl rfl) pR_0))))))) h692 (key.mono ?_)))
        rintro r M6 ⟨rfl, r1, r2⟩
        refine ⟨_, rfl, Or.inr ⟨by decide, by decide, rfl, rfl, rfl, ?_, e2.tr r2⟩⟩
        rw [opF_ins hb3, mvG_app, q3]
        exact r1
      · cases q2'
    · refine wS_nop (Or.inr ⟨by decide, by decide, rfl, rfl, rfl, ?_, e2⟩)
      rw [opF_skip hb3]
      exact e1
  · rintro L' M5 ⟨rfl, e1, e2⟩
    exact l_ret (pI_lI rfl) ⟨rfl, rfl, e1, s0.tr ((k1.ron (by decide)).tr ((d2.ron (by decide)).tr (e2.ron (by decide))))⟩
theorem ok2_move (L : Nat) (xs : Nat → Int32) (y u t c : Int32) (hc01 : c = 0 ∨ c = 1) : OK2 (Inv2 L xs) F_X11_move F_X12_move [.int y, .int u, .int t, .int c] := by
  refine ok2_of (moS y u t c) (mv_C hc01) (mv_R hc01) (fun a hO => ?_)
  unfold moS
  split
  · rename_i hb1
    obtain ⟨g0, g3⟩ := Bool.and_eq_true_iff.mp hb1
    obtain ⟨g1, g2⟩ := Bool.and_eq_true_iff.mp g0
    obtain ⟨yn, hy, rfl⟩ := isY_nat g1
    obtain ⟨un, hu, rfl⟩ := isY_nat g2
    split
    · rename_i hok
      dsimp only
      rw [nI_clamp (by omega), nI_clamp (by omega)] at hok ⊢
      have hfr : From2 yn un a (moA yn un t.toNatClampNeg c a (opL yn a)) := mo_put hO hy hu (mo_mid hO hy hu _ fun e he => opL_lt he) _ (fun _ h => h) hok
      exact ⟨hfr.1, Nat.le_trans hfr.le (by omega)⟩
    · exact ⟨hO, Nat.le_add_right _ _⟩
  · exact ⟨hO, Nat.le_add_right _ _⟩
