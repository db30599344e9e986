/-! move: both sides -/
theorem opL_ok {y : Nat} {a : AS} (hO : OkA a) (hy : y < 16) {c : Nat} (h : c ∈ opL y a) : cOK (zkn a) (cdA (zab a) y c) ∧ oGt (cdA (zab a) y c) 0 = true := ⟨hO.av.cd hy (opL_lt h), opL_blk h⟩
theorem all_take {l : List Nat} {p : Nat → Bool} (h : ∀ i, i < l.length → p (l.getD i 0) = true) : l.all p = true := by
  rw [List.all_eq_true]
  intro x hx
  obtain ⟨i, hi, e⟩ := List.getElem_of_mem hx
  have := h i hi
  rw [List.getD_eq_getElem?_getD, List.getElem?_eq_getElem hi] at this
  rw [← e]
  exact this
theorem mvG_take (u : Nat) (τ : Nat → Nat) (v : Nat → Int32) (a : AS) {l : List Nat} {j : Nat} (hj : j < l.length) : mvG u τ v a (l.take (j + 1)) = zch u (τ (l.getD j 0)) (v (l.getD j 0)) (mvG u τ v a (l.take j)) := by rw [take_step hj, mvG_app]
theorem mo_cut {y u : Nat} {a : AS} (hO : OkA a) (hy : y < 4) (hu : u < 4) (l : List Nat) (hl : ∀ c ∈ l, c < 1000) : From2 y u a (mvG y (fun e => e) (fun _ => 0) a l) := mvG_from (From2.rf hO) (by omega) (by omega) l (fun c hc => ⟨hl c hc, Or.inr (Or.inl rfl), by decide⟩) (Or.inl rfl)
theorem mo_mid {y u : Nat} {c : Int32} {a : AS} (hO : OkA a) (hy : y < 4) (hu : u < 4) (l : List Nat) (hl : ∀ c ∈ l, c < 1000) : From2 y u a (if c = 0 then a else mvG y (fun e => e) (fun _ => 0) a l) := by
  split
  · exact From2.rf hO
  · exact mo_cut hO hy hu l hl
theorem mo_put {y u t : Nat} {a b : AS} (hO : OkA a) (hy : y < 4) (hu : u < 4) (hb : From2 y u a b) (l : List Nat) (hl : ∀ c ∈ l, c ∈ opL y a) (hok : (opL y a).all (moOk u t a) = true) : From2 y u a (mvG u (moT t) (cdA (zab a) y) b l) := mvG_from hb (by omega) (by omega) l (fun c hc => by
  obtain ⟨e, e1, -, e2, -⟩ := moOk_yes (List.all_eq_true.mp hok c (hl c hc))
  obtain ⟨k1, k2⟩ := opL_ok hO (by omega) (hl c hc)
  exact ⟨by rw [e2]; exact e1, k1, (blk_facts hO.1 k1 k2).1⟩) (Or.inr rfl)
theorem mv_C {L : Nat} {xs : Nat → Int32} {y u t c : Int32} (hc01 : c = 0 ∨ c = 1) : CMt L xs F_X11_move [.int y, .int u, .int t, .int c] (moS y u t c) := by
  intro a M hO hb h
  unfold moS
  refine wF_b rfl (Nat.le_of_ble_eq_true rfl) (q_if (v := !((isY y && isY u) && shO t)) (pC_eq (pC_or (pC_or (pC_not (pC_nz (pI_vS (pR_I (pI_lI rfl) pR_0) (sp_isYardC _ _)))) (pC_not (pC_nz (pI_vS (pR_I (pI_lI rfl) pR_0) (sp_isYardC _ _))))) (pC_not (pC_nz (pI_vS (x := bz (shO t)) (pR_I (pI_lI rfl) pR_0) (wF_eq (wF_b rfl (Nat.le_of_ble_eq_true rfl) (l_retZ (v := shO t) (pI_zI (pC_and (pC_and (pC_and (pC_kI (pI_lI rfl) pI_cI) (pC_kI (pI_div (pI_lI rfl) pI_cI (by decide)) pI_cI)) (pC_kI (pI_rem (pI_div (pI_lI rfl) pI_cI (by decide)) pI_cI (by decide)) pI_cI)) (pC_kI (pI_rem (pI_lI rfl) pI_cI (by decide)) pI_cI))) ⟨rfl, rfl, rfl⟩))))))) (not3 _ _ _)) (fun hb1 => ?_) (fun hb1 => ?_))
  · rw [Bool.not_eq_true'] at hb1
    rw [if_neg (by rw [hb1]; decide)]
    exact q_ret pI_cI ⟨rfl, rfl, h, COn.rf⟩
  rw [Bool.not_eq_false'] at hb1
  rw [if_pos hb1]
  obtain ⟨g0, g3⟩ := Bool.and_eq_true_iff.mp hb1
  obtain ⟨g1, g2⟩ := Bool.and_eq_true_iff.mp g0
  obtain ⟨yn, hy, rfl⟩ := isY_nat g1
  obtain ⟨un, hu, rfl⟩ := isY_nat g2
  obtain ⟨n, rfl, t1, t2, t3, t4⟩ := shO_nat g3
  rw [nI_clamp (by omega), nI_clamp (by omega), nI_clamp (by omega)]
  refine q_ex (wV_Vw (pR_A (pA_lA rfl) (pR_I (pI_lI rfl) pR_0)) h.1.o5 ((sp_readBox h hy).mono ?_))
  rintro v M1 ⟨rfl, h1, h2, h3⟩
  have hlen := opL_len yn a
  have h3 : GrC M1 51 (cdA (zab a) yn) (opL yn a) := h3
  have hbig : big = 1000000 := rfl
  refine ⟨rfl, ?_⟩
  -- is each place there?
  refine q_forC (opL yn a).length (fun j L' M2 => L' = [some (.ref 5), some (.int (nI yn)), some (.int (nI un)), some (.int (nI n)), some (.int c), some (.int (nI j)), none] ∧ M2 = M1 ∧ ∀ i, i < j → moOk un n a ((opL yn a).getD i 0) = true) rfl (a := 0) pI_cI (by omega) (Nat.zero_le _) ⟨rfl, rfl, fun i hi => absurd hi (Nat.not_lt_zero i)⟩ ?_ ?_ ?_
  · rintro j L' M2 hj ⟨rfl, rfl, -⟩
    exact pC_eq (pC_kI (pI_lI rfl) (pI_blocks h1.1 h3 rfl)) (oLt_nI (by omega) (by omega))
  · rintro j L' M2 hj ⟨rfl, rfl, c3⟩
    have hcj := opL_lt (getD_mem hj)
    have hcode : F_X10_codeAt [.ref (17 + 2 * un), .int (oI (fbO n ((opL yn a).getD j 0)))] M2 = some (some (.int (gO (cdA (zab a) un) (fbO n ((opL yn a).getD j 0)))), M2) := by
      cases e : fbO n ((opL yn a).getD j 0) with
      | none => exact sp_codeNo h1.1 un
      | some m => exact sp_codeA h1.1 hu (fbO_lt e)
    refine l_if (pC_kI (pI_vV (pR_A (pA_yard h1.1.1 h1.1.o5 hu rfl rfl) (pR_I (pI_vS (pR_I (pI_lI rfl) (pR_I (pI_list h1.1 h3 hlen rfl rfl hj) pR_0)) (sp_furtherBy t1 hcj M2)) pR_0)) (h1.1.y hu) hcode) pI_cI) (fun hb2 => ?_) (fun hb2 => ?_)
    · refine l_ret pI_cI (Or.inl ⟨rfl, rfl, ?_, ?_, h2.con (by decide)⟩)
      · rw [if_neg (fun q => by
          have := List.all_eq_true.mp q _ (getD_mem hj)
          unfold moOk at this
          rw [hb2] at this
          exact absurd this (by decide))]
      · rw [if_neg (fun q => by
          have := List.all_eq_true.mp q _ (getD_mem hj)
          unfold moOk at this
          rw [hb2] at this
          exact absurd this (by decide))]
        exact h1
    · refine wS_nop (Or.inr ⟨by decide, by decide, rfl, rfl, rfl, rfl, fun i hi => ?_⟩)
      by_cases e : i = j
      · rw [e]; unfold moOk; rw [hb2]; rfl
      · exact c3 i (by omega)
  rintro L' M2 ⟨rfl, rfl, c3⟩
  have hok : (opL yn a).all (moOk un n a) = true := all_take c3
  rw [if_pos hok]
  dsimp only
  -- cut
  refine q_forC (if c = 0 then 0 else (opL yn a).length) (fun j L' M3 => L' = [some (.ref 5), some (.int (nI yn)), some (.int (nI un)), some (.int (nI n)), some (.int c), some (.int (nI j)), none] ∧ CSt L xs (mvG yn (fun e => e) (fun _ => 0) a ((opL yn a).take j)) M3 ∧ FrH yn M2 M3) rfl (a := 0) pI_cI (by split <;> omega) (Nat.zero_le _) ⟨rfl, h1, fun _ _ _ _ => rfl⟩ ?_ ?_ ?_
  · rintro j L' M3 hj ⟨rfl, d1, d2⟩
    have hj2 : j ≤ 1000 := Nat.le_trans hj (by split <;> omega)
    refine pC_eq (pC_andD (y := decide (j < (opL yn a).length)) (pC_kI (pI_lI rfl) pI_cI) fun _ => pC_eq (pC_kI (pI_lI rfl) (pI_blocks d1.1 (d2.grid (by omega) h3) rfl)) (oLt_nI (by omega) (by omega))) ?_
    rcases hc01 with rfl | rfl
    · rw [if_pos rfl, decide_eq_false (Nat.not_lt_zero j)]; rfl
    · rw [if_neg (by decide)]; exact Bool.true_and _
  · rintro j L' M3 hj ⟨rfl, d1, d2⟩
    have hj : j < (opL yn a).length := by
      rcases hc01 with rfl | rfl
      · rw [if_pos rfl] at hj; exact absurd hj (Nat.not_lt_zero j)
      · rw [if_neg (by decide)] at hj; exact hj
    have h4 := d2.grid (by omega) h3
    have hfr : From2 yn un a (mvG yn (fun e => e) (fun _ => 0) a ((opL yn a).take j)) := mo_cut hO hy hu _ fun e he => opL_lt (List.mem_of_mem_take he)
    have hle := hfr.le
    refine wS_exP (wV_Vw (pR_A (pA_yard d1.1.1 d1.1.o5 hy rfl rfl) (pR_I (pI_list d1.1 h4 hlen rfl rfl hj) (pR_I pI_cI pR_0))) (d1.1.y hy) ((sp_changeC d1 hy (opL_lt (getD_mem hj)) (v := 0) ⟨by decide, by decide⟩ (by omega)).mono ?_))
    rintro r M4 ⟨rfl, k1, k2⟩
    refine ⟨_, rfl, Or.inr ⟨by decide, by decide, rfl, rfl, rfl, ?_, d2.tr k2⟩⟩
    rw [mvG_take _ _ _ _ hj]
    exact k1
  rintro L' M3 ⟨rfl, d1, d2⟩
  have hmid : mvG yn (fun e => e) (fun _ => 0) a ((opL yn a).take (if c = 0 then 0 else (opL yn a).length)) = if c = 0 then a else mvG yn (fun e => e) (fun _ => 0) a (opL yn a) := by
    split
    · rfl
    · rw [List.take_length]
  rw [hmid] at d1
  have h5 := d2.grid (by omega) h3
  have hmfr : From2 yn un a (if c = 0 then a else mvG yn (fun e => e) (fun _ => 0) a (opL yn a)) := mo_mid hO hy hu _ fun e he => opL_lt he
  -- put
  refine q_forC (opL yn a).length (fun j L' M4 => L' = [some (.ref 5), some (.int (nI yn)), some (.int (nI un)), some (.int (nI n)), some (.int c), some (.int (nI j)), none] ∧ CSt L xs (mvG un (moT n) (cdA (zab a) yn) (if c = 0 then a else mvG yn (fun e => e) (fun _ => 0) a (opL yn a)) ((opL yn a).take j)) M4 ∧ FrH un M3 M4) rfl (a := 0) pI_cI (by omega) (Nat.zero_le _) ⟨rfl, d1, fun _ _ _ _ => rfl⟩ ?_ ?_ ?_
  · rintro j L' M4 hj ⟨rfl, e1, e2⟩
    exact pC_eq (pC_kI (pI_lI rfl) (pI_blocks e1.1 (e2.grid (by omega) h5) rfl)) (oLt_nI (by omega) (by omega))
  · rintro j L' M4 hj ⟨rfl, e1, e2⟩
    have h6 := e2.grid (by omega) h5
    have hm := getD_mem hj
    have hcj := opL_lt hm
    obtain ⟨e, k1, k2, k3, k4⟩ := moOk_yes (List.all_eq_true.mp hok _ hm)
    obtain ⟨q1, q2⟩ := opL_ok hO (show yn < 16 by omega) hm
    have hbf := blk_facts hO.1 q1 q2
    have hfr : From2 yn un a (mvG un (moT n) (cdA (zab a) yn) (if c = 0 then a else mvG yn (fun e => e) (fun _ => 0) a (opL yn a)) ((opL yn a).take j)) := mo_put hO hy hu hmfr _ (fun c hc => List.mem_of_mem_take hc) hok
    have hle := hfr.le
    refine l_scp (q_I rfl (pI_list e1.1 h6 hlen rfl rfl hj) ?_)
    refine wS_exP (wV_Vw (pR_A (pA_yard e1.1.1 e1.1.o5 hu rfl rfl) (pR_I (pI_eq (pI_vS (pR_I (pI_lI rfl) (pR_I (pI_lI rfl) pR_0)) (sp_furtherBy t1 hcj M4)) (show oI (fbO n ((opL yn a).getD j 0)) = nI e by rw [k2]; rfl)) (pR_I (pI_eq (pI_vV (pR_A (pA_grid e1.1 rfl) (pR_I (pI_lI rfl) pR_0)) h6.1 (sp_code h6 _)) (gAt_nI _ hcj)) pR_0))) (e1.1.y hu) ((sp_changeC e1 hu k1 hbf.2.1 (by omega)).mono ?_))
    rintro r M5 ⟨rfl, r1, r2⟩
    refine ⟨_, rfl, Or.inr ⟨by decide, by decide, rfl, rfl, rfl, ?_, e2.tr r2⟩⟩
    rw [mvG_take _ _ _ _ hj, k3]
    exact r1
  · rintro L' M4 ⟨rfl, e1, e2⟩
    rw [List.take_length] at e1
    exact l_ret (pI_blocks e1.1 (e2.grid (by omega) h5) rfl) ⟨rfl, rfl, e1, (h2.con (by decide)).tr ((d2.con (by omega)).tr (e2.con (by omega)))⟩
