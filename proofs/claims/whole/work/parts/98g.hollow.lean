/-! hollow, cut -/
theorem upd_upd (f : Nat → Int32) (k : Nat) (x y : Int32) : upd (upd f k x) k y = upd f k y := by
  funext c
  unfold upd
  by_cases e : c = k
  · rw [if_pos e, if_pos e]
  · rw [if_neg e, if_neg e, if_neg e]
theorem pI_stay {e : DI} {L : Lv} {M : Mm} {x y : Int32} (h : pI e L M x) (g : x = y) : pI e L M y := g ▸ h
/-- a body that opens one listed block: what hollow's and cut's loops of the class do where the test holds -/
theorem sp_open {L : Nat} {xs : Nat → Int32} {a : AS} {M M1 : Mm} {yn j : Nat} {p : AS → Nat → Bool} (hO : OkA a) (hb : znl a + znr a ≤ 256000) (hy : yn < 4) (hj : j < (opL yn a).length) (hp : ∀ b c, p b c = true → True) (c1 : CSt L xs (chG yn p (fun _ _ => 0) a ((opL yn a).take j)).2 M1) (c2 : FrH yn M M1) :
    wF F_X10_change [.ref (17 + 2 * yn), .int (nI ((opL yn a).getD j 0)), .int 0] M1 fun r M' => r = some (.int 1) ∧ CSt L xs (zch yn ((opL yn a).getD j 0) 0 (chG yn p (fun _ _ => 0) a ((opL yn a).take j)).2) M' ∧ FrH yn M M' ∧ FrH yn M1 M' := by
  have hfr : From yn a (chG yn p (fun _ _ => 0) a ((opL yn a).take j)).2 := op_from hO (by omega) _ fun c hc => opL_lt (List.mem_of_mem_take hc)
  have hle := hfr.le
  refine (sp_changeC c1 hy (opL_lt (getD_mem hj)) (v := 0) ⟨by decide, by decide⟩ (by omega)).mono ?_
  rintro r M' ⟨rfl, d1, d2⟩
  rw [op_ch (by omega) hj]
  exact ⟨rfl, d1, c2.tr d2, d2⟩
def hoQ (y : Nat) (a : AS) (c : Nat) : Bool := decide (bare (cdA (zab a) y) c = 0)
def hoS (y : Int32) (a : AS) : Int32 × AS := if isY y = true then (nI (opR y.toNatClampNeg (hoQ y.toNatClampNeg a) a 1000).1, (opR y.toNatClampNeg (hoQ y.toNatClampNeg a) a 1000).2) else (-1, a)
theorem FrH.grid {M M' : Mm} {y : Nat} {g : Nat → Int32} {bs : List Nat} (h : FrH y M M') (hy : y < 16) (hg : GrC M 51 g bs) : GrC M' 51 g bs := hg.fr (h 51 (by decide) (by decide) (by unfold LA; split <;> omega)) (h 52 (by decide) (by decide) (by unfold LA; split <;> omega)) (h 53 (by decide) (by decide) (by unfold LA; split <;> omega))
theorem ok2_hollow (L : Nat) (xs : Nat → Int32) (y : Int32) : OK2 (Inv2 L xs) F_X11_hollow F_X12_hollow [.int y] := by
  refine ok2_of (hoS y) (fun a M hO hb h => ?_) (fun a M hO hb h => wF_b rfl (Nat.le_of_ble_eq_true rfl) (r_st h rfl fun M0 h0 s0 => ?_)) (fun a hO => ?_)
  · unfold hoS
    refine wF_b rfl (Nat.le_of_ble_eq_true rfl) (q_if (pC_not (pC_nz (pI_vS (pR_I (pI_lI rfl) pR_0) (sp_isYardC _ _)))) (fun hb1 => ?_) (fun hb1 => ?_))
    · rw [Bool.not_eq_true'] at hb1
      rw [if_neg (by rw [hb1]; decide)]
      exact q_ret pI_cI ⟨rfl, rfl, h, COn.rf⟩
    · rw [Bool.not_eq_false'] at hb1
      rw [if_pos hb1]
      dsimp only
      obtain ⟨yn, hy, rfl⟩ := isY_nat hb1
      rw [nI_clamp (by omega), ← op_list]
      refine q_ex (wV_Vw (pR_A (pA_lA rfl) (pR_I (pI_lI rfl) pR_0)) h.1.o5 ((sp_readBox h hy).mono ?_))
      rintro v M1 ⟨rfl, h1, h2, h3⟩
      have hlen := opL_len yn a
      have h3 : GrC M1 51 (cdA (zab a) yn) (opL yn a) := h3
      refine ⟨rfl, q_I rfl pI_cI ?_⟩
      refine q_forC (opL yn a).length (fun j L' M2 => L' = [some (.ref 5), some (.int (nI yn)), some (.int (nI (chG yn (fun _ c => hoQ yn a c) (fun _ _ => 0) a ((opL yn a).take j)).1)), some (.int (nI j)), none] ∧ CSt L xs (chG yn (fun _ c => hoQ yn a c) (fun _ _ => 0) a ((opL yn a).take j)).2 M2 ∧ FrH yn M1 M2) rfl (a := 0) pI_cI (by have : big = 1000000 := rfl; omega) (Nat.zero_le _) ⟨rfl, h1, fun _ _ _ _ => rfl⟩ ?_ ?_ ?_
      · rintro j L' M2 hj ⟨rfl, c1, c2⟩
        exact pC_eq (pC_kI (pI_lI rfl) (pI_blocks c1.1 (c2.grid (by omega) h3) rfl)) (oLt_nI (by omega) (by omega))
      · rintro j L' M2 hj ⟨rfl, c1, c2⟩
        have h4 := c2.grid (by omega) h3
        have hcj := opL_lt (getD_mem hj)
        have est : chG yn (fun _ c => hoQ yn a c) (fun _ _ => 0) a ((opL yn a).take (j + 1)) = stp yn (fun _ c => hoQ yn a c) (fun _ _ => 0) (chG yn (fun _ c => hoQ yn a c) (fun _ _ => 0) a ((opL yn a).take j)) ((opL yn a).getD j 0) := chG_take _ _ _ _ hj
        have hbr : bare (cdA (zab a) yn) ((opL yn a).getD j 0) ≤ 6 := cn_le _ _
        refine l_scp (q_I rfl (pI_list c1.1 h4 hlen rfl rfl hj) ?_)
        refine l_if (v := hoQ yn a ((opL yn a).getD j 0)) (pC_eq (pC_kI (pI_vV (pR_A (pA_grid c1.1 rfl) (pR_I (pI_lI rfl) pR_0)) h4.1 (sp_bare h4 hcj)) pI_cI) (oEq_nI (b := 0) (by omega) (by decide))) (fun hb2 => ?_) (fun hb2 => ?_)
        · have est2 := est.trans (if_pos hb2)
          rw [op_ch (by omega) hj] at est2
          refine q_exP (wV_Vw (pR_A (pA_yard c1.1.1 c1.1.o5 hy rfl rfl) (pR_I (pI_lI rfl) (pR_I pI_cI pR_0))) (c1.1.y hy) ((sp_open hO hb hy hj (fun _ _ _ => trivial) c1 c2).mono ?_))
          rintro r M3 ⟨rfl, d1, d2, -⟩
          refine ⟨_, rfl, l_inc rfl rfl (Or.inr ⟨by decide, by decide, rfl, rfl, ?_, ?_, d2⟩)⟩
          · rw [est2, nI_1]; rfl
          · rw [est2]; exact d1
        · have est2 := est.trans (if_neg (by show ¬ hoQ yn a ((opL yn a).getD j 0) = true; rw [hb2]; decide))
          exact wS_nop (Or.inr ⟨by decide, by decide, rfl, rfl, by rw [est2]; rfl, by rw [est2]; exact c1, c2⟩)
      · rintro L' M2 ⟨rfl, c1, c2⟩
        rw [List.take_length] at c1 ⊢
        exact l_ret (pI_lI rfl) ⟨rfl, rfl, c1, (h2.con (by decide)).tr (c2.con (by omega))⟩
  · obtain ⟨th, pm, bm, h69⟩ := id h0.2.2
    unfold hoS
    refine q_if (pC_not (pC_nz (pI_vS (pR_I (pI_lI rfl) pR_0) (sp_isYardR _ _)))) (fun hb1 => ?_) (fun hb1 => ?_)
    · rw [Bool.not_eq_true'] at hb1
      rw [if_neg (by rw [hb1]; decide)]
      exact q_ret pI_cI ⟨rfl, rfl, h0, s0⟩
    · rw [Bool.not_eq_false'] at hb1
      rw [if_pos hb1]
      dsimp only
      obtain ⟨yn, hy, rfl⟩ := isY_nat hb1
      rw [nI_clamp (by omega)]
      obtain ⟨f0, h87⟩ := h0.2.1.2.2.2
      refine q_I rfl pI_cI ?_
      refine q_for 1000 (fun j L' M1 => L' = [some (.ref 69), some (.int (nI yn)), some (.int 0), some (.int (nI j)), none] ∧ KA [87] M0 M1 ∧ ∃ f, M1.2.2 87 = aI 1 1000 f ∧ ∀ c, c < j → f c = bz (opP yn a (hoQ yn a) a c)) rfl (a := 0) rfl rfl (by decide) (by decide) ⟨rfl, KA.rf, f0, h87, fun c hc => absurd hc (Nat.not_lt_zero c)⟩ ?_ ?_ ?_
      · rintro j L' M1 ⟨rfl, -⟩
        rfl
      · rintro j L' M1 hj ⟨rfl, b1, f, c1, c2⟩
        have h1 := h0.ka b1 (by decide)
        obtain ⟨th', pm', bm', h69'⟩ := id h1.2.2
        have hcj := hO.av.cd (y := yn) (by omega) hj
        refine q_pa (j := j) (x := bz (hld (zbx a) j && blk (cdA (zab a) yn) j)) (pA_fA (k := 21) (pA_lA rfl) h69' rfl) (pI_lI rfl) (pI_zI (pC_and (pC_nz (pI_vV (pR_A (pA_lA rfl) (pR_I (pI_lI rfl) pR_0)) h69' (sp_isInR h1.1 h1.2.2 hj))) (pC_eq (pC_kI (pI_vV (pR_A (pA_lA rfl) (pR_I (pI_lI rfl) (pR_I (pI_lI rfl) pR_0))) h69' (sp_kindR2 h1.1 h1.2.2 (by omega) hj)) pI_cI) (kR_gt hcj)))) c1 (by decide) hj (by decide) (Or.inr ⟨rfl, bz_01 _⟩) ?_
        refine l_for 6 (fun i L' M2 => L' = [some (.ref 69), some (.int (nI yn)), some (.int 0), some (.int (nI j)), some (.int (nI i))] ∧ KA [87] M0 M2 ∧ M2.2.2 87 = aI 1 1000 (upd f j (bz ((hld (zbx a) j && blk (cdA (zab a) yn) j) && decide ((cn i fun d => !(blkO (cdA (zab a) yn) (nbO j (sw d)))) = 0))))) rfl (a := 0) rfl rfl (by decide) (by decide) ⟨rfl, b1.set (by decide) c1, ?_⟩ ?_ ?_ ?_
        · rw [get_at]
          rw [show ((hld (zbx a) j && blk (cdA (zab a) yn) j) && decide ((cn 0 fun d => !(blkO (cdA (zab a) yn) (nbO j (sw d)))) = 0)) = (hld (zbx a) j && blk (cdA (zab a) yn) j) from Bool.and_true _]
        · rintro i L' M2 ⟨rfl, -⟩
          rfl
        · rintro i L' M2 hi ⟨rfl, b2, d1⟩
          have h2 := h0.ka b2 (by decide)
          obtain ⟨th'', pm'', bm'', h69''⟩ := id h2.2.2
          have e1 : oGt (kR (gO (cdA (zab a) yn) (nbO j (sw i)))) 0 = blkO (cdA (zab a) yn) (nbO j (sw i)) := by
            unfold blkO
            cases e : nbO j (sw i) with
            | none => rfl
            | some m => rw [show gO (cdA (zab a) yn) (some m) = cdA (zab a) yn m from rfl, kR_gt (hO.av.cd (y := yn) (by omega) (nbO_lt hj e))]
          have p1 := pI_gI (t := 1) (L := [some (.ref 69), some (.int (nI yn)), some (.int 0), some (.int (nI j)), some (.int (nI i))]) (pA_fA (k := 21) (pA_lA (i := 0) rfl) h69'' rfl) (pI_lI (i := 3) rfl) d1 (inb_nI hj (by decide))
          rw [nI_clamp (by omega), show upd f j (bz ((hld (zbx a) j && blk (cdA (zab a) yn) j) && decide ((cn i fun d => !(blkO (cdA (zab a) yn) (nbO j (sw d)))) = 0))) j = bz ((hld (zbx a) j && blk (cdA (zab a) yn) j) && decide ((cn i fun d => !(blkO (cdA (zab a) yn) (nbO j (sw d)))) = 0)) from if_pos rfl] at p1
          refine l_pa (j := j) (x := bz ((hld (zbx a) j && blk (cdA (zab a) yn) j) && decide ((cn (i + 1) fun d => !(blkO (cdA (zab a) yn) (nbO j (sw d)))) = 0))) (pA_fA (k := 21) (pA_lA rfl) h69'' rfl) (pI_lI rfl) (pI_eq (pI_zI (pC_and (pC_nz p1) (pC_eq (pC_kI (pI_vV (pR_A (pA_lA rfl) (pR_I (pI_lI rfl) (pR_I (pI_lI rfl) (pR_I (pI_lI rfl) pR_0)))) h69'' (sp_kindBeside h2.1 h2.2.2 (by omega) hj hi)) pI_cI) e1))) ?_) d1 (by decide) hj (by decide) (Or.inr ⟨rfl, bz_01 _⟩) (Or.inr ⟨by decide, by decide, rfl, rfl, rfl, b2.set (by decide) d1, ?_⟩)
          · show bz _ = bz _
            congr 1
            rw [cn]
            cases blkO (cdA (zab a) yn) (nbO j (sw i)) with
            | true => rw [if_neg (by decide), Nat.add_zero, Bool.and_true]
            | false => rw [if_pos (by decide), Bool.and_false, decide_eq_false (by omega), Bool.and_false]
          · rw [get_at, upd_upd]
        · rintro L' M2 ⟨rfl, b2, d1⟩
          refine Or.inr ⟨by decide, by decide, rfl, rfl, rfl, b2, _, d1, fun c hc => ?_⟩
          unfold upd
          by_cases e : c = j
          · rw [if_pos e, e]
            unfold opP hoQ bare
            rw [cn6_sw fun d => !(blkO (cdA (zab a) yn) (nbO j d)), Bool.and_assoc]
          · rw [if_neg e]
            exact c2 c (by omega)
      · rintro L' M1 ⟨rfl, b1, f, c1, c2⟩
        have h1 := h0.ka b1 (by decide)
        refine q_for 1000 (fun j L' M2 => L' = [some (.ref 69), some (.int (nI yn)), some (.int (nI (opR yn (hoQ yn a) a j).1)), some (.int (nI j)), none] ∧ RSt L xs (opR yn (hoQ yn a) a j).2 M2 ∧ But [69, 75, 77, 78, 79, 80, 81, 82] M1 M2) rfl (a := 0) rfl rfl (by decide) (by decide) ⟨rfl, h1, But.rf⟩ ?_ ?_ ?_
        · rintro j L' M2 ⟨rfl, -⟩
          rfl
        · rintro j L' M2 hj ⟨rfl, d1, d2⟩
          obtain ⟨th', pm', bm', h69'⟩ := id d1.2.2
          have est : opR yn (hoQ yn a) a (j + 1) = stp yn (opP yn a (hoQ yn a)) (fun _ _ => 0) (opR yn (hoQ yn a) a j) j := chG_range _ _ _ _ _
          have p1 := pI_gI (t := 1) (L := [some (.ref 69), some (.int (nI yn)), some (.int (nI (opR yn (hoQ yn a) a j).1)), some (.int (nI j)), none]) (pA_fA (k := 21) (pA_lA (i := 0) rfl) h69' rfl) (pI_lI (i := 3) rfl) ((d2.2.2 87 (by decide)).trans c1) (inb_nI hj (by decide))
          rw [nI_clamp (by omega), c2 j hj] at p1
          refine wS_if (wC_and (wC_p (pC_nz p1) ⟨fun hb2 => ?_, fun hb2 => ⟨fun q => (by cases q), fun _ => wS_nop ?_⟩⟩))
          · have hbl : blk (cdA (zab a) yn) j = true := (Bool.and_eq_true_iff.mp (Bool.and_eq_true_iff.mp hb2).2).1
            have hne : ¬ cdA (zab (opR yn (hoQ yn a) a j).2) yn j = -1 := by
              rw [op_chR (by omega) hj]
              intro q
              unfold blk at hbl
              rw [q] at hbl
              exact absurd hbl (by decide)
            have est2 : opR yn (hoQ yn a) a (j + 1) = ((opR yn (hoQ yn a) a j).1 + b2n (chB (zab (opR yn (hoQ yn a) a j).2) yn j 0), zch yn j 0 (opR yn (hoQ yn a) a j).2) := est.trans (if_pos hb2)
            have key := sp_changeAt d1 hy hj hne (k0 := 0) (t0 := 0) (by decide) (by decide) (by decide) (by decide)
            rw [show cdf 0 0 = 0 from rfl] at key
            refine wC_kI (wI_vVw (pR_A (pA_lA rfl) (pR_I (pI_lI rfl) (pR_I (pI_lI rfl) (pR_I pI_cI (pR_I pI_cI pR_0))))) h69' (key.mono ?_))
            rintro r M3 ⟨rfl, k1, k2⟩
            refine ⟨_, rfl, wI_cI ?_⟩
            rw [bz_ne]
            refine ⟨fun hb3 => l_inc rfl rfl (Or.inr ⟨by decide, by decide, rfl, rfl, ?_, ?_, d2.tr k2⟩), fun hb3 => wS_nop (Or.inr ⟨by decide, by decide, rfl, rfl, ?_, ?_, d2.tr k2⟩)⟩
            · rw [est2, hb3, nI_1]; rfl
            · rw [est2]; exact k1
            · rw [est2, hb3]; rfl
            · rw [est2]; exact k1
          · have est2 := est.trans (if_neg (show ¬ opP yn a (hoQ yn a) (opR yn (hoQ yn a) a j).2 j = true by rw [show opP yn a (hoQ yn a) (opR yn (hoQ yn a) a j).2 j = opP yn a (hoQ yn a) a j from rfl, hb2]; decide))
            exact Or.inr ⟨by decide, by decide, rfl, rfl, by rw [est2]; rfl, by rw [est2]; exact d1, d2⟩
        · rintro L' M2 ⟨rfl, d1, d2⟩
          exact l_ret (pI_lI rfl) ⟨rfl, rfl, d1, s0.tr ((b1.ron (by decide)).tr (d2.ron (by decide)))⟩
  · unfold hoS
    split
    · rename_i hb1
      dsimp only
      obtain ⟨yn, hy, rfl⟩ := isY_nat hb1
      rw [nI_clamp (by omega)]
      have hfr : From yn a (opR yn (hoQ yn a) a 1000).2 := op_from hO (by omega) _ (range_lt (by omega))
      exact ⟨hfr.1, Nat.le_trans hfr.le (by omega)⟩
    · exact ⟨hO, Nat.le_add_right _ _⟩
