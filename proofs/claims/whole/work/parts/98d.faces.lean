/-! faces, load, overloaded -/
def lsum (f : Nat → Nat) (l : List Nat) : Nat := (l.map f).sum
theorem lsum_app (f : Nat → Nat) (l : List Nat) (x : Nat) : lsum f (l ++ [x]) = lsum f l + f x := by
  unfold lsum
  rw [List.map_append, List.sum_append]
  rfl
theorem lsum_bls (f : Nat → Nat) (g : Nat → Int32) (n : Nat) : lsum f (bls g n) = sm n fun c => if blk g c = true then f c else 0 := by
  induction n with
  | zero => rfl
  | succ n ih =>
    rw [bls_succ, sm, ← ih]
    by_cases e : blk g n = true
    · rw [if_pos e, if_pos e, lsum_app]
    · rw [if_neg e, if_neg e, List.append_nil]; rfl
theorem cn6_sw (p : Nat → Bool) : (cn 6 fun d => p (sw d)) = cn 6 p := by
  have s0 : sw 0 = 1 := rfl
  have s1 : sw 1 = 0 := rfl
  have s2 : sw 2 = 3 := rfl
  have s3 : sw 3 = 2 := rfl
  have s4 : sw 4 = 5 := rfl
  have s5 : sw 5 = 4 := rfl
  simp only [cn, s0, s1, s2, s3, s4, s5]
  omega
def faV (y : Int32) (a : AS) : Int32 := if isY y = true then nI (sm 1000 fun c => if blk (cdA (zab a) y.toNatClampNeg) c = true then bare (cdA (zab a) y.toNatClampNeg) c else 0) else -1
theorem le_gt (v : Int32) : oLe v 0 = !(oGt v 0) := by
  unfold oLe oGt
  by_cases e : v ≤ 0
  · simp [e, Int32.not_lt.mpr e]
  · simp [e, Int32.not_le.mp e]
theorem GrC.fr {M M' : Mm} {q : Nat} {g : Nat → Int32} {bs : List Nat} (h : GrC M q g bs) (h0 : M'.2.2 q = M.2.2 q) (h1 : M'.2.2 (q + 1) = M.2.2 (q + 1)) (h2 : M'.2.2 (q + 2) = M.2.2 (q + 2)) : GrC M' q g bs := by
  obtain ⟨g1, ⟨f, g2, g3⟩, ls, g4, g5⟩ := h
  exact ⟨h0.trans g1, ⟨f, h1.trans g2, g3⟩, ls, h2.trans g4, g5⟩
theorem pA_grid {L : Nat} {xs : Nat → Int32} {a : AS} {M : Mm} {Lc : Lv} (h : CCo L xs a M) (h0 : lkp Lc 0 = some (.ref 5)) : pA (fA 10 6 (lA 0)) Lc M (some 51) := pA_fA (pA_lA h0) h.o5 rfl
theorem pI_blocks {L : Nat} {xs : Nat → Int32} {a : AS} {M : Mm} {Lc : Lv} {g : Nat → Int32} {bs : List Nat} (h : CCo L xs a M) (hg : GrC M 51 g bs) (h0 : lkp Lc 0 = some (.ref 5)) : pI (fI 1 2 (fA 10 6 (lA 0))) Lc M (nI bs.length) := pI_fI (pA_grid h h0) hg.1 rfl
theorem pI_list {L : Nat} {xs : Nat → Int32} {a : AS} {M : Mm} {Lc : Lv} {g : Nat → Int32} {bs : List Nat} {i j : Nat} (h : CCo L xs a M) (hg : GrC M 51 g bs) (hl : bs.length ≤ 1000) (h0 : lkp Lc 0 = some (.ref 5)) (h1 : lkp Lc i = some (.int (nI j))) (hj : j < bs.length) : pI (gI 0 (fA 1 1 (fA 10 6 (lA 0))) (lI i)) Lc M (nI (bs.getD j 0)) := by
  obtain ⟨h2, -, ls, h4, h5⟩ := hg
  have h9 := pI_gI (t := 0) (pA_fA (k := 1) (pA_grid h h0) h2 rfl) (pI_lI h1) h4 (inb_nI (show j < 1000 by omega) (by decide))
  rw [nI_clamp (by omega), h5 j hj] at h9
  exact h9
theorem ok2_faces (L : Nat) (xs : Nat → Int32) (y : Int32) : OK2 (Inv2 L xs) F_X11_faces F_X12_faces [.int y] := by
  refine ok2_rd (faV y) (fun a M hO hb h => ?_) (fun a M hO hb h => wF_b rfl (Nat.le_of_ble_eq_true rfl) (r_st h rfl fun M0 h0 s0 => ?_))
  · unfold faV
    refine wF_b rfl (Nat.le_of_ble_eq_true rfl) (q_if (pC_not (pC_nz (pI_vS (pR_I (pI_lI rfl) pR_0) (sp_isYardC _ _)))) (fun hb1 => ?_) (fun hb1 => ?_))
    · rw [Bool.not_eq_true'] at hb1
      rw [if_neg (by rw [hb1]; decide)]
      exact q_ret pI_cI ⟨rfl, rfl, h, COn.rf⟩
    · rw [Bool.not_eq_false'] at hb1
      rw [if_pos hb1]
      obtain ⟨yn, hy, rfl⟩ := isY_nat hb1
      rw [nI_clamp (by omega), ← lsum_bls]
      obtain ⟨v0, o1, -, -⟩ := h.scr
      refine q_ex (wV_Vw (pR_A (pA_grid h.1 rfl) (pR_A (pA_yard h.1.1 h.1.o5 hy rfl rfl) pR_0)) o1 ((sp_readC h hy).mono ?_))
      rintro v M1 ⟨rfl, h1, h2, h3⟩
      have hlen := bls_len (cdA (zab a) yn) 1000
      refine ⟨rfl, q_I rfl pI_cI ?_⟩
      refine q_forC (bls (cdA (zab a) yn) 1000).length (fun j L' M2 => L' = [some (.ref 5), some (.int (nI yn)), some (.int (nI (lsum (bare (cdA (zab a) yn)) ((bls (cdA (zab a) yn) 1000).take j)))), some (.int (nI j))] ∧ M2 = M1) rfl (a := 0) pI_cI (by have : big = 1000000 := rfl; omega) (Nat.zero_le _) ⟨rfl, rfl⟩ ?_ ?_ ?_
      · rintro j L' M2 hj ⟨rfl, rfl⟩
        exact pC_eq (pC_kI (pI_lI rfl) (pI_blocks h1.1 h3 rfl)) (oLt_nI (by omega) (by omega))
      · rintro j L' M2 hj ⟨rfl, rfl⟩
        refine l_I rfl (pI_eq (pI_add (pI_lI rfl) (pI_vV (pR_A (pA_grid h1.1 rfl) (pR_I (pI_list h1.1 h3 hlen rfl rfl hj) pR_0)) h3.1 (sp_bare h3 (bls_lt (getD_mem hj))))) (nI_add _ _)) (Or.inr ⟨by decide, by decide, rfl, rfl, ?_, rfl⟩)
        rw [take_step hj, lsum_app]
        rfl
      · rintro L' M2 ⟨rfl, rfl⟩
        refine l_ret (pI_lI rfl) ⟨rfl, ?_, h1, h2.con (by decide)⟩
        rw [List.take_length]
  · obtain ⟨th, pm, bm, h69⟩ := id h0.2.2
    unfold faV
    refine q_if (pC_not (pC_nz (pI_vS (pR_I (pI_lI rfl) pR_0) (sp_isYardR _ _)))) (fun hb1 => ?_) (fun hb1 => ?_)
    · rw [Bool.not_eq_true'] at hb1
      rw [if_neg (by rw [hb1]; decide)]
      exact q_ret pI_cI ⟨rfl, rfl, h0, s0⟩
    · rw [Bool.not_eq_false'] at hb1
      rw [if_pos hb1]
      obtain ⟨yn, hy, rfl⟩ := isY_nat hb1
      rw [nI_clamp (by omega)]
      refine q_I rfl pI_cI ?_
      refine q_for 1000 (fun j L' M1 => L' = [some (.ref 69), some (.int (nI yn)), some (.int (nI (sm j fun c => if blk (cdA (zab a) yn) c = true then bare (cdA (zab a) yn) c else 0))), some (.int (nI j)), none] ∧ M1 = M0) rfl (a := 0) rfl rfl (by decide) (by decide) ⟨rfl, rfl⟩ ?_ ?_ ?_
      · rintro j L' M1 ⟨rfl, -⟩
        rfl
      · rintro j L' M1 hj ⟨rfl, rfl⟩
        have hcj := hO.av.cd (y := yn) (by omega) hj
        have e0 : oLe (kR (cdA (zab a) yn j)) 0 = !(blk (cdA (zab a) yn) j) := by rw [kR_le hcj, le_gt]; rfl
        refine q_if (pC_eq (pC_kI (pI_vV (pR_A (pA_lA rfl) (pR_I (pI_lI rfl) (pR_I (pI_lI rfl) pR_0))) h69 (sp_kindR2 h0.1 h0.2.2 (by omega) hj)) pI_cI) e0) (fun hb2 => ?_) (fun hb2 => ?_)
        · rw [Bool.not_eq_true'] at hb2
          refine q_cnt (Or.inr ⟨by decide, by decide, rfl, rfl, ?_, rfl⟩)
          rw [sm, hb2]; rfl
        · rw [Bool.not_eq_false'] at hb2
          refine l_for 6 (fun i L' M2 => L' = [some (.ref 69), some (.int (nI yn)), some (.int (nI (sm j fun c => if blk (cdA (zab a) yn) c = true then bare (cdA (zab a) yn) c else 0) + nI (cn i fun d => !(blkO (cdA (zab a) yn) (nbO j (sw d)))))), some (.int (nI j)), some (.int (nI i))] ∧ M2 = M1) rfl (a := 0) rfl rfl (by decide) (by decide) ⟨?_, rfl⟩ ?_ ?_ ?_
          · have : nI (sm j fun c => if blk (cdA (zab a) yn) c = true then bare (cdA (zab a) yn) c else 0) + nI (cn 0 fun d => !(blkO (cdA (zab a) yn) (nbO j (sw d)))) = nI (sm j fun c => if blk (cdA (zab a) yn) c = true then bare (cdA (zab a) yn) c else 0) := Int32.add_zero _
            rw [this]; rfl
          · rintro i L' M2 ⟨rfl, -⟩
            rfl
          · rintro i L' M2 hi ⟨rfl, rfl⟩
            have e1 : oLe (kR (gO (cdA (zab a) yn) (nbO j (sw i)))) 0 = !(blkO (cdA (zab a) yn) (nbO j (sw i))) := by
              unfold blkO
              cases e : nbO j (sw i) with
              | none => rfl
              | some m => rw [show gO (cdA (zab a) yn) (some m) = cdA (zab a) yn m from rfl, kR_le (hO.av.cd (y := yn) (by omega) (nbO_lt hj e)), le_gt]
            refine l_I rfl (pI_eq (pI_add (pI_lI rfl) (pI_tI (pC_eq (pC_kI (pI_vV (pR_A (pA_lA rfl) (pR_I (pI_lI rfl) (pR_I (pI_lI rfl) (pR_I (pI_lI rfl) pR_0)))) h69 (sp_kindBeside h0.1 h0.2.2 (by omega) hj hi)) pI_cI) e1) pI_cI pI_cI)) ?_) (Or.inr ⟨by decide, by decide, rfl, rfl, rfl, rfl⟩)
            rw [Int32.add_assoc, cn_add i fun d => !(blkO (cdA (zab a) yn) (nbO j (sw d)))]
          · rintro L' M2 ⟨rfl, rfl⟩
            refine Or.inr ⟨by decide, by decide, rfl, rfl, ?_, rfl⟩
            rw [sm, hb2, if_pos rfl, ← nI_add (sm j _)]
            unfold bare
            rw [cn6_sw fun d => !(blkO (cdA (zab a) yn) (nbO j d))]
            rfl
      · rintro L' M1 ⟨rfl, rfl⟩
        exact l_ret (pI_lI rfl) ⟨rfl, rfl, h0, s0⟩
-- load
/-- the weights above e - 100: at most n cells -/
def ldF (g : Nat → Int32) (W : Nat → Int32) : Nat → Nat → Int32 → Int32
  | 0, _, acc => acc
  | n + 1, e, acc => if e < 1000 ∧ blk g e = true then ldF g W n (e + 100) (acc + W (kd (g e)).toNatClampNeg) else acc
def ldV (g W : Nat → Int32) (c : Nat) : Int32 := ldF g W 10 (c + 100) 0
theorem kd_nat {kn : Nat} {v : Int32} (hkn : kn ≤ 30) (h : cOK kn v) (hb : oGt v 0 = true) : ∃ k, 1 ≤ k ∧ k ≤ kn ∧ kd v = nI k ∧ (kd v).toNatClampNeg = k := by
  obtain ⟨h1, h2, -⟩ := kd_of h hb
  have e := nI_tn (v := kd v) (by omega)
  refine ⟨(kd v).toInt.toNat, by omega, by omega, e, ?_⟩
  rw [e, nI_clamp (by omega), ← e]
theorem isK_nI {kn k : Nat} (hkn : kn ≤ 30) (h1 : 1 ≤ k) (h2 : k ≤ kn) : (oGe (nI k) 1 && oLe (nI k) (nI kn)) = true := by
  rw [show oGe (nI k) 1 = decide (1 ≤ k) from oGe_nI (b := 1) (by omega) (by decide), oLe_nI (by omega) (by omega), decide_eq_true h1, decide_eq_true h2]
  rfl
theorem sp_loadOn {L : Nat} {xs : Nat → Int32} {a : AS} {M : Mm} {g : Nat → Int32} {bs : List Nat} {c : Nat} (h : CCo L xs a M) (hkn : zkn a ≤ 30) (hg : GrC M 51 g bs) (hv : ∀ e, e < 1000 → cOK (zkn a) (g e)) (hc : c < 1000) : F_X2_loadOn [.ref 7, .int (nI c), .ref 51] M = some (some (.int (ldV g (zK a 0) c)), M) := by
  refine wF_eq (wF_b rfl (Nat.le_of_ble_eq_true rfl) (q_I rfl pI_cI (q_scp (q_I rfl (pI_eq (pI_add (pI_lI rfl) pI_cI) (nI_add c 100)) ?_))))
  refine wS_wh (I := fun m L' M1 => ∃ e acc, L' = [some (.ref 7), some (.int (nI c)), some (.ref 51), some (.int acc), some (.int (nI e)), none] ∧ M1 = M ∧ 1000 ≤ e + 100 * m ∧ e < 2000 ∧ ldF g (zK a 0) m e acc = ldV g (zK a 0) c) ?_ 10 _ _ ⟨c + 100, 0, rfl, rfl, by omega, by omega, rfl⟩ (by decide)
  rintro m L' M1 ⟨e, acc, rfl, rfl, h1, h2, h3⟩
  refine wC_p (v := decide (e < 1000 ∧ blk g e = true)) (pC_eq (pC_andD (y := oGt (gAt g (nI e)) 0) (pC_eq (pC_kI (pI_lI rfl) pI_cI) (oLt_nI (b := 1000) (by omega) (by decide))) fun _ => pC_nz (pI_vV (pR_A (pA_lA rfl) (pR_I (pI_lI rfl) pR_0)) hg.1 (sp_isBlock hg _))) ?_) ⟨fun hb => ?_, fun hb => ?_⟩
  · by_cases q : e < 1000
    · rw [gAt_nI g q, Bool.decide_and, show decide (blk g e = true) = blk g e from Bool.decide_eq_true]
      rfl
    · rw [decide_eq_false q, decide_eq_false (fun t => q t.1)]; rfl
  · have hb := of_decide_eq_false hb
    refine ⟨fun _ => ?_, fun q => absurd rfl q⟩
    have e1 : acc = ldV g (zK a 0) c := by
      rw [← h3]
      cases m with
      | zero => rfl
      | succ m => exact (if_neg hb).symm
    exact l_ret (pI_lI rfl) ⟨rfl, by rw [e1], rfl⟩
  · obtain ⟨hb1, hb2⟩ := of_decide_eq_true hb
    obtain ⟨k, k1, k2, k3, k4⟩ := kd_nat hkn (hv e hb1) hb2
    obtain ⟨m', rfl⟩ : ∃ m', m = m' + 1 := ⟨m - 1, by omega⟩
    have e2 : ldF g (zK a 0) m' (e + 100) (acc + zK a 0 k) = ldV g (zK a 0) c := by
      rw [← h3]
      show _ = if e < 1000 ∧ blk g e = true then _ else _
      rw [if_pos ⟨hb1, hb2⟩, k4]
    have hkk : kd (gAt g (nI e)) = nI k := by rw [gAt_nI g hb1]; exact k3
    refine l_scp (q_I rfl (pI_eq (pI_vS (pR_I (pI_vV (pR_A (pA_lA rfl) (pR_I (pI_lI rfl) pR_0)) hg.1 (sp_code hg _)) pR_0) (sp_kindOf _ _)) hkk) ?_)
    have p1 := pI_gI (t := 0) (L := ([some (.ref 7), some (.int (nI c)), some (.ref 51), some (.int acc), some (.int (nI e)), none] : Lv).set 5 (some (.int (nI k)))) (pA_fA (k := 0) (pA_lA (i := 0) rfl) h.k7 rfl) (pI_lI (i := 5) rfl) h.2.1.2.1 (inb_nI (show k < 31 by omega) (by decide))
    rw [nI_clamp (by omega)] at p1
    refine l_I rfl (pI_add (pI_lI rfl) (pI_eq (pI_tI (pC_eq (pC_nz (pI_vV (pR_A (pA_lA rfl) (pR_I (pI_lI rfl) pR_0)) h.k7 (sp_isKindC h.k7 _))) (isK_nI hkn k1 k2)) p1 pI_cI) (if_pos rfl))) ⟨fun q => absurd q (by decide), fun q => absurd q (by decide), fun _ _ => wS_inc rfl rfl ⟨rfl, m', by omega, e + 100, _, ?_, rfl, by omega, by omega, e2⟩⟩
    rw [← nI_add e 100]; rfl
theorem sp_loadOf {L : Nat} {xs : Nat → Int32} {a : AS} {M : Mm} {y c : Nat} (h : RCo L xs a M) (ho : RO a M) (hkn : zkn a ≤ 30) (hv : ∀ e, e < 1000 → cOK (zkn a) (cdA (zab a) y e)) (hy : y < 16) (hc : c < 1000) : F_X12_loadOf [.ref 69, .int (nI y), .int (nI c)] M = some (some (.int (ldV (cdA (zab a) y) (zK a 0) c)), M) := by
  obtain ⟨th, pm, bm, h69⟩ := id ho
  refine wF_eq (wF_b rfl (Nat.le_of_ble_eq_true rfl) (q_assoc (q_I rfl pI_cI (q_I rfl (pI_eq (pI_add (pI_lI rfl) pI_cI) (nI_add c 100)) (wS_seq ?_)))))
  refine wS_wh (I := fun m L' M1 => ∃ e acc, L' = [some (.ref 69), some (.int (nI y)), some (.int (nI c)), some (.int acc), some (.int (nI e))] ∧ M1 = M ∧ 1000 ≤ e + 100 * m ∧ e < 2000 ∧ ldF (cdA (zab a) y) (zK a 0) m e acc = ldV (cdA (zab a) y) (zK a 0) c) ?_ 10 _ _ ⟨c + 100, 0, rfl, rfl, by omega, by omega, rfl⟩ (by decide)
  rintro m L' M1 ⟨e, acc, rfl, rfl, h1, h2, h3⟩
  refine wC_p (v := decide (e < 1000 ∧ blk (cdA (zab a) y) e = true)) (pC_eq (pC_andD (y := blk (cdA (zab a) y) e) (pC_eq (pC_kI (pI_lI rfl) pI_cI) (oLt_nI (b := 1000) (by omega) (by decide))) fun hb => ?_) ?_) ⟨fun hb => ?_, fun hb => ?_⟩
  · have hb := of_decide_eq_true hb
    exact pC_eq (pC_kI (pI_vV (pR_A (pA_lA rfl) (pR_I (pI_lI rfl) (pR_I (pI_lI rfl) pR_0))) h69 (sp_kindR2 h ho hy hb)) pI_cI) (kR_gt (hv e hb))
  · rw [Bool.decide_and, show decide (blk (cdA (zab a) y) e = true) = blk (cdA (zab a) y) e from Bool.decide_eq_true]
  · have hb := of_decide_eq_false hb
    refine ⟨fun _ => ?_, fun q => absurd rfl q⟩
    have e1 : acc = ldV (cdA (zab a) y) (zK a 0) c := by
      rw [← h3]
      cases m with
      | zero => rfl
      | succ m => exact (if_neg hb).symm
    exact l_ret (pI_lI rfl) ⟨rfl, by rw [e1], rfl⟩
  · obtain ⟨hb1, hb2⟩ := of_decide_eq_true hb
    obtain ⟨k, k1, k2, k3, k4⟩ := kd_nat hkn (hv e hb1) hb2
    obtain ⟨m', rfl⟩ : ∃ m', m = m' + 1 := ⟨m - 1, by omega⟩
    have e2 : ldF (cdA (zab a) y) (zK a 0) m' (e + 100) (acc + zK a 0 k) = ldV (cdA (zab a) y) (zK a 0) c := by
      rw [← h3]
      show _ = if e < 1000 ∧ blk (cdA (zab a) y) e = true then _ else _
      rw [if_pos ⟨hb1, hb2⟩, k4]
    have hkk : kR (cdA (zab a) y e) = nI k := by
      rcases kR_cs (hv e hb1) with ⟨q, -⟩ | ⟨q, -⟩ | ⟨-, -, q, -, -⟩
      · unfold blk at hb2; rw [q] at hb2; exact absurd hb2 (by decide)
      · unfold blk at hb2; rw [q] at hb2; exact absurd hb2 (by decide)
      · rw [q]; exact k3
    have p1 := pI_gI (t := 0) (L := [some (.ref 69), some (.int (nI y)), some (.int (nI c)), some (.int acc), some (.int (nI e))]) (pA_fA (k := 2) (pA_lA (i := 0) rfl) h69 rfl) (pI_eq (pI_vV (pR_A (pA_lA (i := 0) rfl) (pR_I (pI_lI (i := 1) rfl) (pR_I (pI_lI (i := 4) rfl) pR_0))) h69 (sp_kindR2 h ho hy hb1)) hkk) h.2.1.1 (inb_nI (show k < 31 by omega) (by decide))
    rw [nI_clamp (by omega)] at p1
    refine q_I rfl (pI_add (pI_lI rfl) p1) (l_inc rfl rfl ⟨fun q => absurd q (by decide), fun q => absurd q (by decide), fun _ _ => wS_nop ⟨rfl, m', by omega, e + 100, _, ?_, rfl, by omega, by omega, e2⟩⟩)
    rw [← nI_add e 100]; rfl
def loV (y z x w : Int32) (a : AS) : Int32 := if oLe (inV (zab a) y z x w) 0 = true then -1 else ldV (cdA (zab a) y.toNatClampNeg) (zK a 0) (cNat z x w)
/-- a place that has a block, in numbers -/
theorem inV_blk {a : AS} {y z x w : Int32} (h : oLe (inV (zab a) y z x w) 0 = false) : ∃ yn zn xn wn, yn < 4 ∧ zn < 10 ∧ xn < 10 ∧ wn < 10 ∧ y = nI yn ∧ z = nI zn ∧ x = nI xn ∧ w = nI wn ∧ y.toNatClampNeg = yn ∧ cNat z x w = 100 * zn + 10 * xn + wn ∧ inV (zab a) y z x w = cdA (zab a) yn (100 * zn + 10 * xn + wn) ∧ blk (cdA (zab a) yn) (100 * zn + 10 * xn + wn) = true := by
  by_cases e : thV (zab a) y z x w = 0
  · obtain ⟨yn, zn, xn, wn, hy, hz, hx, hw, rfl, rfl, rfl, rfl, hne, e1, e2, hne2⟩ := thV_yes e
    have e3 : inV (zab a) (nI yn) (nI zn) (nI xn) (nI wn) = cdA (zab a) yn (100 * zn + 10 * xn + wn) := by
      have e4 := e
      unfold thV at e4
      rw [if_pos (isY_nI hy), nI_clamp (by omega)] at e4
      rw [inV_yes hy hz hx hw e4, cdA_at _ hx hw]
    refine ⟨yn, zn, xn, wn, hy, hz, hx, hw, rfl, rfl, rfl, rfl, e1, e2, e3, ?_⟩
    rw [e3, le_gt, Bool.not_eq_false'] at h
    exact h
  · rw [inV_no e] at h
    exact absurd h (by decide)
theorem inV_R {y z x w : Int32} {a : AS} (hv : ∀ v, v = inV (zab a) y z x w → cOK (zkn a) v) : oLe (kR (inV (zab a) y z x w)) 0 = oLe (inV (zab a) y z x w) 0 := kR_le (hv _ rfl)
theorem inV_ok {a : AS} (hO : OkA a) (y z x w : Int32) : cOK (zkn a) (inV (zab a) y z x w) := by
  by_cases e : thV (zab a) y z x w = 0
  · obtain ⟨yn, zn, xn, wn, hy, hz, hx, hw, rfl, rfl, rfl, rfl, hne, e1, e2, hne2⟩ := thV_yes e
    have e4 := e
    unfold thV at e4
    rw [if_pos (isY_nI hy), nI_clamp (by omega)] at e4
    rw [inV_yes hy hz hx hw e4]
    exact hO.av _ _ _ (by omega) hx hw
  · rw [inV_no e]
    exact Or.inl rfl
theorem ok2_load (L : Nat) (xs : Nat → Int32) (y z x w : Int32) : OK2 (Inv2 L xs) F_X11_load F_X12_load [.int y, .int z, .int x, .int w] := by
  refine ok2_rd (loV y z x w) (fun a M hO hb h => ?_) (fun a M hO hb h => wF_b rfl (Nat.le_of_ble_eq_true rfl) (r_st h rfl fun M0 h0 s0 => ?_))
  · unfold loV
    refine wF_b rfl (Nat.le_of_ble_eq_true rfl) (q_if (pC_kI (pI_vV (pR_A (pA_lA rfl) (pR_I (pI_lI rfl) (pR_I (pI_lI rfl) (pR_I (pI_lI rfl) (pR_I (pI_lI rfl) pR_0))))) h.1.o5 (sp_codeIn h.1 y z x w)) pI_cI) (fun hb1 => ?_) (fun hb1 => ?_))
    · rw [if_pos hb1]
      exact q_ret pI_cI ⟨rfl, rfl, h, COn.rf⟩
    · rw [if_neg (by rw [hb1]; decide)]
      obtain ⟨yn, zn, xn, wn, hy, hz, hx, hw, rfl, rfl, rfl, rfl, e1, e2, e3, e4⟩ := inV_blk hb1
      rw [e1, e2]
      obtain ⟨v0, o1, -, -⟩ := h.scr
      refine q_ex (wV_Vw (pR_A (pA_grid h.1 rfl) (pR_A (pA_yard h.1.1 h.1.o5 hy rfl rfl) pR_0)) o1 ((sp_readC h hy).mono ?_))
      rintro v M1 ⟨rfl, h1, h2, h3⟩
      exact ⟨rfl, l_ret (pI_vV (pR_A (pA_kinds h1.1 rfl) (pR_I (pI_vS (pR_I (pI_lI rfl) (pR_I (pI_lI rfl) (pR_I (pI_lI rfl) pR_0))) (sp_cellOf _ _ _ _)) (pR_A (pA_grid h1.1 rfl) pR_0))) h1.1.k7 (sp_loadOn h1.1 hO.1 h3 (fun e he => hO.av.cd (by omega) he) (by omega))) ⟨rfl, rfl, h1, h2.con (by decide)⟩⟩
  · obtain ⟨th, pm, bm, h69⟩ := id h0.2.2
    unfold loV
    have er := kR_le (inV_ok hO y z x w)
    refine q_if (v := oLe (inV (zab a) y z x w) 0) (pC_eq (pC_orD (y := oLe (inV (zab a) y z x w) 0) (pC_not (pC_nz (pI_vS (pR_I (pI_lI rfl) pR_0) (sp_isYardR _ _)))) fun hb1 => ?_) ?_) (fun hb1 => ?_) (fun hb1 => ?_)
    · rw [Bool.not_eq_false'] at hb1
      rw [← er]
      unfold inV
      rw [if_pos hb1]
      obtain ⟨yn, hy, rfl⟩ := isY_nat hb1
      rw [nI_clamp (by omega)]
      exact pC_kI (pI_vV (pR_A (pA_lA rfl) (pR_I (pI_lI rfl) (pR_I (pI_lI rfl) (pR_I (pI_lI rfl) (pR_I (pI_lI rfl) pR_0))))) h69 (sp_kindAt h0.1 h0.2.2 (by omega) z x w)) pI_cI
    · by_cases q : isY y = true
      · rw [q]; rfl
      · have : inV (zab a) y z x w = -1 := by unfold inV; rw [if_neg q]
        rw [this, Bool.eq_false_iff.mpr q]; rfl
    · rw [if_pos hb1]
      exact q_ret pI_cI ⟨rfl, rfl, h0, s0⟩
    · rw [if_neg (by rw [hb1]; decide)]
      obtain ⟨yn, zn, xn, wn, hy, hz, hx, hw, rfl, rfl, rfl, rfl, e1, e2, e3, e4⟩ := inV_blk hb1
      rw [e1, e2]
      have ec : (100 : Int32) * nI zn + 10 * nI xn + nI wn = nI (100 * zn + 10 * xn + wn) := by
        rw [← nI_add, ← nI_add, ← nI_mul (c := 100) rfl, ← nI_mul (c := 10) rfl]
      exact l_ret (pI_vV (pR_A (pA_lA rfl) (pR_I (pI_lI rfl) (pR_I (pI_eq (pI_add (pI_add (pI_mul pI_cI (pI_lI rfl)) (pI_mul pI_cI (pI_lI rfl))) (pI_lI rfl)) ec) pR_0))) h69 (sp_loadOf h0.1 h0.2.2 hO.1 (fun e he => hO.av.cd (by omega) he) (by omega) (by omega))) ⟨rfl, rfl, h0, s0⟩
-- overloaded
theorem cn_filter (n : Nat) (p : Nat → Bool) : ((List.range n).filter p).length = cn n p := by
  induction n with
  | zero => rfl
  | succ n ih =>
    rw [List.range_succ, List.filter_append, List.length_append, ih, cn, List.filter_cons, List.filter_nil]
    split <;> rfl
theorem bls_count (g : Nat → Int32) (q : Nat → Bool) (n : Nat) : ((bls g n).filter q).length = cn n fun c => q c && blk g c := by
  unfold bls
  rw [List.filter_filter, cn_filter]
def ovP (a : AS) (y : Nat) (c : Nat) : Bool := oGt (ldV (cdA (zab a) y) (zK a 0) c) (zK a 1 (kd (cdA (zab a) y c)).toNatClampNeg)
def ovV (y : Int32) (a : AS) : Int32 := if isY y = true then nI (cn 1000 fun c => ovP a y.toNatClampNeg c && blk (cdA (zab a) y.toNatClampNeg) c) else -1
theorem ok2_overloaded (L : Nat) (xs : Nat → Int32) (y : Int32) : OK2 (Inv2 L xs) F_X11_overloaded F_X12_overloaded [.int y] := by
  refine ok2_rd (ovV y) (fun a M hO hb h => ?_) (fun a M hO hb h => wF_b rfl (Nat.le_of_ble_eq_true rfl) (r_st h rfl fun M0 h0 s0 => ?_))
  · unfold ovV
    refine wF_b rfl (Nat.le_of_ble_eq_true rfl) (q_if (pC_not (pC_nz (pI_vS (pR_I (pI_lI rfl) pR_0) (sp_isYardC _ _)))) (fun hb1 => ?_) (fun hb1 => ?_))
    · rw [Bool.not_eq_true'] at hb1
      rw [if_neg (by rw [hb1]; decide)]
      exact q_ret pI_cI ⟨rfl, rfl, h, COn.rf⟩
    · rw [Bool.not_eq_false'] at hb1
      rw [if_pos hb1]
      obtain ⟨yn, hy, rfl⟩ := isY_nat hb1
      rw [nI_clamp (by omega), ← bls_count]
      obtain ⟨v0, o1, -, -⟩ := h.scr
      refine q_ex (wV_Vw (pR_A (pA_grid h.1 rfl) (pR_A (pA_yard h.1.1 h.1.o5 hy rfl rfl) pR_0)) o1 ((sp_readC h hy).mono ?_))
      rintro v M1 ⟨rfl, h1, h2, h3⟩
      have hlen := bls_len (cdA (zab a) yn) 1000
      refine ⟨rfl, q_I rfl pI_cI ?_⟩
      refine q_forC (bls (cdA (zab a) yn) 1000).length (fun j L' M2 => L' = [some (.ref 5), some (.int (nI yn)), some (.int (nI (((bls (cdA (zab a) yn) 1000).take j).filter (ovP a yn)).length)), some (.int (nI j)), none] ∧ M2 = M1) rfl (a := 0) pI_cI (by have : big = 1000000 := rfl; omega) (Nat.zero_le _) ⟨rfl, rfl⟩ ?_ ?_ ?_
      · rintro j L' M2 hj ⟨rfl, rfl⟩
        exact pC_eq (pC_kI (pI_lI rfl) (pI_blocks h1.1 h3 rfl)) (oLt_nI (by omega) (by omega))
      · rintro j L' M2 hj ⟨rfl, rfl⟩
        have hcj := bls_lt (getD_mem hj)
        obtain ⟨k, k1, k2, k3, k4⟩ := kd_nat hO.1 (hO.av.cd (y := yn) (by omega) hcj) (bls_blk (getD_mem hj))
        have hkn := hO.1
        have ef := filt_step (ovP a yn) hj
        have hst : F_X2_strengthOf [.ref 7, .int (nI k)] M2 = some (some (.int (zK a 1 k)), M2) := by
          have p1 := pI_gI (t := 0) (L := mkL 2 [.ref 7, .int (nI k)]) (pA_fA (k := 1) (pA_lA (i := 0) rfl) h1.1.k7 rfl) (pI_lI (i := 1) rfl) h1.1.2.1.2.2.1 (inb_nI (show k < 31 by omega) (by decide))
          rw [nI_clamp (by omega)] at p1
          exact wF_eq (wF_b rfl (Nat.le_of_ble_eq_true rfl) (l_ret (pI_eq (pI_tI (pC_eq (pC_nz (pI_vV (pR_A (pA_lA rfl) (pR_I (pI_lI rfl) pR_0)) h1.1.k7 (sp_isKindC h1.1.k7 _))) (isK_nI hO.1 k1 k2)) p1 pI_cI) (if_pos rfl)) ⟨rfl, rfl, rfl⟩))
        refine l_scp (q_I rfl (pI_list h1.1 h3 hlen rfl rfl hj) ?_)
        refine l_if (v := ovP a yn ((bls (cdA (zab a) yn) 1000).getD j 0)) (pC_eq (pC_kI (pI_vV (pR_A (pA_kinds h1.1 rfl) (pR_I (pI_lI rfl) (pR_A (pA_grid h1.1 rfl) pR_0))) h1.1.k7 (sp_loadOn h1.1 hO.1 h3 (fun e he => hO.av.cd (by omega) he) hcj)) (pI_vV (pR_A (pA_kinds h1.1 rfl) (pR_I (pI_eq (pI_vS (pR_I (pI_vV (pR_A (pA_grid h1.1 rfl) (pR_I (pI_lI rfl) pR_0)) h3.1 (sp_code h3 _)) pR_0) (sp_kindOf _ _)) (by rw [gAt_nI _ hcj]; exact k3)) pR_0)) h1.1.k7 hst)) ?_) (fun hb => ?_) (fun hb => ?_)
        · unfold ovP
          rw [k4]
        · rw [if_pos hb] at ef
          refine l_inc rfl rfl (Or.inr ⟨by decide, by decide, rfl, rfl, ?_, rfl⟩)
          rw [ef, List.length_append, nI_1]; rfl
        · rw [if_neg (by rw [hb]; decide), List.append_nil] at ef
          refine wS_nop (Or.inr ⟨by decide, by decide, rfl, rfl, ?_, rfl⟩)
          rw [ef]; rfl
      · rintro L' M2 ⟨rfl, rfl⟩
        refine l_ret (pI_lI rfl) ⟨rfl, ?_, h1, h2.con (by decide)⟩
        rw [List.take_length]
  · obtain ⟨th, pm, bm, h69⟩ := id h0.2.2
    unfold ovV
    refine q_if (pC_not (pC_nz (pI_vS (pR_I (pI_lI rfl) pR_0) (sp_isYardR _ _)))) (fun hb1 => ?_) (fun hb1 => ?_)
    · rw [Bool.not_eq_true'] at hb1
      rw [if_neg (by rw [hb1]; decide)]
      exact q_ret pI_cI ⟨rfl, rfl, h0, s0⟩
    · rw [Bool.not_eq_false'] at hb1
      rw [if_pos hb1]
      obtain ⟨yn, hy, rfl⟩ := isY_nat hb1
      rw [nI_clamp (by omega)]
      refine q_I rfl pI_cI ?_
      refine q_for 1000 (fun j L' M1 => L' = [some (.ref 69), some (.int (nI yn)), some (.int (nI (cn j fun c => ovP a yn c && blk (cdA (zab a) yn) c))), some (.int (nI j))] ∧ M1 = M0) rfl (a := 0) rfl rfl (by decide) (by decide) ⟨rfl, rfl⟩ ?_ ?_ ?_
      · rintro j L' M1 ⟨rfl, -⟩
        rfl
      · rintro j L' M1 hj ⟨rfl, rfl⟩
        have hcj := hO.av.cd (y := yn) (by omega) hj
        have pk : ∀ Lx : Lv, lkp Lx 0 = some (.ref 69) → lkp Lx 1 = some (.int (nI yn)) → lkp Lx 3 = some (.int (nI j)) → pI (vI (ivV 11 F_X12_kindOf (rA (lA 0) (rI (lI 1) (rI (lI 3) r0))))) Lx M1 (kR (cdA (zab a) yn j)) := fun Lx q0 q1 q3 => pI_vV (pR_A (pA_lA q0) (pR_I (pI_lI q1) (pR_I (pI_lI q3) pR_0))) h69 (sp_kindR2 h0.1 h0.2.2 (by omega) hj)
        refine l_I rfl (pI_eq (pI_add (pI_lI rfl) (pI_tI (b := blk (cdA (zab a) yn) j && ovP a yn j) (pC_andD (pC_eq (pC_kI (pk _ rfl rfl rfl) pI_cI) (kR_gt hcj)) fun hb => ?_) pI_cI pI_cI)) ?_) (Or.inr ⟨by decide, by decide, rfl, rfl, rfl, rfl⟩)
        · have hkn := hO.1
          obtain ⟨k, k1, k2, k3, k4⟩ := kd_nat hO.1 hcj hb
          have hkk : kR (cdA (zab a) yn j) = nI k := by
            rcases kR_cs hcj with ⟨q, -⟩ | ⟨q, -⟩ | ⟨-, -, q, -, -⟩
            · unfold blk at hb; rw [q] at hb; exact absurd hb (by decide)
            · unfold blk at hb; rw [q] at hb; exact absurd hb (by decide)
            · rw [q]; exact k3
          have p1 := pI_gI (t := 0) (L := [some (.ref 69), some (.int (nI yn)), some (.int (nI (cn j fun c => ovP a yn c && blk (cdA (zab a) yn) c))), some (.int (nI j))]) (pA_fA (k := 3) (pA_lA (i := 0) rfl) h69 rfl) (pI_eq (pk _ rfl rfl rfl) hkk) h0.1.2.1.2.1 (inb_nI (show k < 31 by omega) (by decide))
          rw [nI_clamp (by omega)] at p1
          unfold ovP
          rw [k4]
          exact pC_kI (pI_vV (pR_A (pA_lA rfl) (pR_I (pI_lI rfl) (pR_I (pI_lI rfl) pR_0))) h69 (sp_loadOf h0.1 h0.2.2 hO.1 (fun e he => hO.av.cd (by omega) he) (by omega) hj)) p1
        · rw [Bool.and_comm, cn_add j fun c => ovP a yn c && blk (cdA (zab a) yn) c]
      · rintro L' M1 ⟨rfl, rfl⟩
        exact l_ret (pI_lI rfl) ⟨rfl, rfl, h0, s0⟩
