/-! partOf -/
noncomputable def szO (g : Nat → Int32) (k : Nat) : Nat := cn 1000 fun c => decide (lbS g c = some k)
noncomputable def fsO (g : Nat → Int32) (k : Nat) : Nat := ((List.range 1000).find? fun c => decide (lbS g c = some k)).getD 0
theorem fsO_eq {g : Nat → Int32} {lb : Nat → Option Nat} (hL : LB g 1000 lb) {f : Nat} (hf : f < 1000) (hld : lead g f) : fsO g (cn f (ldB g)) = f := by
  unfold fsO
  have e : (List.range 1000).find? (fun c => decide (lbS g c = some (cn f (ldB g)))) = some f := by
    refine List.find?_range_eq_some.mpr ⟨decide_eq_true (by rw [← lbS_eq hL hf]; exact (hL f hf _).mpr ⟨f, hld, hf, con_rf f, rfl⟩), List.mem_range.mpr hf, fun c hc => ?_⟩
    rw [Bool.not_eq_true']
    refine decide_eq_false fun q => ?_
    rw [← lbS_eq hL (by omega)] at q
    obtain ⟨f', f1, f2, f3, f4⟩ := (hL c (by omega) _).mp q
    have := ld_un f1 hld f4.symm
    subst this
    have := f1.2.2 c f3
    omega
  rw [e]
  rfl
noncomputable def poW (a : AS) (g : Nat → Int32) (k : Nat) (w : Int32) : Int32 := if w = 0 then nI (szO g k) else if w = 1 then bz (lsB a g k) else if w = 2 then nI (fsO g k) else if w = 3 then nI (stO g k) else -1
noncomputable def poV (y k w : Int32) (a : AS) : Int32 := if isY y = true then (if (oGe k 0 && oLt k (nI (cn 1000 (ldB (cdA (zab a) y.toNatClampNeg))))) = true then poW a (cdA (zab a) y.toNatClampNeg) k.toNatClampNeg w else -1) else -1
theorem in_sub {k : Int32} {n : Nat} (hn : n ≤ 1000) : isIn k 0 (nI n - 1) = (oGe k 0 && oLt k (nI n)) := by
  unfold isIn oGe oLt
  congr 1
  rw [decide_eq_decide, Int32.le_iff_toInt_le, Int32.lt_iff_toInt_lt]
  have e1 : (1 : Int32).toInt = 1 := rfl
  have e : (nI n - 1).toInt = (n : Int) - 1 := by
    rw [Int32.toInt_sub, nI_toInt (by omega), e1]
    exact Int.bmod_eq_of_le (by omega) (by omega)
  rw [e, nI_toInt (by omega)]
  omega
theorem not_in {k n : Int32} : (oLt k 0 || oGe k n) = !(oGe k 0 && oLt k n) := by
  rw [oLt_ge k 0, oLt_ge k n, Bool.not_and, Bool.not_not]
theorem in_nN {k : Int32} {n : Nat} (hn : n ≤ 1000) (h : (oGe k 0 && oLt k (nI n)) = true) : ∃ m, m < n ∧ k = nI m := by
  obtain ⟨h1, h2⟩ := Bool.and_eq_true_iff.mp h
  have h1 : (0 : Int32).toInt ≤ k.toInt := Int32.le_iff_toInt_le.mp (of_decide_eq_true h1)
  have h2 : k.toInt < (nI n).toInt := Int32.lt_iff_toInt_lt.mp (of_decide_eq_true h2)
  rw [nI_toInt (by omega)] at h2
  have z0 : (0 : Int32).toInt = 0 := rfl
  exact ⟨_, by omega, nI_tn (by omega)⟩
theorem poW_1 (a : AS) (g : Nat → Int32) (k : Nat) : poW a g k (nI 1) = bz (lsB a g k) := by
  unfold poW
  rw [if_neg (by decide), if_pos (by decide)]
theorem ok2_partOf (L : Nat) (xs : Nat → Int32) (y k w : Int32) : OK2 (Inv2 L xs) F_X11_partOf F_X12_partOf [.int y, .int k, .int w] := by
  have hbig : big = 1000000 := rfl
  refine ok2_rd (poV y k w) (fun a M hO hb h => ?_) (fun a M hO hb h => wF_b rfl (Nat.le_of_ble_eq_true rfl) (r_st h rfl fun M0 h0 s0 => ?_))
  · unfold poV
    refine wF_b rfl (Nat.le_of_ble_eq_true rfl) (q_if (pC_not (pC_nz (pI_vS (pR_I (pI_lI rfl) pR_0) (sp_isYardC _ _)))) (fun hb1 => ?_) (fun hb1 => ?_))
    · rw [Bool.not_eq_true'] at hb1
      rw [if_neg (by rw [hb1]; decide)]
      exact q_ret pI_cI ⟨rfl, rfl, h, COn.rf⟩
    rw [Bool.not_eq_false'] at hb1
    rw [if_pos hb1]
    obtain ⟨yn, hy, rfl⟩ := isY_nat hb1
    rw [nI_clamp (by omega)]
    refine q_ex (wV_Vw (pR_A (pA_lA rfl) (pR_I (pI_lI rfl) pR_0)) h.1.o5 ((sp_findPartsC h hy).mono ?_))
    rintro v M1 ⟨rfl, h1, h2, h3, lb, mem, st, k2, k3⟩
    have con : COn M M1 := h2.con (by decide)
    obtain ⟨g, hg⟩ : ∃ g, g = cdA (zab a) yn := ⟨_, rfl⟩
    have hcd : ∀ c, c < 1000 → cOK (zkn a) (cdA (zab a) yn c) := fun c hc => hO.av.cd (by omega) hc
    rw [← hg] at h3 k2 k3 hcd ⊢
    have hcn := cn_le 1000 (ldB g)
    refine ⟨rfl, q_if (pC_eq (pC_or (pC_kI (pI_lI rfl) pI_cI) (pC_kI (pI_lI rfl) (pI_fI (pA_lumps h1.1 rfl) k3.1 rfl))) not_in) (fun hb2 => ?_) (fun hb2 => ?_)⟩
    · rw [Bool.not_eq_true'] at hb2
      rw [if_neg (by rw [hb2]; decide)]
      exact q_ret pI_cI ⟨rfl, rfl, h1, con⟩
    rw [Bool.not_eq_false'] at hb2
    rw [if_pos hb2]
    obtain ⟨kn', hk, rfl⟩ := in_nN hcn hb2
    rw [nI_clamp (by omega)]
    obtain ⟨f, hf, hld, efk⟩ := ld_of 1000 hk
    obtain ⟨l1, ⟨fl, fm, l2, l3, l4, l5⟩, hS, hml, fs, l6, l7⟩ := id k3
    obtain ⟨s1, s2, s3, s4, s5, s6⟩ := hS.2 f hld hf
    rw [efk] at s1 s2 s3 s4 s5 s6
    have pst : ∀ Lx : Lv, lkp Lx 0 = some (.ref 57) → lkp Lx 1 = some (.int (nI kn')) → pI (gI 0 (fA 6 2 (lA 0)) (lI 1)) Lx M1 (nI (st kn')) := fun Lx q0 q1 => by
      have h9 := pI_gI (t := 0) (L := Lx) (pA_fA (k := 2) (pA_lA q0) l1 rfl) (pI_lI q1) l6 (inb_nI (show kn' < 1001 by omega) (by decide))
      rw [nI_clamp (by omega), l7 kn' (by omega)] at h9
      exact h9
    have pst1 : ∀ Lx : Lv, lkp Lx 0 = some (.ref 57) → lkp Lx 1 = some (.int (nI kn')) → pI (gI 0 (fA 6 2 (lA 0)) (bI oAdd (lI 1) (cI 1))) Lx M1 (nI (st (kn' + 1))) := fun Lx q0 q1 => by
      have h9 := pI_gI (t := 0) (L := Lx) (pA_fA (k := 2) (pA_lA q0) l1 rfl) (pI_eq (pI_add (pI_lI q1) pI_cI) (nI_1 kn')) l6 (inb_nI (show kn' + 1 < 1001 by omega) (by decide))
      rw [nI_clamp (by omega), l7 (kn' + 1) (by omega)] at h9
      exact h9
    have hsz : cn 1000 (fun c => decide (lb c = some kn')) = szO g kn' := cn_congr fun c hc => by rw [lbS_eq k2 hc]
    have hSz : F_X6_sizeOf [.ref 57, .int (nI kn')] M1 = some (some (.int (nI (szO g kn'))), M1) := wF_eq (wF_b rfl (Nat.le_of_ble_eq_true rfl) (l_ret (pI_eq (pI_sub (pst1 _ rfl rfl) (pst _ rfl rfl)) (by
      rw [nI_sub (by omega) (by omega), s4, hsz, Nat.add_sub_cancel_left])) ⟨rfl, rfl, rfl⟩))
    have hFs : F_X6_firstOf [.ref 57, .int (nI kn')] M1 = some (some (.int (nI (fsO g kn'))), M1) := by
      have h9 := pI_gI (t := 0) (L := mkL 2 [.ref 57, .int (nI kn')]) (pA_fA (k := 1) (pA_lA (i := 0) rfl) l1 rfl) (pst _ rfl rfl) l3 (inb_nI (show st kn' < 1000 by omega) (by decide))
      rw [nI_clamp (by omega), l5 _ (by omega), s1] at h9
      refine wF_eq (wF_b rfl (Nat.le_of_ble_eq_true rfl) (l_ret h9 ⟨rfl, ?_, rfl⟩))
      rw [← efk, fsO_eq k2 hf hld]
    rcases w_cases w 4 (by decide) with ⟨n, hn, rfl⟩ | ⟨hn, hne⟩
    · refine wS_swN (n := n) (pI_lI rfl) (by omega) ?_
      rcases (show n = 0 ∨ n = 1 ∨ n = 2 ∨ n = 3 by omega) with rfl | rfl | rfl | rfl
      · exact l_ret (pI_vV (pR_A (pA_lumps h1.1 rfl) (pR_I (pI_lI rfl) pR_0)) l1 hSz) ⟨fun q => absurd q (by decide), fun _ => ⟨rfl, rfl, h1, con⟩⟩
      · refine l_ret (pI_eq (pI_tI (pC_nz (pI_vV (pR_A (pA_lumps h1.1 rfl) (pR_I (pI_lI rfl) (pR_A (pA_grid h1.1 rfl) (pR_A (pA_kinds h1.1 rfl) pR_0)))) l1 (sp_isLooseC h1.1 hO h3 hcd k2 k3 hk))) pI_cI pI_cI) (bz_if _)) ⟨fun q => absurd q (by decide), fun _ => ⟨rfl, by rw [poW_1], h1, con⟩⟩
      · exact l_ret (pI_vV (pR_A (pA_lumps h1.1 rfl) (pR_I (pI_lI rfl) pR_0)) l1 hFs) ⟨fun q => absurd q (by decide), fun _ => ⟨rfl, rfl, h1, con⟩⟩
      · exact l_ret (pI_vV (pR_A (pA_lumps h1.1 rfl) (pR_I (pI_lI rfl) (pR_A (pA_grid h1.1 rfl) pR_0))) l1 (sp_stepsC h3 k2 k3 hk)) ⟨fun q => absurd q (by decide), fun _ => ⟨rfl, rfl, h1, con⟩⟩
    · refine wS_swD (pI_lI rfl) hn (l_ret pI_cI ⟨fun q => absurd q (by decide), fun _ => ⟨rfl, ?_, h1, con⟩⟩)
      have e0 : ¬ w = 0 := hne 0 (by decide)
      have e1 : ¬ w = 1 := hne 1 (by decide)
      have e2 : ¬ w = 2 := hne 2 (by decide)
      have e3 : ¬ w = 3 := hne 3 (by decide)
      unfold poW
      rw [if_neg e0, if_neg e1, if_neg e2, if_neg e3]
  · obtain ⟨th, pm, bm, h69⟩ := id h0.2.2
    unfold poV
    refine q_if (pC_not (pC_nz (pI_vS (pR_I (pI_lI rfl) pR_0) (sp_isYardR _ _)))) (fun hb1 => ?_) (fun hb1 => ?_)
    · rw [Bool.not_eq_true'] at hb1
      rw [if_neg (by rw [hb1]; decide)]
      exact q_ret pI_cI ⟨rfl, rfl, h0, s0⟩
    rw [Bool.not_eq_false'] at hb1
    rw [if_pos hb1]
    obtain ⟨yn, hy, rfl⟩ := isY_nat hb1
    rw [nI_clamp (by omega)]
    refine q_ex (wV_Vw (pR_A (pA_lA rfl) (pR_I (pI_lI rfl) pR_0)) h69 ((sp_findPartsR h0 hO hy).mono ?_))
    rintro v M1 ⟨rfl, h1, s1, lb, k2, k3⟩
    have hcn := cn_le 1000 (ldB (cdA (zab a) yn))
    obtain ⟨th1, bm1, fl, ff, p1, p2, p3, p4, p5⟩ := id k3
    have s2 := s0.tr s1
    refine ⟨rfl, q_if (v := !(oGe k 0 && oLt k (nI (cn 1000 (ldB (cdA (zab a) yn)))))) (pC_not (pC_nz (pI_eq (pI_vS (pR_I (pI_lI rfl) (pR_I pI_cI (pR_I (pI_sub (pI_fI (pA_lA rfl) p1 rfl) pI_cI) pR_0))) (sp_in _ _ _ _)) (by rw [in_sub hcn])))) (fun hb2 => ?_) (fun hb2 => ?_)⟩
    · rw [Bool.not_eq_true'] at hb2
      rw [if_neg (by rw [hb2]; decide)]
      exact q_ret pI_cI ⟨rfl, rfl, h1, s2⟩
    rw [Bool.not_eq_false'] at hb2
    rw [if_pos hb2]
    obtain ⟨kn', hk, rfl⟩ := in_nN hcn hb2
    rw [nI_clamp (by omega)]
    obtain ⟨f, hf, hld, efk⟩ := ld_of 1000 hk
    refine q_I rfl pI_cI ?_
    rcases w_cases w 4 (by decide) with ⟨n, hn, rfl⟩ | ⟨hn, hne⟩
    · refine wS_swN (n := n) (pI_lI rfl) (by omega) ?_
      rcases (show n = 0 ∨ n = 1 ∨ n = 2 ∨ n = 3 by omega) with rfl | rfl | rfl | rfl
      · refine q_for 1000 (fun j L' M2 => L' = [some (.ref 69), some (.int (nI yn)), some (.int (nI kn')), some (.int (nI 0)), some (.int (nI (cn j fun c => decide (lbS (cdA (zab a) yn) c = some kn')))), some (.int (nI j))] ∧ M2 = M1) rfl (a := 0) rfl rfl (by decide) (by decide) ⟨rfl, rfl⟩ ?_ ?_ ?_
        · rintro j L' M2 ⟨rfl, -⟩
          rfl
        · rintro j L' M2 hj ⟨rfl, rfl⟩
          have h9 := pI_gI (t := 0) (L := [some (.ref 69), some (.int (nI yn)), some (.int (nI kn')), some (.int (nI 0)), some (.int (nI (cn j fun c => decide (lbS (cdA (zab a) yn) c = some kn')))), some (.int (nI j))]) (pA_fA (k := 22) (pA_lA (i := 0) rfl) p1 rfl) (pI_lI (i := 5) rfl) p2 (inb_nI hj (by decide))
          rw [nI_clamp (by omega), p4 j hj] at h9
          have hlt : ∀ k', lb j = some k' → k' < 1000 := fun k' q => by
            have := lb_lt k2 hj q
            omega
          refine l_I rfl (pI_add (pI_lI rfl) (pI_tI (b := decide (lbS (cdA (zab a) yn) j = some kn')) (pC_eq (pC_kI h9 (pI_lI rfl)) (by rw [lb_eqk hlt (by omega), lbS_eq k2 hj])) pI_cI pI_cI)) (Or.inr ⟨by decide, by decide, rfl, rfl, ?_, rfl⟩)
          rw [← cn_add]
          rfl
        · rintro L' M2 ⟨rfl, rfl⟩
          exact l_ret (pI_lI rfl) ⟨fun q => absurd q (by decide), fun _ => ⟨rfl, rfl, h1, s2⟩⟩
      · refine l_ret (pI_eq (pI_tI (pC_nz (pI_vV (pR_A (pA_lA rfl) (pR_I (pI_lI rfl) (pR_I (pI_lI rfl) pR_0))) p1 (sp_isLooseR h1 hO hy k2 k3 (by omega)))) pI_cI pI_cI) (bz_if _)) ⟨fun q => absurd q (by decide), fun _ => ⟨rfl, by rw [poW_1], h1, s2⟩⟩
      · have h9 := pI_gI (t := 0) (L := [some (.ref 69), some (.int (nI yn)), some (.int (nI kn')), some (.int (nI 2)), some (.int 0), none]) (pA_fA (k := 23) (pA_lA (i := 0) rfl) p1 rfl) (pI_lI (i := 2) rfl) p3 (inb_nI (show kn' < 1000 by omega) (by decide))
        rw [nI_clamp (by omega), ← efk, p5 f hld hf] at h9
        rw [efk] at h9
        refine l_ret h9 ⟨fun q => absurd q (by decide), fun _ => ⟨rfl, ?_, h1, s2⟩⟩
        have e := fsO_eq k2 hf hld
        rw [efk] at e
        show _ = some (Value.int (nI (fsO (cdA (zab a) yn) kn')))
        rw [e]
      · exact l_ret (pI_vV (pR_A (pA_lA rfl) (pR_I (pI_lI rfl) (pR_I (pI_lI rfl) pR_0))) p1 (sp_fallsR h1 hO hy k2 k3 hk)) ⟨fun q => absurd q (by decide), fun _ => ⟨rfl, rfl, h1, s2⟩⟩
    · refine wS_swD (pI_lI rfl) hn (l_ret pI_cI ⟨fun q => absurd q (by decide), fun _ => ⟨rfl, ?_, h1, s2⟩⟩)
      have e0 : ¬ w = 0 := hne 0 (by decide)
      have e1 : ¬ w = 1 := hne 1 (by decide)
      have e2 : ¬ w = 2 := hne 2 (by decide)
      have e3 : ¬ w = 3 := hne 3 (by decide)
      unfold poW
      rw [if_neg e0, if_neg e1, if_neg e2, if_neg e3]
