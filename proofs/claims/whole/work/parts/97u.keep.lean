/-! keep, back, forget -/
def zKp (a : AS) (f : Nat → Int32) : AS := (zkn a, zK a, zbx a, f, zfe a, zfl a, znl a, znr a, zab a)
def isS (s : Int32) : Bool := oGe s 0 && oLt s 12
theorem isS_nat {p : Int32} (h : isS p = true) : ∃ n, n < 12 ∧ p = nI n := by
  simp only [isS, oGe, oLt, Bool.and_eq_true, decide_eq_true_eq, Int32.le_iff_toInt_le, Int32.lt_iff_toInt_lt] at h
  have h1 : 0 ≤ p.toInt := h.1
  have h2 : p.toInt < 12 := h.2
  exact ⟨p.toInt.toNat, by omega, nI_tn h1⟩
theorem sp_isSlotC (p : Int32) (M : Mm) : F_X11_isSlot [.int p] M = some (some (.int (bz (isS p))), M) :=
  wF_eq (wF_b rfl (Nat.le_of_ble_eq_true rfl) (l_retZ (pI_zI (pC_and (pC_kI (pI_lI rfl) pI_cI) (pC_kI (pI_lI rfl) pI_cI))) ⟨rfl, rfl, rfl⟩))
theorem sp_isSlotR (p : Int32) (M : Mm) : F_X12_isSlot [.int p] M = some (some (.int (bz (isS p))), M) := by
  have e : isIn p 0 11 = isS p := by
    unfold isIn isS oGe oLt
    congr 1
    rw [decide_eq_decide, Int32.le_iff_toInt_le, Int32.lt_iff_toInt_lt]
    show p.toInt ≤ 11 ↔ p.toInt < 12
    omega
  rw [← e]
  exact wF_eq (wF_b rfl (Nat.le_of_ble_eq_true rfl) (l_retZ (pI_vS (pR_I (pI_lI rfl) (pR_I pI_cI (pR_I pI_cI pR_0))) (sp_in _ _ _ _)) ⟨rfl, rfl, rfl⟩))
theorem pA_slot {L : Nat} {xs : Nat → Int32} {Lc : Lv} {M : Mm} {fe s i : Nat} (hG : GFx L xs M) (h5 : M.2.2 5 = .inr (10, fsCv fe)) (hs : s < 12) (h0 : lkp Lc 0 = some (.ref 5)) (hi : lkp Lc i = some (.int (nI s))) : pA (gA 3 (fA 10 4 (lA 0)) (lI i)) Lc M (some (YA (4 + s))) := by
  have h9 := pA_gA (pA_fA (k := 4) (pA_lA h0) h5 rfl) (pI_lI hi) hG.2.2.2.2.1 (inb_nI hs (by decide))
  rw [nI_clamp (by omega), if_pos hs] at h9
  have e : YA (4 + s) = 26 + 2 * s := by unfold YA; rw [if_neg (by omega)]; omega
  rw [e]
  exact h9
theorem CSt.kp {L : Nat} {xs : Nat → Int32} {a : AS} {M : Mm} {f : Nat → Int32} (h : CSt L xs a M) : CSt L xs (zKp a f) (setC M 50 (aI 1 12 f)) := by
  obtain ⟨⟨a1, ⟨k0, k1, k2, k3, k4, k5⟩, ⟨b0, b1⟩, c, ⟨d0, d1, d2⟩, ⟨sc, e1, e2⟩, g1, g2⟩, ⟨v1, q1⟩, ⟨v2, q2⟩, ⟨v3, q3⟩, ⟨v4, q4⟩, q5, ⟨f6, q6⟩⟩ := h
  refine ⟨⟨a1.fr (sm_set rfl), ⟨(get_ne (by decide)).trans k0, (get_ne (by decide)).trans k1, (get_ne (by decide)).trans k2, (get_ne (by decide)).trans k3, (get_ne (by decide)).trans k4, (get_ne (by decide)).trans k5⟩, ⟨(get_ne (by decide)).trans b0, (get_ne (by decide)).trans b1⟩, get_at, ⟨(get_ne (by decide)).trans d0, (get_ne (by decide)).trans d1, (get_ne (by decide)).trans d2⟩, ⟨sc, CRep.fr (M := M) (Nat.le_refl M.1) (sm_set rfl) e1, e2⟩, g1, g2⟩,
    ⟨v1, (get_ne (by decide)).trans q1⟩, ⟨v2, (get_ne (by decide)).trans q2⟩, ⟨v3, (get_ne (by decide)).trans q3⟩, ⟨v4, (get_ne (by decide)).trans q4⟩, fun b hb => ?_, ⟨f6, (get_ne (by decide)).trans q6⟩⟩
  obtain ⟨g, hg⟩ := q5 b hb
  have all : ∀ b ∈ [52, 53, 55, 56, 58, 59, 61, 63, 65, 66], b ≠ 50 := by decide
  exact ⟨g, (get_ne (all b hb)).trans hg⟩
theorem RSt.kp {L : Nat} {xs : Nat → Int32} {a : AS} {M : Mm} {f : Nat → Int32} (h : RSt L xs a M) : RSt L xs (zKp a f) (setC M 76 (aI 1 12 f)) := by
  obtain ⟨⟨a1, ⟨k0, k1, k2, k3, k4⟩, ⟨b0, b1⟩, c, ⟨d1, d2⟩, ⟨sr, e1, e2⟩⟩, ⟨h2, ⟨f3, h3⟩, ⟨f4, h4⟩, ⟨f5, h5⟩⟩, ⟨th, pm, bm, h6⟩⟩ := h
  refine ⟨⟨fun b hb => (get_ne (by omega)).trans (a1 b hb), ⟨(get_ne (by decide)).trans k0, (get_ne (by decide)).trans k1, (get_ne (by decide)).trans k2, (get_ne (by decide)).trans k3, (get_ne (by decide)).trans k4⟩, ⟨(get_ne (by decide)).trans b0, (get_ne (by decide)).trans b1⟩, get_at, ⟨(get_ne (by decide)).trans d1, (get_ne (by decide)).trans d2⟩, ⟨sr, RRep.fr (M := M) (sm_set rfl) e1, e2⟩⟩, ⟨fun b hb => ?_, ⟨f3, (get_ne (by decide)).trans h3⟩, ⟨f4, (get_ne (by decide)).trans h4⟩, ⟨f5, (get_ne (by decide)).trans h5⟩⟩, ⟨th, pm, bm, (get_ne (by decide)).trans h6⟩⟩
  obtain ⟨g, hg⟩ := h2 b hb
  have all : ∀ b ∈ [85, 86, 88, 89, 90, 93, 94, 95], b ≠ 76 := by decide
  exact ⟨g, (get_ne (all b hb)).trans hg⟩
theorem OkA.kp {a : AS} {f : Nat → Int32} (h : OkA a) (hf : ∀ i, i < 12 → f i = 0 ∨ f i = 1) : OkA (zKp a f) := ⟨h.1, h.2.1, h.2.2.1, hf, h.2.2.2.2.1, h.2.2.2.2.2⟩
theorem upd01 {f : Nat → Int32} {k : Nat} {v : Int32} (h : ∀ i, i < 12 → f i = 0 ∨ f i = 1) (hv : v = 0 ∨ v = 1) : ∀ i, i < 12 → upd f k v i = 0 ∨ upd f k v i = 1 := fun i hi => by
  unfold upd
  split
  · exact hv
  · exact h i hi
def keS (s y : Int32) (a : AS) : Int32 × AS := if (isS s && isY y) = true then (1, zKp (zSet a (znl a) (znr a) (aCps y.toNatClampNeg (4 + s.toNatClampNeg) (zab a) 10)) (upd (zkp a) s.toNatClampNeg 1)) else (0, a)
def baS (s y : Int32) (a : AS) : Int32 × AS := if ((isS s && isY y) && oNe (zkp a s.toNatClampNeg) 0) = true then (1, zSet a (znl a) (znr a) (aCps (4 + s.toNatClampNeg) y.toNatClampNeg (zab a) 10)) else (0, a)
def foS (s : Int32) (a : AS) : Int32 × AS := if (isS s && oNe (zkp a s.toNatClampNeg) 0) = true then (1, zKp (zSet a (znl a) (znr a) (aDls (4 + s.toNatClampNeg) (zab a) 10)) (upd (zkp a) s.toNatClampNeg 0)) else (0, a)
theorem ok2_keep (L : Nat) (xs : Nat → Int32) (s y : Int32) : OK2 (Inv2 L xs) F_X11_keep F_X12_keep [.int s, .int y] := by
  refine ok2_of (keS s y) (fun a M hO hb h => ?_) (fun a M hO hb h => wF_b rfl (Nat.le_of_ble_eq_true rfl) (r_st h rfl fun M0 h0 s0 => ?_)) (fun a hO => ?_)
  · unfold keS
    refine wF_b rfl (Nat.le_of_ble_eq_true rfl) (q_if (pC_eq (pC_or (pC_not (pC_nz (pI_vS (pR_I (pI_lI rfl) pR_0) (sp_isSlotC _ _)))) (pC_not (pC_nz (pI_vS (pR_I (pI_lI rfl) pR_0) (sp_isYardC _ _))))) (not_or_n _ _)) (fun hb1 => ?_) (fun hb1 => ?_))
    · rw [Bool.not_eq_true'] at hb1
      rw [if_neg (by rw [hb1]; decide)]
      exact q_retZ (v := false) pI_cI ⟨rfl, rfl, h, COn.rf⟩
    · rw [Bool.not_eq_false'] at hb1
      rw [if_pos hb1]
      obtain ⟨g1, g2⟩ := Bool.and_eq_true_iff.mp hb1
      obtain ⟨sn, hs, rfl⟩ := isS_nat g1
      obtain ⟨yn, hy, rfl⟩ := isY_nat g2
      rw [nI_clamp (by omega), nI_clamp (by omega)]
      have ht := sp_take h (h := 4 + sn) (q := yn) (by omega) (by omega) (by omega)
      rw [YA_y hy] at ht
      refine q_ex (wV_Vw (pR_A (pA_slot h.1.1 h.1.o5 hs rfl rfl) (pR_A (pA_yard h.1.1 h.1.o5 hy rfl rfl) pR_0)) (h.1.1.ya (by omega)) (ht.mono ?_))
      rintro v M' ⟨rfl, d1, d2⟩
      exact ⟨rfl, q_pa (j := sn) (pA_fA (k := 5) (pA_lA rfl) d1.1.o5 rfl) (pI_lI rfl) pI_cI d1.1.2.2.2.1 (by decide) hs (by decide) (Or.inr ⟨rfl, Or.inr rfl⟩) (l_retZ (v := true) pI_cI ⟨rfl, rfl, d1.kp, (d2.con (by omega)).tr fun b hb => get_ne (by omega)⟩)⟩
  · unfold keS
    obtain ⟨th, pm, bm, h69⟩ := id h0.2.2
    refine q_if (pC_eq (pC_or (pC_not (pC_nz (pI_vS (pR_I (pI_lI rfl) pR_0) (sp_isSlotR _ _)))) (pC_not (pC_nz (pI_vS (pR_I (pI_lI rfl) pR_0) (sp_isYardR _ _))))) (not_or_n _ _)) (fun hb1 => ?_) (fun hb1 => ?_)
    · rw [Bool.not_eq_true'] at hb1
      rw [if_neg (by rw [hb1]; decide)]
      exact q_retZ (v := false) pI_cI ⟨rfl, rfl, h0, s0⟩
    · rw [Bool.not_eq_false'] at hb1
      rw [if_pos hb1]
      obtain ⟨g1, g2⟩ := Bool.and_eq_true_iff.mp hb1
      obtain ⟨sn, hs, rfl⟩ := isS_nat g1
      obtain ⟨yn, hy, rfl⟩ := isY_nat g2
      rw [nI_clamp (by omega), nI_clamp (by omega)]
      have e4 : (4 : Int32) + nI sn = nI (4 + sn) := nI_add 4 sn
      refine q_ex (wV_Vw (pR_A (pA_lA rfl) (pR_I (pI_lI rfl) (pR_I (pI_eq (pI_add pI_cI (pI_lI rfl)) e4) pR_0))) h69 ((sp_copy h0 (h := 4 + sn) (q := yn) (by omega) (by omega)).mono ?_))
      rintro v M' ⟨rfl, d1, d2⟩
      obtain ⟨th', pm', bm', h69'⟩ := id d1.2.2
      exact ⟨rfl, q_pa (j := sn) (pA_fA (k := 8) (pA_lA rfl) h69' rfl) (pI_lI rfl) pI_cI d1.1.2.2.2.1 (by decide) hs (by decide) (Or.inr ⟨rfl, Or.inr rfl⟩) (l_retZ (v := true) pI_cI ⟨rfl, rfl, d1.kp, s0.tr ((d2.ron (by decide)).tr (ron_set (by decide) (by decide)))⟩)⟩
  · unfold keS
    split
    · rename_i hb1
      obtain ⟨g1, g2⟩ := Bool.and_eq_true_iff.mp hb1
      obtain ⟨yn, hy, rfl⟩ := isY_nat g2
      rw [nI_clamp (by omega)]
      exact ⟨(hO.set (hO.av.cps (by omega) (Nat.le_refl _))).kp (upd01 hO.2.2.2.1 (Or.inr rfl)), by show znl a + znr a ≤ _; omega⟩
    · exact ⟨hO, Nat.le_add_right _ _⟩
theorem ok2_back (L : Nat) (xs : Nat → Int32) (s y : Int32) : OK2 (Inv2 L xs) F_X11_back F_X12_back [.int s, .int y] := by
  refine ok2_of (baS s y) (fun a M hO hb h => ?_) (fun a M hO hb h => wF_b rfl (Nat.le_of_ble_eq_true rfl) (r_st h rfl fun M0 h0 s0 => ?_)) (fun a hO => ?_)
  · unfold baS
    refine wF_b rfl (Nat.le_of_ble_eq_true rfl) (q_if (pC_eq (pC_orD (y := !(oNe (zkp a s.toNatClampNeg) 0)) (pC_eq (pC_or (pC_not (pC_nz (pI_vS (pR_I (pI_lI rfl) pR_0) (sp_isSlotC _ _)))) (pC_not (pC_nz (pI_vS (pR_I (pI_lI rfl) pR_0) (sp_isYardC _ _))))) (not_or_n _ _)) fun hb1 => ?_) (not_or_n _ _)) (fun hb1 => ?_) (fun hb1 => ?_))
    · rw [Bool.not_eq_false'] at hb1
      obtain ⟨sn, hs, rfl⟩ := isS_nat (Bool.and_eq_true_iff.mp hb1).1
      have h9 := pI_gI (t := 1) (L := mkL 3 [.ref 5, .int (nI sn), .int y]) (pA_fA (k := 5) (pA_lA (i := 0) rfl) h.1.o5 rfl) (pI_lI (i := 1) rfl) h.1.2.2.2.1 (inb_nI hs (by decide))
      exact pC_not (pC_kI h9 pI_cI)
    · rw [Bool.not_eq_true'] at hb1
      rw [if_neg (by rw [hb1]; decide)]
      exact q_retZ (v := false) pI_cI ⟨rfl, rfl, h, COn.rf⟩
    · rw [Bool.not_eq_false'] at hb1
      rw [if_pos hb1]
      obtain ⟨g0, g3⟩ := Bool.and_eq_true_iff.mp hb1
      obtain ⟨g1, g2⟩ := Bool.and_eq_true_iff.mp g0
      obtain ⟨sn, hs, rfl⟩ := isS_nat g1
      obtain ⟨yn, hy, rfl⟩ := isY_nat g2
      rw [nI_clamp (by omega), nI_clamp (by omega)]
      have ht := sp_take h (h := yn) (q := 4 + sn) (by omega) (by omega) (by omega)
      rw [YA_y hy] at ht
      refine q_ex (wV_Vw (pR_A (pA_yard h.1.1 h.1.o5 hy rfl rfl) (pR_A (pA_slot h.1.1 h.1.o5 hs rfl rfl) pR_0)) (h.1.y hy) (ht.mono ?_))
      rintro v M' ⟨rfl, d1, d2⟩
      exact ⟨rfl, l_retZ (v := true) pI_cI ⟨rfl, rfl, d1, d2.con (by omega)⟩⟩
  · unfold baS
    obtain ⟨th, pm, bm, h69⟩ := id h0.2.2
    refine q_if (pC_eq (pC_orD (y := !(oNe (zkp a s.toNatClampNeg) 0)) (pC_eq (pC_or (pC_not (pC_nz (pI_vS (pR_I (pI_lI rfl) pR_0) (sp_isSlotR _ _)))) (pC_not (pC_nz (pI_vS (pR_I (pI_lI rfl) pR_0) (sp_isYardR _ _))))) (not_or_n _ _)) fun hb1 => ?_) (not_or_n _ _)) (fun hb1 => ?_) (fun hb1 => ?_)
    · rw [Bool.not_eq_false'] at hb1
      obtain ⟨sn, hs, rfl⟩ := isS_nat (Bool.and_eq_true_iff.mp hb1).1
      have h9 := pI_gI (t := 1) (L := mkL 3 [.ref 69, .int (nI sn), .int y]) (pA_fA (k := 8) (pA_lA (i := 0) rfl) h69 rfl) (pI_lI (i := 1) rfl) h0.1.2.2.2.1 (inb_nI hs (by decide))
      exact pC_not (pC_kI h9 pI_cI)
    · rw [Bool.not_eq_true'] at hb1
      rw [if_neg (by rw [hb1]; decide)]
      exact q_retZ (v := false) pI_cI ⟨rfl, rfl, h0, s0⟩
    · rw [Bool.not_eq_false'] at hb1
      rw [if_pos hb1]
      obtain ⟨g0, g3⟩ := Bool.and_eq_true_iff.mp hb1
      obtain ⟨g1, g2⟩ := Bool.and_eq_true_iff.mp g0
      obtain ⟨sn, hs, rfl⟩ := isS_nat g1
      obtain ⟨yn, hy, rfl⟩ := isY_nat g2
      rw [nI_clamp (by omega), nI_clamp (by omega)]
      have e4 : (4 : Int32) + nI sn = nI (4 + sn) := nI_add 4 sn
      refine q_ex (wV_Vw (pR_A (pA_lA rfl) (pR_I (pI_eq (pI_add pI_cI (pI_lI rfl)) e4) (pR_I (pI_lI rfl) pR_0))) h69 ((sp_copy h0 (h := yn) (q := 4 + sn) (by omega) (by omega)).mono ?_))
      rintro v M' ⟨rfl, d1, d2⟩
      exact ⟨rfl, l_retZ (v := true) pI_cI ⟨rfl, rfl, d1, s0.tr (d2.ron (by decide))⟩⟩
  · unfold baS
    split
    · rename_i hb1
      obtain ⟨g0, g3⟩ := Bool.and_eq_true_iff.mp hb1
      obtain ⟨g1, g2⟩ := Bool.and_eq_true_iff.mp g0
      obtain ⟨sn, hs, rfl⟩ := isS_nat g1
      rw [nI_clamp (by omega)]
      exact ⟨hO.set (hO.av.cps (by omega) (Nat.le_refl _)), by show znl a + znr a ≤ _; omega⟩
    · exact ⟨hO, Nat.le_add_right _ _⟩
theorem ok2_forget (L : Nat) (xs : Nat → Int32) (s : Int32) : OK2 (Inv2 L xs) F_X11_forget F_X12_forget [.int s] := by
  refine ok2_of (foS s) (fun a M hO hb h => ?_) (fun a M hO hb h => wF_b rfl (Nat.le_of_ble_eq_true rfl) (r_st h rfl fun M0 h0 s0 => ?_)) (fun a hO => ?_)
  · unfold foS
    refine wF_b rfl (Nat.le_of_ble_eq_true rfl) (q_if (pC_eq (pC_orD (y := !(oNe (zkp a s.toNatClampNeg) 0)) (pC_not (pC_nz (pI_vS (pR_I (pI_lI rfl) pR_0) (sp_isSlotC _ _)))) fun hb1 => ?_) (not_or_n _ _)) (fun hb1 => ?_) (fun hb1 => ?_))
    · rw [Bool.not_eq_false'] at hb1
      obtain ⟨sn, hs, rfl⟩ := isS_nat hb1
      have h9 := pI_gI (t := 1) (L := mkL 2 [.ref 5, .int (nI sn)]) (pA_fA (k := 5) (pA_lA (i := 0) rfl) h.1.o5 rfl) (pI_lI (i := 1) rfl) h.1.2.2.2.1 (inb_nI hs (by decide))
      exact pC_not (pC_kI h9 pI_cI)
    · rw [Bool.not_eq_true'] at hb1
      rw [if_neg (by rw [hb1]; decide)]
      exact q_retZ (v := false) pI_cI ⟨rfl, rfl, h, COn.rf⟩
    · rw [Bool.not_eq_false'] at hb1
      rw [if_pos hb1]
      obtain ⟨g1, g3⟩ := Bool.and_eq_true_iff.mp hb1
      obtain ⟨sn, hs, rfl⟩ := isS_nat g1
      rw [nI_clamp (by omega)]
      refine q_ex (wV_Vw (pR_A (pA_slot h.1.1 h.1.o5 hs rfl rfl) pR_0) (h.1.1.ya (by omega)) ((sp_clear h (h := 4 + sn) (by omega) (by omega)).mono ?_))
      rintro v M' ⟨rfl, d1, d2⟩
      exact ⟨rfl, q_pa (j := sn) (pA_fA (k := 5) (pA_lA rfl) d1.1.o5 rfl) (pI_lI rfl) pI_cI d1.1.2.2.2.1 (by decide) hs (by decide) (Or.inr ⟨rfl, Or.inl rfl⟩) (l_retZ (v := true) pI_cI ⟨rfl, rfl, d1.kp, (d2.con (by omega)).tr fun b hb => get_ne (by omega)⟩)⟩
  · unfold foS
    obtain ⟨th, pm, bm, h69⟩ := id h0.2.2
    refine q_if (pC_eq (pC_orD (y := !(oNe (zkp a s.toNatClampNeg) 0)) (pC_not (pC_nz (pI_vS (pR_I (pI_lI rfl) pR_0) (sp_isSlotR _ _)))) fun hb1 => ?_) (not_or_n _ _)) (fun hb1 => ?_) (fun hb1 => ?_)
    · rw [Bool.not_eq_false'] at hb1
      obtain ⟨sn, hs, rfl⟩ := isS_nat hb1
      have h9 := pI_gI (t := 1) (L := mkL 3 [.ref 69, .int (nI sn)]) (pA_fA (k := 8) (pA_lA (i := 0) rfl) h69 rfl) (pI_lI (i := 1) rfl) h0.1.2.2.2.1 (inb_nI hs (by decide))
      exact pC_not (pC_kI h9 pI_cI)
    · rw [Bool.not_eq_true'] at hb1
      rw [if_neg (by rw [hb1]; decide)]
      exact q_retZ (v := false) pI_cI ⟨rfl, rfl, h0, s0⟩
    · rw [Bool.not_eq_false'] at hb1
      rw [if_pos hb1]
      obtain ⟨g1, g3⟩ := Bool.and_eq_true_iff.mp hb1
      obtain ⟨sn, hs, rfl⟩ := isS_nat g1
      rw [nI_clamp (by omega)]
      have e4 : (4 : Int32) + nI sn = nI (4 + sn) := nI_add 4 sn
      refine q_pa (j := sn) (pA_fA (k := 8) (pA_lA rfl) h69 rfl) (pI_lI rfl) pI_cI h0.1.2.2.2.1 (by decide) hs (by decide) (Or.inr ⟨rfl, Or.inl rfl⟩) ?_
      have h1 : RSt L xs (zKp a (upd (zkp a) sn 0)) (setC M0 76 (aI 1 12 (upd (zkp a) sn 0))) := h0.kp
      refine q_for 10 (fun j L' M1 => L' = [some (.ref 69), some (.int (nI sn)), some (.int (nI j))] ∧ RSt L xs (zSet (zKp a (upd (zkp a) sn 0)) (znl a) (znr a) (aDls (4 + sn) (zab a) j)) M1 ∧ But [75] (setC M0 76 (aI 1 12 (upd (zkp a) sn 0))) M1) rfl (a := 0) rfl rfl (by decide) (by decide) ⟨rfl, h1, But.rf⟩ ?_ ?_ ?_
      · rintro j L' M1 ⟨rfl, -⟩
        rfl
      · rintro j L' M1 hj ⟨rfl, c1, c2⟩
        obtain ⟨th', pm', bm', h69'⟩ := id c1.2.2
        obtain ⟨sr, hR, hA⟩ := c1.1.rep
        obtain ⟨hd, a1, a2⟩ := hR.1
        obtain ⟨q1, q2⟩ := c1.pl (o := none) (k := 10 * (4 + sn) + j) hR (by omega) (Or.inl rfl) a1 (Ag_del hA (by omega) SPl.put)
        exact l_pa (j := 10 * (4 + sn) + j) (pA_fA (k := 7) (pA_lA rfl) h69' rfl) (pI_eq (pI_add (pI_mul pI_cI (pI_eq (pI_add pI_cI (pI_lI rfl)) e4)) (pI_lI rfl)) (nI_mul10 _ _)) pI_cI a1 (by decide) (by omega) (by decide) (Or.inl rfl) (Or.inr ⟨by decide, by decide, rfl, rfl, rfl, q1, c2.set (by decide)⟩)
      · rintro L' M1 ⟨rfl, c1, c2⟩
        exact l_retZ (v := true) pI_cI ⟨rfl, rfl, c1, s0.tr ((ron_set (by decide) (by decide)).tr (c2.ron (by decide)))⟩
  · unfold foS
    split
    · exact ⟨(hO.set hO.av.dls).kp (upd01 hO.2.2.2.1 (Or.inl rfl)), by show znl a + znr a ≤ _; omega⟩
    · exact ⟨hO, Nat.le_add_right _ _⟩
