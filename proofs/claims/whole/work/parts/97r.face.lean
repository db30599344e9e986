/-! face, layer, less -/
def isT (t : Int32) : Bool := oGe t 0 && oLt t 24
theorem isT_in {t : Int32} (h : isT t = true) : 0 ≤ t.toInt ∧ t.toInt < 24 := by
  obtain ⟨n, hn, rfl⟩ := turn_nat h
  rw [nI_toInt (by omega)]
  omega
def faS (y z x w t : Int32) (a : AS) : Int32 × AS := if thV (zab a) y z x w = 0 then (if oEq (cdA (zab a) y.toNatClampNeg (cNat z x w)) 0 = true then (6, a) else if isT t = true then (0, zch y.toNatClampNeg (cNat z x w) (cdf (kd (cdA (zab a) y.toNatClampNeg (cNat z x w))) t) a) else (7, a)) else (thV (zab a) y z x w, a)
theorem ok2_face (L : Nat) (xs : Nat → Int32) (y z x w t : Int32) : OK2 (Inv2 L xs) F_X11_face F_X12_face [.int y, .int z, .int x, .int w, .int t] := by
  refine ok2_of (faS y z x w t) (fun a M hO hb h => ?_) (fun a M hO hb h => wF_b rfl (Nat.le_of_ble_eq_true rfl) (r_st h rfl fun M0 h0 s0 => ?_)) (fun a hO => ?_)
  · refine wF_b rfl (Nat.le_of_ble_eq_true rfl) (q_I rfl (pI_vV (pR_A (pA_lA rfl) (pR_I (pI_lI rfl) (pR_I (pI_lI rfl) (pR_I (pI_lI rfl) (pR_I (pI_lI rfl) pR_0))))) h.1.o5 (sp_there h.1 y z x w)) ?_)
    unfold faS
    by_cases e : thV (zab a) y z x w = 0
    · rw [if_pos e]
      refine q_if (v := false) (pC_eq (pC_kI (pI_lI rfl) pI_cI) (by rw [e]; rfl)) (fun q => (by cases q)) (fun _ => ?_)
      obtain ⟨yn, zn, xn, wn, hy, hz, hx, hw, rfl, rfl, rfl, rfl, hne, e1, e2, hne2⟩ := thV_yes e
      rw [e1, e2]
      have hc : 100 * zn + 10 * xn + wn < 1000 := by omega
      have hcv := hO.av.cd (y := yn) (by omega) hc
      have hk := kd_in hO.1 hcv hne2
      refine q_I rfl (pI_vS (pR_I (pI_lI rfl) (pR_I (pI_lI rfl) (pR_I (pI_lI rfl) pR_0))) (sp_cellOf _ _ _ _)) ?_
      refine q_I rfl (pI_vV (pR_A (pA_yard h.1.1 h.1.o5 hy rfl rfl) (pR_I (pI_lI rfl) pR_0)) (h.1.y hy) (sp_codeA h.1 hy hc)) ?_
      refine q_if (pC_kI (pI_lI rfl) pI_cI) (fun hb1 => ?_) (fun hb1 => ?_)
      · rw [if_pos hb1]
        exact q_ret pI_cI ⟨rfl, rfl, h, COn.rf⟩
      · rw [if_neg (by rw [hb1]; decide)]
        refine q_if (pC_not (pC_nz (pI_vS (pR_I (pI_lI rfl) pR_0) (sp_isTurn _ _)))) (fun hb2 => ?_) (fun hb2 => ?_)
        · rw [Bool.not_eq_true'] at hb2
          rw [if_neg (c := isT t = true) (by unfold isT; rw [hb2]; decide)]
          exact q_ret pI_cI ⟨rfl, rfl, h, COn.rf⟩
        · rw [Bool.not_eq_false'] at hb2
          rw [if_pos (c := isT t = true) hb2]
          have ht := isT_in (t := t) hb2
          refine q_exP (wV_Vw (pR_A (pA_yard h.1.1 h.1.o5 hy rfl rfl) (pR_I (pI_lI rfl) (pR_I (pI_vS (pR_I (pI_vS (pR_I (pI_lI rfl) pR_0) (sp_kindOf _ _)) (pR_I (pI_lI rfl) pR_0)) (sp_codeOf _ _ _)) pR_0))) (h.1.y hy)
            ((sp_changeC h hy hc (cdf_ok hO.1 hk.1 hk.2 ht.1 ht.2).2 (by omega)).mono ?_))
          rintro v M' ⟨rfl, g1, g2⟩
          exact ⟨_, rfl, l_ret pI_cI ⟨rfl, rfl, g1, g2.con (by omega)⟩⟩
    · rw [if_neg e]
      exact q_if (v := true) (pC_eq (pC_kI (pI_lI rfl) pI_cI) (decide_eq_true e)) (fun _ => q_ret (pI_lI rfl) ⟨rfl, rfl, h, COn.rf⟩) (fun q => (by cases q))
  · obtain ⟨th, pm, bm, h69⟩ := id h0.2.2
    unfold faS
    refine q_if (pC_not (pC_nz (pI_vS (pR_I (pI_lI rfl) pR_0) (sp_isYardR _ _)))) (fun hb => ?_) (fun hb => ?_)
    · rw [Bool.not_eq_true'] at hb
      have e : thV (zab a) y z x w = -1 := by unfold thV; rw [if_neg (by rw [hb]; decide)]
      rw [if_neg (by rw [e]; decide), e]
      exact q_ret pI_cI ⟨rfl, rfl, h0, s0⟩
    · rw [Bool.not_eq_false'] at hb
      have e : thV (zab a) y z x w = refuA (zab a) y.toNatClampNeg z x w := by unfold thV; rw [if_pos hb]
      have hgt := thV_ge (zab a) y z x w
      rw [e]
      have hy4 : y.toNatClampNeg < 4 ∧ y = nI y.toNatClampNeg := by
        obtain ⟨yn, hy, rfl⟩ := isY_nat hb
        rw [nI_clamp (by omega)]
        exact ⟨hy, rfl⟩
      have sthere := sp_thereR h0.1 h0.2.2 (y := y.toNatClampNeg) (by omega) z x w
      rw [← hy4.2] at sthere
      refine q_I rfl (pI_vV (pR_A (pA_lA rfl) (pR_I (pI_lI rfl) (pR_I (pI_lI rfl) (pR_I (pI_lI rfl) (pR_I (pI_lI rfl) pR_0))))) h69 sthere) ?_
      by_cases e0 : refuA (zab a) y.toNatClampNeg z x w = 0
      · rw [if_pos e0]
        refine q_if (v := false) (pC_eq (pC_kI (pI_lI rfl) pI_cI) (by rw [e0]; rfl)) (fun q => (by cases q)) (fun _ => ?_)
        obtain ⟨yn, zn, xn, wn, hy, hz, hx, hw, rfl, rfl, rfl, rfl, hne, e1, e2, hne2⟩ := thV_yes (e.trans e0)
        rw [e1, e2]
        have hcv := hO.av.cd (y := yn) (c := 100 * zn + 10 * xn + wn) (by omega) (by omega)
        have hk := kd_in hO.1 hcv hne2
        have hkn := hO.1
        obtain ⟨i, ck, ct, hi, p1, d1, d2, d3, d4, -⟩ := sp_cellA h0.1 h0.2.2 (y := yn) (by omega) hz hx hw hne
        have pt := pI_gI (t := 0) (L := (mkL 9 [.ref 69, .int (nI yn), .int (nI zn), .int (nI xn), .int (nI wn), .int t]).set 6 (some (.int (refuA (zab a) yn (nI zn) (nI xn) (nI wn))))) (pA_fA (k := 11) (pA_lA (i := 0) rfl) h69 rfl) (pI_vV (pR_A (pA_lA (i := 0) rfl) (pR_I (pI_lI (i := 1) rfl) (pR_I (pI_lI (i := 2) rfl) (pR_I (pI_lI (i := 3) rfl) (pR_I (pI_lI (i := 4) rfl) pR_0))))) h69 p1) d1 (inb_nI hi (by decide))
        rw [nI_clamp (by omega), d3] at pt
        rw [cdA_at _ hx hw] at hk hcv ⊢
        refine q_I rfl pt ?_
        have ek : oEq (kd (aat (zab a) (10 * yn + zn) xn wn)) 0 = oEq (aat (zab a) (10 * yn + zn) xn wn) 0 := by
          have := kR_0 hcv
          unfold kR at this
          rw [if_neg hne] at this
          exact this
        refine q_if (pC_eq (pC_kI (pI_lI rfl) pI_cI) ek) (fun hb1 => ?_) (fun hb1 => ?_)
        · rw [if_pos hb1]
          exact q_ret pI_cI ⟨rfl, rfl, h0, s0⟩
        · rw [if_neg (by rw [hb1]; decide)]
          refine q_if (pC_not (pC_nz (pI_vS (pR_I (pI_lI rfl) pR_0) (sp_isTurnR _ _)))) (fun hb2 => ?_) (fun hb2 => ?_)
          · rw [Bool.not_eq_true'] at hb2
            rw [if_neg (c := isT t = true) (by unfold isT; rw [hb2]; decide)]
            exact q_ret pI_cI ⟨rfl, rfl, h0, s0⟩
          · rw [Bool.not_eq_false'] at hb2
            rw [if_pos (c := isT t = true) hb2]
            have ht := isT_in (t := t) hb2
            refine q_Iw rfl (wI_vVw (pR_A (pA_lA rfl) (pR_I (pI_lI rfl) (pR_I (pI_lI rfl) (pR_I (pI_lI rfl) (pR_I (pI_lI rfl) (pR_I (pI_lI rfl) (pR_I (pI_lI rfl) pR_0))))))) h69 ((sp_changeR h0 hy hz hx hw hne hk.1 (by omega) ht.1 ht.2).mono ?_))
            rintro v M' ⟨rfl, g1, g2⟩
            exact ⟨_, rfl, l_ret pI_cI ⟨rfl, rfl, g1, s0.tr (g2.ron (by decide))⟩⟩
      · rw [if_neg e0]
        exact q_if (v := true) (pC_eq (pC_kI (pI_lI rfl) pI_cI) (hgt.trans (decide_eq_true e0))) (fun _ => q_ret (pI_lI rfl) ⟨rfl, rfl, h0, s0⟩) (fun q => (by cases q))
  · unfold faS
    split
    · rename_i e
      obtain ⟨yn, zn, xn, wn, hy, hz, hx, hw, rfl, rfl, rfl, rfl, hne, e1, e2, hne2⟩ := thV_yes e
      rw [e1, e2]
      have hc : 100 * zn + 10 * xn + wn < 1000 := by omega
      have hcv := hO.av.cd (y := yn) (by omega) hc
      have hk := kd_in hO.1 hcv hne2
      split
      · exact ⟨hO, Nat.le_add_right _ _⟩
      · split
        · rename_i hb2
          have ht := isT_in hb2
          exact ⟨hO.ch (by omega) hc (cdf_ok hO.1 hk.1 hk.2 ht.1 ht.2).1, Nat.le_trans (zch_le yn (100 * zn + 10 * xn + wn) _ a) (by omega)⟩
        · exact ⟨hO, Nat.le_add_right _ _⟩
    · exact ⟨hO, Nat.le_add_right _ _⟩
-- layer
theorem sp_addLayer {L : Nat} {xs : Nat → Int32} {a : AS} {M : Mm} {y z : Nat} (h : CSt L xs a M) (hy : y < 4) (hz : z < 10) (hB : znl a + znr a ≤ 300000) : wF F_X10_addLayer [.ref (17 + 2 * y), .int (nI z)] M fun v M' => v = none ∧ CSt L xs (zSet a (znl a + 1) (znr a) (aNew (10 * y + z) (zab a))) M' ∧ FrH y M M' := by
  have hBC : BC = 700000 := rfl
  have hk : 10 * y + z < 160 := by omega
  obtain ⟨s, hC, hA⟩ := h.1.rep
  have hY := h.1.y hy
  have m1 := h.1.2.2.2.2.2.2.1
  have m2 := h.1.2.2.2.2.2.2.2
  have h6 := hC.cl.2
  obtain ⟨fl, hF, hf⟩ := hC.1 y (by omega)
  rw [LA_y hy] at hF
  have hM97 : 97 ≤ M.1 := by omega
  have fresh : ∀ j m, j < 160 → nf s j = some m → m < M.1 := fun j m hj hm => by have := hC.lt hj hm; omega
  have hne : ∀ j, j < 160 → nf s j ≠ some M.1 := fun j hj q => absurd (fresh j _ hj q) (by omega)
  have h0 : hcnt s M.1 = 0 := hcnt_0' hne
  refine wF_b rfl (Nat.le_of_ble_eq_true rfl) (q_up (pA_fA (pA_lA rfl) hY rfl) pI_cI h6 rfl (Nat.le_of_ble_eq_true rfl) (q_ex (wV_V (wR_A (wA_p (pA_lA rfl) (wR_I (wI_p (pI_lI rfl) (wR_A (wA_newL fun M2 hN => wR_0 ?_)))))))))
  obtain ⟨n1, n2, n3, n4, n5⟩ := hN
  rw [set_1] at n1 n3 n4 n5
  rw [set_2] at n2
  have c3 : ∀ b, b < M.1 → b ≠ 6 → M2.2.2 b = M.2.2 b := fun b hb hb6 => (n5 b hb).trans (get_ne hb6)
  let g1 : Nat → Nat → Option Nat := fun m x => if m = M.1 then none else ng s m x
  let s1 : SN := (nf s, g1, nln s, ncd s)
  let s' : SN := (fun i => if i = 10 * y + z then some M.1 else nf s i, g1, nln s, ncd s)
  have hrc : rcF g1 (hcnt s) = rcF (ng s) (hcnt s) := rcF_free h0 fun m hm x => if_neg hm
  have co1 : COb M2 s1 (hcnt s) (rcF g1 (hcnt s)) (DLs s) (DRs s) := by
    rw [hrc]
    refine hC.cl.1.mv (by omega) (fun b h97 hb => c3 b hb (by omega)) (fun m hm => ⟨rfl, fun x _ => ?_⟩) (fun r _ => ⟨rfl, rfl, fun _ _ => rfl⟩)
    obtain ⟨j, hj, hm⟩ := hm
    exact if_neg fun q => hne j hj (by rw [hm, q])
  have co2 := co1.addL (l := M.1) ⟨hM97, by omega, by rw [h0]; exact n3, _, n4, fun x _ => (if_pos rfl).symm⟩ (fun x r _ hr => by
    have hr : (if M.1 = M.1 then none else ng s M.1 x) = some r := hr
    rw [if_pos rfl] at hr
    cases hr)
  have e6 : M2.2.2 6 = led (znl a + 1) (znr a) (lhF (hcnt s)) (rhF (rcF (ng s) (hcnt s))) := by
    rw [n5 6 (by omega), get_at, nI_1]; rfl
  have cl2 : CL M2 s1 (hcnt s) (fun m => DLs s m ∨ m = M.1) (DRs s) (znl a + 1) (znr a) := ⟨co2, by rw [e6, show rcF (ng s1) (hcnt s) = rcF (ng s) (hcnt s) from hrc]⟩
  have hY4 : M2.2.2 (17 + 2 * y) = .inr (9, [.ref 6, .ref (18 + 2 * y)]) := (c3 _ (by omega) (by omega)).trans hY
  have hA4 : M2.2.2 (18 + 2 * y) = aR 4 10 fl := (c3 _ (by omega) (by omega)).trans hF
  refine ⟨isR_of hY4, (sp_setLayer cl2 hY4 (by omega) (by omega) (by omega) (by omega) (by omega) (by omega) hA4 hz (some M.1) (fun m hm => Or.inr (Option.some.inj hm).symm) (fun m hm => ?_) (by omega) (fun m => by have := hcnt_le s m; omega)).mono ?_⟩
  · rw [hf z hz] at hm
    exact ⟨Or.inl ⟨_, hk, hm⟩, hcnt_pos hk hm⟩
  · rintro v M5 ⟨rfl, d1, d2, d3⟩
    have hO : ∀ b, b < 97 → b ≠ 6 → b ≠ LA y → M5.2.2 b = M.2.2 b := fun b h1 h2 h3 => (d3.2.2 b h1 h2 (by rw [LA_y hy] at h3; exact h3)).trans (c3 b (by omega) h2)
    have q1 : nf s' (10 * y + z) = some M.1 := if_pos rfl
    have q2 : ∀ j, j < 160 → j ≠ 10 * y + z → nf s' j = nf s j := fun j _ hj => if_neg hj
    have hcn : decO (incO (hcnt s) (some M.1)) (fl z) = hcnt s' := by rw [hf z hz]; exact (hcnt_put hk q1 q2).symm
    rw [hcn] at d1
    have hpl : SPl s s' (10 * y + z) (some M.1) := ⟨q1, q2, fun j m hj hn hm x _ => if_neg fun q => hne j hj (by rw [hm, q]), fun _ _ _ _ _ _ _ _ => ⟨rfl, rfl⟩⟩
    have hrep : CRep M5 s' (znl a + 1) (znr a) := by
      refine CRep.of (DL := fun m => DLs s m ∨ m = M.1) (DR := DRs s) d1 ?_ ?_ ?_
      · rw [← LA_y hy] at d2
        exact arr_put (by omega) hz hC.1 q1 q2 hf d2 hO
      · intro j m hj hm
        by_cases ej : j = 10 * y + z
        · right
          rw [ej, q1] at hm
          exact (Option.some.inj hm).symm
        · left
          rw [q2 j hj ej] at hm
          exact ⟨j, hj, hm⟩
      · rw [RowX_iff]
        have hrw : ∀ j x r, j < 160 → x < 10 → rwo s' j x = some r → rwo s j x = some r := fun j x r hj hx hr => by
          by_cases ej : j = 10 * y + z
          · rw [ej, rwo_some q1] at hr
            have hr : (if M.1 = M.1 then none else ng s M.1 x) = some r := hr
            rw [if_pos rfl] at hr
            cases hr
          · rw [← hpl.rj hj ej hx]; exact hr
        intro k k' x x' r hk' hk'' hx hx' h1 h2
        exact RowX_iff.mp hC.2.2.2 k k' x x' r hk' hk'' hx hx' (hrw k x r hk' hx h1) (hrw k' x' r hk'' hx' h2)
    exact ⟨rfl, wS_retV ⟨rfl, rfl, h.put (h := y) (by omega) hrep (Ag_new hA hk hpl (fun j hj _ => hne j hj) (fun x _ => if_pos rfl)) (by rw [d3.1, n1, m1]; omega) (by rw [d3.2.1, n2]; omega) hO, hO⟩⟩
def laS (y z : Int32) (a : AS) : Int32 × AS := if (isY y && isP z) = true then (1, zSet a (znl a + 1) (znr a) (aNew (10 * y.toNatClampNeg + z.toNatClampNeg) (zab a))) else (0, a)
theorem not_and_or (a b : Bool) : (!a || !b) = !(a && b) := by cases a <;> cases b <;> rfl
theorem isP_in9 (p : Int32) (M : Mm) : F_X12_in [.int p, .int 0, .int 9] M = some (some (.int (bz (isP p))), M) := by
  rw [← isP_in]
  exact sp_in p 0 9 M
theorem AV.new {kn k : Nat} {ab : AB} (h : AV kn ab) : AV kn (aNew k ab) := fun i y u hi hy hu => by
  show cOK kn (if i = k then -1 else aat ab i y u)
  split
  · exact Or.inl rfl
  · exact h i y u hi hy hu
theorem AV.del {kn k : Nat} {ab : AB} (h : AV kn ab) : AV kn (aDel k ab) := fun i y u hi hy hu => by
  show cOK kn (if i = k then -1 else aat ab i y u)
  split
  · exact Or.inl rfl
  · exact h i y u hi hy hu
theorem AV.cpy {kn q k : Nat} {ab : AB} (h : AV kn ab) (hq : q < 160) : AV kn (aCpy q k ab) := fun i y u hi hy hu => by
  show cOK kn (aat ab (if i = k then q else i) y u)
  split
  · exact h q y u hq hy hu
  · exact h i y u hi hy hu
theorem ok2_layer (L : Nat) (xs : Nat → Int32) (y z : Int32) : OK2 (Inv2 L xs) F_X11_layer F_X12_layer [.int y, .int z] := by
  refine ok2_of (laS y z) (fun a M hO hb h => ?_) (fun a M hO hb h => wF_b rfl (Nat.le_of_ble_eq_true rfl) (r_st h rfl fun M0 h0 s0 => ?_)) (fun a hO => ?_)
  · unfold laS
    refine wF_b rfl (Nat.le_of_ble_eq_true rfl) (q_if (pC_eq (pC_or (pC_not (pC_nz (pI_vS (pR_I (pI_lI rfl) pR_0) (sp_isYardC _ _)))) (pC_not (pC_nz (pI_vS (pR_I (pI_lI rfl) pR_0) (sp_isPlace _ _))))) (not_and_or _ _)) (fun hb1 => ?_) (fun hb1 => ?_))
    · rw [Bool.not_eq_true'] at hb1
      rw [if_neg (by rw [hb1]; decide)]
      exact q_retZ (v := false) pI_cI ⟨rfl, rfl, h, COn.rf⟩
    · rw [Bool.not_eq_false'] at hb1
      rw [if_pos hb1]
      obtain ⟨g1, g2⟩ := Bool.and_eq_true_iff.mp hb1
      obtain ⟨yn, hy, rfl⟩ := isY_nat g1
      obtain ⟨zn, hz, rfl⟩ := isP_nat g2
      rw [nI_clamp (by omega), nI_clamp (by omega)]
      refine q_ex (wV_Vw (pR_A (pA_yard h.1.1 h.1.o5 hy rfl rfl) (pR_I (pI_lI rfl) pR_0)) (h.1.y hy) ((sp_addLayer h hy hz (by omega)).mono ?_))
      rintro v M' ⟨rfl, d1, d2⟩
      exact ⟨rfl, l_retZ (v := true) pI_cI ⟨rfl, rfl, d1, d2.con (by omega)⟩⟩
  · unfold laS
    refine q_if (pC_eq (pC_or (pC_not (pC_nz (pI_vS (pR_I (pI_lI rfl) pR_0) (sp_isYardR _ _)))) (pC_not (pC_nz (pI_vS (pR_I (pI_lI rfl) (pR_I pI_cI (pR_I pI_cI pR_0))) (isP_in9 _ _))))) (not_and_or _ _)) (fun hb1 => ?_) (fun hb1 => ?_)
    · rw [Bool.not_eq_true'] at hb1
      rw [if_neg (by rw [hb1]; decide)]
      exact q_retZ (v := false) pI_cI ⟨rfl, rfl, h0, s0⟩
    · rw [Bool.not_eq_false'] at hb1
      rw [if_pos hb1]
      obtain ⟨g1, g2⟩ := Bool.and_eq_true_iff.mp hb1
      obtain ⟨yn, hy, rfl⟩ := isY_nat g1
      obtain ⟨zn, hz, rfl⟩ := isP_nat g2
      rw [nI_clamp (by omega), nI_clamp (by omega)]
      have hk : 10 * yn + zn < 160 := by omega
      obtain ⟨th, pm, bm, h69⟩ := id h0.2.2
      obtain ⟨s, hR, hA⟩ := h0.1.rep
      refine q_Iw rfl (wI_vVw (pR_A (pA_lA rfl) pR_0) h69 ((sp_newLayer h69 hR).mono ?_))
      rintro v M1 ⟨l, rfl, c1, c2, c3, c4, c5⟩
      refine ⟨_, rfl, ?_⟩
      have hne : ∀ j, j < 160 → nf s j ≠ some l := fun j hj q => by
        have := hcnt_pos hj q
        omega
      obtain ⟨hd, a1, a2⟩ := c3.1
      have hpl : SPl s (sPut (sLay s l fun _ => none) (10 * yn + zn) (some l)) (10 * yn + zn) (some l) := ⟨if_pos rfl, fun j _ hn => if_neg hn, fun j m hj _ hm x _ => if_neg fun q => hne j hj (by rw [hm, q]), fun _ _ _ _ _ _ _ _ => ⟨rfl, rfl⟩⟩
      have hbut : But [69, 75, 77, 78, 79, 80, 81, 82] M0 (setC M1 75 (aI 0 160 (upd hd (10 * yn + zn) (nI l)))) := (c5.mono (by decide)).set (by decide)
      refine q_pa (j := 10 * yn + zn) (pA_fA (k := 7) (pA_lA rfl) c4 rfl) (pI_eq (pI_add (pI_mul pI_cI (pI_lI rfl)) (pI_lI rfl)) (nI_mul10 _ _)) (pI_lI rfl) a1 (by decide) hk (by decide) (Or.inl rfl) (l_retZ (v := true) pI_cI ⟨rfl, rfl, h0.put (s' := sPut (sLay s l fun _ => none) (10 * yn + zn) (some l)) hbut (c3.pl hk (fun m hm => by cases hm; exact c1) (fun b _ h2 => get_ne h2) get_at (fun j hj => ?_) ?_) (Ag_new hA hk hpl (fun j hj _ => hne j hj) (fun x _ => if_pos rfl)) ((get_ne (by decide)).trans c4) ?_ ?_, s0.tr (hbut.ron (by decide))⟩)
      · unfold upd
        by_cases ej : j = 10 * yn + zn
        · rw [if_pos ej, if_pos ej]; rfl
        · rw [if_neg ej, if_neg ej]; exact (a2 j hj).1
      · rw [RowX_iff]
        have hrw : ∀ j x r, j < 160 → x < 10 → rwo (sPut (sLay s l fun _ => none) (10 * yn + zn) (some l)) j x = some r → rwo s j x = some r := fun j x r hj hx hr => by
          by_cases ej : j = 10 * yn + zn
          · rw [ej, rwo_some hpl.1] at hr
            have hr : (if l = l then none else ng s l x) = some r := hr
            rw [if_pos rfl] at hr
            cases hr
          · rw [← hpl.rj hj ej hx]; exact hr
        intro k k' x x' r hk' hk'' hx hx' h1 h2
        exact RowX_iff.mp hR.2.2.2.2 k k' x x' r hk' hk'' hx hx' (hrw k x r hk' hx h1) (hrw k' x' r hk'' hx' h2)
      · obtain ⟨f, hf⟩ := h0.2.1.2.1; exact ⟨f, (get_ne (by decide)).trans ((c5.2.2 _ (by decide)).trans hf)⟩
      · obtain ⟨f, hf⟩ := h0.2.1.2.2.1; exact ⟨f, (get_ne (by decide)).trans ((c5.2.2 _ (by decide)).trans hf)⟩
  · unfold laS
    split
    · exact ⟨hO.set hO.av.new, by show znl a + 1 + znr a ≤ _; omega⟩
    · exact ⟨hO, Nat.le_add_right _ _⟩
