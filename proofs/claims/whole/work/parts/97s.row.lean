/-! row, less -/
def rowC (n : Nat) : Nat → Int32 := fun u => if u < n then 0 else -1
def zrow (k x n : Nat) (a : AS) : AS := zSet a (znl a + b2n (shL (zab a) k)) (znr a + 1) (aSet k x (rowC n) (zab a))
theorem sp_addRow {L : Nat} {xs : Nat → Int32} {a : AS} {M : Mm} {y z x n : Nat} (h : CSt L xs a M) (hy : y < 4) (hz : z < 10) (hx : x < 10) (hn : n ≤ 10) (hly : aly (zab a) (10 * y + z) = true) (hB : znl a + znr a ≤ 300000) : wF F_X10_addRow [.ref (17 + 2 * y), .int (nI z), .int (nI x), .int (nI n)] M fun v M' => v = none ∧ CSt L xs (zrow (10 * y + z) x n a) M' ∧ FrH y M M' := by
  have hBC : BC = 700000 := rfl
  have hk : 10 * y + z < 160 := by omega
  obtain ⟨s, hC, hA⟩ := h.1.rep
  have hY := h.1.y hy
  have m1 := h.1.2.2.2.2.2.2.1
  have m2 := h.1.2.2.2.2.2.2.2
  obtain ⟨l, hl⟩ : ∃ l, nf s (10 * y + z) = some l := Option.isSome_iff_exists.mp ((hA _ hk).1.symm.trans hly)
  have e1 : (if 2 ≤ hcnt s l then 1 else 0) = b2n (shL (zab a) (10 * y + z)) := by
    by_cases q : shL (zab a) (10 * y + z) = true
    · rw [b2n, if_pos q, if_pos (by rw [shL_cn hA hk hl]; exact q)]
    · rw [b2n, if_neg q, if_neg (by rw [shL_cn hA hk hl]; exact q)]
  have hbn1 : b2n (shL (zab a) (10 * y + z)) ≤ 1 := by unfold b2n; split <;> omega
  refine wF_b rfl (Nat.le_of_ble_eq_true rfl) (q_Aw rfl (wA_vVw (pR_A (pA_lA rfl) (pR_I (pI_lI rfl) pR_0)) hY ((sp_ownLayer h.1.1 hC hy hz hl (by omega)).mono ?_)))
  rintro v M1 ⟨l', s1, rfl, c1, c2, c3, c4, c5⟩
  rw [e1] at c1 c3 c4
  refine ⟨_, some l', rfl, rfl, ?_⟩
  have hl1 : nf s1 (10 * y + z) = some l' := c2.1
  have hf1 : ∀ j, j < 160 → j ≠ 10 * y + z → nf s1 j ≠ some l' := fun j hj hne => by rw [(c2.2.1 j hj hne).1]; exact (c2.2.1 j hj hne).2
  have hge : oGe (nI n) 0 = true := by rw [show oGe (nI n) 0 = decide (0 ≤ n) from oGe_nI (b := 0) (by omega) (by decide)]; exact decide_eq_true (Nat.zero_le n)
  refine q_if (v := true) (pC_eq (pC_and (pC_notN (pA_lA (a := l') rfl)) (pC_kI (pI_lI rfl) pI_cI)) (by rw [hge]; rfl)) (fun _ => ?_) (fun q => (by cases q))
  have hY1 : M1.2.2 (17 + 2 * y) = .inr (9, [.ref 6, .ref (18 + 2 * y)]) := (c5 _ (by omega) (by omega) (by omega)).trans hY
  have h61 := c1.cl.2
  refine q_assoc (q_up (pA_fA (pA_lA rfl) hY1 rfl) pI_cI h61 rfl (Nat.le_of_ble_eq_true rfl) ?_)
  have hlt := c1.lt hk hl1
  have hY2 : ∀ c, (setC M1 6 c).2.2 (17 + 2 * y) = .inr (9, [.ref 6, .ref (18 + 2 * y)]) := fun c => (get_ne (by omega)).trans hY1
  refine q_ex (wV_V (wR_A (wA_p (pA_lA rfl) (wR_I (wI_p (pI_lI rfl) (wR_A (wA_newR (n := n) (f := fun _ => 0) ?_ fun M2 hN => wR_A (wA_p (pA_fA (pA_lA rfl) ((hN.2.2.2.2 _ (by rw [set_1]; omega)).trans (hY2 _)) rfl) (wR_0 ?_)))))))))
  · obtain ⟨o, M3, h1, h2, h3⟩ := wA_newI (t := 0) (e := lI 3) (L := (mkL 5 [.ref (17 + 2 * y), .int (nI z), .int (nI x), .int (nI n)]).set 4 (some (va_rf (some l')))) (M := newC (setC M1 6 (.inr (5, ([.int (nI (znl a + b2n (shL (zab a) (10 * y + z)))), .int (nI (znr a)), .int (nI (lhF (hcnt s1))), .int (nI (rhF (rcF (ng s1) (hcnt s1))))] : List Value).set 1 (.int (nI (znr a) + 1))))) 2 (.inr (7, D_X7)))
      (Q := fun o M3 => o = some (M1.1 + 1) ∧ M3 = newC (newC (setC M1 6 (.inr (5, ([.int (nI (znl a + b2n (shL (zab a) (10 * y + z)))), .int (nI (znr a)), .int (nI (lhF (hcnt s1))), .int (nI (rhF (rcF (ng s1) (hcnt s1))))] : List Value).set 1 (.int (nI (znr a) + 1))))) 2 (.inr (7, D_X7))) n (aI 0 n fun _ => 0)) (wI_p (pI_lI rfl) ⟨by rw [nI_toInt (by omega)]; omega, rfl, by rw [nI_clamp (by omega)]⟩)
    rw [h1, h2, h3]
    rfl
  · obtain ⟨n1, n2, n3, n4, n5⟩ := hN
    rw [set_1] at n1 n3 n4 n5
    rw [set_2] at n2
    have hlc := c1.cl.1.1 l' ⟨_, hk, hl1⟩
    refine ⟨isR_of ((n5 l' (by omega)).trans ((get_ne (by omega)).trans hlc.1.2.2.1)), (newRow_put c1 hk hx hl1 hf1 hn (fun w _ => ⟨by decide, by decide⟩) ⟨n1, n2, n3, n4, fun b hb hb6 => (n5 b hb).trans (get_ne hb6)⟩ (by rw [n5 6 (by omega), get_at, nI_1]; rfl) (by omega)).mono ?_⟩
    rintro v M3 ⟨rfl, d1, d2, d3, d4⟩
    have hfr : ∀ j y', j < 160 → y' < 10 → rwo s j y' ≠ some M1.1 := fun j y' hj hy' q => by
      have := c1.rlt hj hy' ((c2.rw hl hj y').trans q)
      omega
    have hO : FrH y M M3 := fun b h1 h2 h3 => (d4 b h1 h2).trans (c5 b h1 h2 (by rw [LA_y hy] at h3; exact h3))
    refine ⟨rfl, wS_retV ⟨rfl, rfl, h.put (h := y) (by omega) d1 (Ag_set hA hk hx hl (SSet_nr hl c2 hfr hk) fun w hw => ?_) (by rw [d2, c3, m1]; omega) (by rw [d3, c4]; omega) hO, hO⟩⟩
    show rowC n w = if w < (if M1.1 = M1.1 then n else nln s1 M1.1) then (if M1.1 = M1.1 then 0 else ncd s1 M1.1 w) else -1
    rw [if_pos rfl, if_pos rfl]
    rfl
theorem sp_layerN {L : Nat} {xs : Nat → Int32} {a : AS} {M : Mm} (h : CCo L xs a M) {y : Nat} (hy : y < 4) (z : Int32) : ∃ o, F_X10_layerAt [.ref (17 + 2 * y), .int z] M = some (some (va_rf o), M) ∧ o.isNone = !(isP z && aly (zab a) (10 * y + z.toNatClampNeg)) := by
  obtain ⟨s, hC, hA⟩ := h.rep
  by_cases hp : isP z = true
  · obtain ⟨zn, hz, rfl⟩ := isP_nat hp
    refine ⟨_, sp_layerAt h.1 hC hy hz, ?_⟩
    rw [hp, nI_clamp (by omega), Bool.true_and, (hA _ (by omega)).1]
    cases nf s (10 * y + zn) <;> rfl
  · have hp : isP z = false := Bool.eq_false_iff.mpr hp
    refine ⟨none, wF_eq (wF_b rfl (Nat.le_of_ble_eq_true rfl) (wS_retA (wA_tA (wC_p (pC_nz (pI_vS (pR_I (pI_lI rfl) pR_0) (sp_isPlace _ _))) ⟨fun hb => (by rw [hp] at hb; cases hb), fun _ => wA_cN ⟨rfl, rfl, rfl⟩⟩)))), by rw [hp]; rfl⟩
def roS (y z x n : Int32) (a : AS) : Int32 × AS := if isY y = true then (if isP z = true then (if aly (zab a) (10 * y.toNatClampNeg + z.toNatClampNeg) = true then (if isP x = true then (if oLt n 0 = true then (4, a) else if oGt n 10 = true then (5, a) else (0, zrow (10 * y.toNatClampNeg + z.toNatClampNeg) x.toNatClampNeg n.toNatClampNeg a)) else (3, a)) else (2, a)) else (1, a)) else (-1, a)
theorem len_nat {n : Int32} (h1 : oLt n 0 = false) (h2 : oGt n 10 = false) : ∃ m, m ≤ 10 ∧ n = nI m := by
  simp only [oLt, oGt, decide_eq_false_iff_not, Int32.lt_iff_toInt_lt] at h1 h2
  have e0 : (0 : Int32).toInt = 0 := rfl
  have e1 : (10 : Int32).toInt = 10 := rfl
  refine ⟨n.toInt.toNat, by omega, nI_tn (by omega)⟩
theorem ok2_row (L : Nat) (xs : Nat → Int32) (y z x n : Int32) : OK2 (Inv2 L xs) F_X11_row F_X12_row [.int y, .int z, .int x, .int n] := by
  refine ok2_of (roS y z x n) (fun a M hO hb h => ?_) (fun a M hO hb h => wF_b rfl (Nat.le_of_ble_eq_true rfl) (r_st h rfl fun M0 h0 s0 => ?_)) (fun a hO => ?_)
  · unfold roS
    refine wF_b rfl (Nat.le_of_ble_eq_true rfl) (q_if (pC_not (pC_nz (pI_vS (pR_I (pI_lI rfl) pR_0) (sp_isYardC _ _)))) (fun hb1 => ?_) (fun hb1 => ?_))
    · rw [Bool.not_eq_true'] at hb1
      rw [if_neg (by rw [hb1]; decide)]
      exact q_ret pI_cI ⟨rfl, rfl, h, COn.rf⟩
    rw [Bool.not_eq_false'] at hb1
    rw [if_pos hb1]
    obtain ⟨yn, hy, rfl⟩ := isY_nat hb1
    refine q_if (pC_not (pC_nz (pI_vS (pR_I (pI_lI rfl) pR_0) (sp_isPlace _ _)))) (fun hb2 => ?_) (fun hb2 => ?_)
    · rw [Bool.not_eq_true'] at hb2
      rw [if_neg (by rw [hb2]; decide)]
      exact q_ret pI_cI ⟨rfl, rfl, h, COn.rf⟩
    rw [Bool.not_eq_false'] at hb2
    rw [if_pos hb2, nI_clamp (by omega)]
    obtain ⟨o, e1, e2⟩ := sp_layerN h.1 hy z
    rw [hb2, Bool.true_and] at e2
    refine q_if (pC_eq (pC_isN (pA_vV (pR_A (pA_yard h.1.1 h.1.o5 hy rfl rfl) (pR_I (pI_lI rfl) pR_0)) (h.1.y hy) e1)) e2) (fun hb3 => ?_) (fun hb3 => ?_)
    · rw [Bool.not_eq_true'] at hb3
      rw [if_neg (by rw [hb3]; decide)]
      exact q_ret pI_cI ⟨rfl, rfl, h, COn.rf⟩
    rw [Bool.not_eq_false'] at hb3
    rw [if_pos hb3]
    refine q_if (pC_not (pC_nz (pI_vS (pR_I (pI_lI rfl) pR_0) (sp_isPlace _ _)))) (fun hb4 => ?_) (fun hb4 => ?_)
    · rw [Bool.not_eq_true'] at hb4
      rw [if_neg (by rw [hb4]; decide)]
      exact q_ret pI_cI ⟨rfl, rfl, h, COn.rf⟩
    rw [Bool.not_eq_false'] at hb4
    rw [if_pos hb4]
    refine q_if (pC_kI (pI_lI rfl) pI_cI) (fun hb5 => ?_) (fun hb5 => ?_)
    · rw [if_pos hb5]
      exact q_ret pI_cI ⟨rfl, rfl, h, COn.rf⟩
    rw [if_neg (by rw [hb5]; decide)]
    refine q_if (pC_kI (pI_lI rfl) pI_cI) (fun hb6 => ?_) (fun hb6 => ?_)
    · rw [if_pos hb6]
      exact q_ret pI_cI ⟨rfl, rfl, h, COn.rf⟩
    rw [if_neg (by rw [hb6]; decide)]
    obtain ⟨zn, hz, rfl⟩ := isP_nat hb2
    obtain ⟨xn, hx, rfl⟩ := isP_nat hb4
    obtain ⟨m, hm, rfl⟩ := len_nat hb5 hb6
    rw [nI_clamp (by omega)] at hb3
    rw [nI_clamp (by omega), nI_clamp (by omega), nI_clamp (by omega)]
    refine q_ex (wV_Vw (pR_A (pA_yard h.1.1 h.1.o5 hy rfl rfl) (pR_I (pI_lI rfl) (pR_I (pI_lI rfl) (pR_I (pI_lI rfl) pR_0)))) (h.1.y hy) ((sp_addRow h hy hz hx hm hb3 (by omega)).mono ?_))
    rintro v M' ⟨rfl, d1, d2⟩
    exact ⟨rfl, l_ret pI_cI ⟨rfl, rfl, d1, d2.con (by omega)⟩⟩
  · unfold roS
    obtain ⟨th, pm, bm, h69⟩ := id h0.2.2
    obtain ⟨s, hR, hA⟩ := h0.1.rep
    refine q_if (pC_not (pC_nz (pI_vS (pR_I (pI_lI rfl) pR_0) (sp_isYardR _ _)))) (fun hb1 => ?_) (fun hb1 => ?_)
    · rw [Bool.not_eq_true'] at hb1
      rw [if_neg (by rw [hb1]; decide)]
      exact q_ret pI_cI ⟨rfl, rfl, h0, s0⟩
    rw [Bool.not_eq_false'] at hb1
    rw [if_pos hb1]
    obtain ⟨yn, hy, rfl⟩ := isY_nat hb1
    refine q_if (pC_not (pC_nz (pI_vS (pR_I (pI_lI rfl) (pR_I pI_cI (pR_I pI_cI pR_0))) (isP_in9 _ _)))) (fun hb2 => ?_) (fun hb2 => ?_)
    · rw [Bool.not_eq_true'] at hb2
      rw [if_neg (by rw [hb2]; decide)]
      exact q_ret pI_cI ⟨rfl, rfl, h0, s0⟩
    rw [Bool.not_eq_false'] at hb2
    rw [if_pos hb2, nI_clamp (by omega)]
    obtain ⟨zn, hz, rfl⟩ := isP_nat hb2
    rw [nI_clamp (by omega)]
    have hk : 10 * yn + zn < 160 := by omega
    have hlt170 : ∀ m, nf s (10 * yn + zn) = some m → m < 2 ^ 31 := fun m hm => by
      obtain ⟨hd, a1, a2⟩ := hR.1
      have := (a2 _ hk).2 m hm
      omega
    have hal := (hA _ hk).1
    refine q_if (pC_eq (pC_kI (pI_held (s := s) (h := yn) h69 hR (by omega) hz rfl rfl rfl) pI_cI) (oI_noe hlt170)) (fun hb3 => ?_) (fun hb3 => ?_)
    · rw [if_neg (by rw [hal, Option.isNone_iff_eq_none.mp hb3]; decide)]
      exact q_ret pI_cI ⟨rfl, rfl, h0, s0⟩
    obtain ⟨l, hl⟩ : ∃ l, nf s (10 * yn + zn) = some l := by
      cases hq : nf s (10 * yn + zn) with
      | none => rw [hq] at hb3; cases hb3
      | some l => exact ⟨l, rfl⟩
    rw [if_pos (by rw [hal, hl]; rfl)]
    refine q_if (pC_not (pC_nz (pI_vS (pR_I (pI_lI rfl) (pR_I pI_cI (pR_I pI_cI pR_0))) (isP_in9 _ _)))) (fun hb4 => ?_) (fun hb4 => ?_)
    · rw [Bool.not_eq_true'] at hb4
      rw [if_neg (by rw [hb4]; decide)]
      exact q_ret pI_cI ⟨rfl, rfl, h0, s0⟩
    rw [Bool.not_eq_false'] at hb4
    rw [if_pos hb4]
    refine q_if (pC_kI (pI_lI rfl) pI_cI) (fun hb5 => ?_) (fun hb5 => ?_)
    · rw [if_pos hb5]
      exact q_ret pI_cI ⟨rfl, rfl, h0, s0⟩
    rw [if_neg (by rw [hb5]; decide)]
    refine q_if (pC_kI (pI_lI rfl) pI_cI) (fun hb6 => ?_) (fun hb6 => ?_)
    · rw [if_pos hb6]
      exact q_ret pI_cI ⟨rfl, rfl, h0, s0⟩
    rw [if_neg (by rw [hb6]; decide)]
    obtain ⟨xn, hx, rfl⟩ := isP_nat hb4
    obtain ⟨m, hm, rfl⟩ := len_nat hb5 hb6
    rw [nI_clamp (by omega), nI_clamp (by omega)]
    have e1 : (if 2 ≤ hcnt s l then 1 else 0) = b2n (shL (zab a) (10 * yn + zn)) := by
      by_cases q : shL (zab a) (10 * yn + zn) = true
      · rw [b2n, if_pos q, if_pos (by rw [shL_cn hA hk hl]; exact q)]
      · rw [b2n, if_neg q, if_neg (by rw [shL_cn hA hk hl]; exact q)]
    obtain ⟨f81, h81⟩ := h0.2.1.2.1
    obtain ⟨f82, h82⟩ := h0.2.1.2.2.1
    refine q_ex (wV_Vw (pR_A (pA_lA rfl) (pR_I (pI_lI rfl) (pR_I (pI_lI rfl) pR_0))) h69 ((sp_aloneLayer h69 hR (h := yn) (by omega) hz hl).mono ?_))
    rintro _ M1 ⟨rfl, l', s1, e1', e2, e3, e4⟩
    rw [e1] at e3
    refine ⟨rfl, ?_⟩
    have hl1 : nf s1 (10 * yn + zn) = some l' := e2.1
    have hf1 : ∀ j, j < 160 → j ≠ 10 * yn + zn → nf s1 j ≠ some l' := fun j hj hn => by rw [(e2.2.1 j hj hn).1]; exact (e2.2.1 j hj hn).2
    have hl170 : l' < 170 := by
      obtain ⟨hd, a1, a2⟩ := e1'.1
      exact (a2 _ hk).2 l' hl1
    refine q_Iw rfl (wI_vVw (pR_A (pA_lA rfl) pR_0) e3 ((sp_newRow e3 e1' ⟨_, (e4.2.2 81 (by decide)).trans h81⟩ ⟨_, (e4.2.2 82 (by decide)).trans h82⟩).mono ?_))
    rintro v M2 ⟨r', rfl, c1, c2, c3, c4, ⟨g5, c5⟩, ⟨g6, c6⟩⟩
    refine ⟨_, rfl, ?_⟩
    obtain ⟨rw9, b1, b2⟩ := e1'.2.1
    obtain ⟨ln, d1, d2⟩ := e1'.2.2.1
    obtain ⟨ck, ct, d3, d4, d5⟩ := e1'.2.2.2.1
    refine q_pa (j := r') (pA_fA (k := 10) (pA_lA rfl) c4 rfl) (pI_lI rfl) (pI_lI rfl) ((c3.2.2 78 (by decide)).trans d1) (by decide) c1 (by decide) (Or.inl rfl) ?_
    refine q_for 10 (fun j L M3 => L = [some (.ref 69), some (.int (nI yn)), some (.int (nI zn)), some (.int (nI xn)), some (.int (nI m)), some (.int (nI r')), some (.int (nI j))] ∧ But [69, 78, 79, 80, 81, 82] M1 M3 ∧ M3.2.2 69 = .inr (11, fsRv th (zkn a) (znl a + b2n (shL (zab a) (10 * yn + zn))) (znr a + 1) pm (zfe a) bm) ∧ M3.2.2 78 = aI 0 1710 (upd ln r' (nI m)) ∧ M3.2.2 81 = aI 1 1710 g5 ∧ M3.2.2 82 = aI 1 170 g6 ∧
      ∃ ck' ct', M3.2.2 79 = aI 0 17100 ck' ∧ M3.2.2 80 = aI 0 17100 ct' ∧ ∀ q w, w < 10 → ck' (10 * q + w) = (if q = r' ∧ w < j then 0 else ck (10 * q + w)) ∧ ct' (10 * q + w) = (if q = r' ∧ w < j then 0 else ct (10 * q + w))) rfl (a := 0) rfl rfl (by decide) (by decide)
      ⟨rfl, (c3.mono (by decide)).set (by decide), (get_ne (by decide)).trans c4, get_at, (get_ne (by decide)).trans c5, (get_ne (by decide)).trans c6, ck, ct, (get_ne (by decide)).trans ((c3.2.2 _ (by decide)).trans d3), (get_ne (by decide)).trans ((c3.2.2 _ (by decide)).trans d4), fun q w _ => ?_⟩ ?_ ?_ ?_
    · rw [if_neg (fun t => absurd t.2 (Nat.not_lt_zero w)), if_neg (fun t => absurd t.2 (Nat.not_lt_zero w))]; exact ⟨rfl, rfl⟩
    · rintro j L M3 ⟨rfl, -⟩
      rfl
    · rintro j L M3 hj ⟨rfl, i1, i2, i3, i4, i5, ck', ct', i6, i7, i8⟩
      refine q_pa (j := 10 * r' + j) (pA_fA (k := 11) (pA_lA rfl) i2 rfl) (pI_eq (pI_add (pI_mul pI_cI (pI_lI rfl)) (pI_lI rfl)) (nI_mul10 _ _)) pI_cI i6 (by decide) (by omega) (by decide) (Or.inl rfl) ?_
      refine l_pa (j := 10 * r' + j) (pA_fA (k := 12) (pA_lA rfl) ((get_ne (by decide)).trans i2) rfl) (pI_eq (pI_add (pI_mul pI_cI (pI_lI rfl)) (pI_lI rfl)) (nI_mul10 _ _)) pI_cI ((get_ne (by decide)).trans i7) (by decide) (by omega) (by decide) (Or.inl rfl) (Or.inr ⟨by decide, by decide, rfl, rfl, rfl, (i1.set (by decide)).set (by decide), (get_ne (by decide)).trans ((get_ne (by decide)).trans i2), (get_ne (by decide)).trans ((get_ne (by decide)).trans i3), (get_ne (by decide)).trans ((get_ne (by decide)).trans i4), (get_ne (by decide)).trans ((get_ne (by decide)).trans i5), _, _, (get_ne (by decide)).trans get_at, get_at, fun q w hw => ?_⟩)
      unfold upd
      by_cases e : 10 * q + w = 10 * r' + j
      · have g1 : q = r' := by omega
        have g2 : w = j := by omega
        rw [if_pos e, if_pos e, if_pos ⟨g1, by omega⟩, if_pos ⟨g1, by omega⟩]
        exact ⟨rfl, rfl⟩
      · rw [if_neg e, if_neg e]
        have e9 := i8 q w hw
        by_cases g : q = r' ∧ w < j
        · rw [if_pos g, if_pos g] at e9
          rw [if_pos ⟨g.1, by omega⟩, if_pos ⟨g.1, by omega⟩]
          exact e9
        · rw [if_neg g, if_neg g] at e9
          rw [if_neg (fun t => g ⟨t.1, by omega⟩), if_neg (fun t => g ⟨t.1, by omega⟩)]
          exact e9
    · rintro L M3 ⟨rfl, i1, i2, i3, i4, i5, ck', ct', i6, i7, i8⟩
      have hR3 : M3.2.2 75 = M1.2.2 75 := i1.2.2 75 (by decide)
      obtain ⟨hd, a1, a2⟩ := e1'.1
      have p1 := pI_gI (t := 0) (L := [some (.ref 69), some (.int (nI yn)), some (.int (nI zn)), some (.int (nI xn)), some (.int (nI m)), some (.int (nI r')), none]) (pA_fA (k := 7) (pA_lA (i := 0) rfl) i2 rfl) (pI_add (pI_mul (pI_cI (v := 10)) (pI_lI (i := 1) rfl)) (pI_lI (i := 2) rfl)) (hR3.trans a1) (by rw [nI_mul10]; exact inb_nI hk (by decide))
      rw [nI_mul10, nI_clamp (by omega), (a2 _ hk).1, hl1] at p1
      have hbut : But [69, 75, 77, 78, 79, 80, 81, 82] M0 (setC M3 77 (aI 0 1700 (upd rw9 (10 * l' + xn) (nI r')))) := ((e4.mono (by decide)).tr (i1.mono (by decide))).set (by decide)
      refine q_pa (j := 10 * l' + xn) (pA_fA (k := 9) (pA_lA rfl) i2 rfl) (pI_eq (pI_add (pI_mul pI_cI p1) (pI_lI rfl)) (nI_mul10 _ _)) (pI_lI rfl) ((i1.2.2 77 (by decide)).trans b1) (by decide) (by omega) (by decide) (Or.inl rfl) (l_ret pI_cI ⟨rfl, rfl, h0.put (s' := sNr s1 l' xn r' m fun _ => 0) hbut ?_ (Ag_set hA hk hx hl (SSet_nr hl e2 (fun j y' hj hy' q => c2 j y' hj hy' ((e2.rw hl hj y').trans q)) hk) fun w hw => ?_) ((get_ne (by decide)).trans i2) ⟨g5, (get_ne (by decide)).trans i4⟩ ⟨g6, (get_ne (by decide)).trans i5⟩, s0.tr (hbut.ron (by decide))⟩)
      · refine e1'.newr hl1 hf1 hl170 c1 c2 hm ((get_ne (by decide)).trans hR3) get_at ((get_ne (by decide)).trans i3) ((get_ne (by decide)).trans i6) ((get_ne (by decide)).trans i7) (fun m' y' hm' hy' => ?_) (fun q hq => ?_) (fun q w hq hw => ?_)
        · unfold upd
          by_cases e : 10 * m' + y' = 10 * l' + xn
          · rw [if_pos e, if_pos ⟨by omega, by omega⟩]
          · rw [if_neg e, if_neg (fun t => e (by omega))]
            exact (b2 m' y' hm' hy').1
        · unfold upd
          by_cases e : q = r'
          · rw [if_pos e, if_pos e]
          · rw [if_neg e, if_neg e]
            exact (d2 q hq).1
        · rw [(i8 q w hw).1, (i8 q w hw).2]
          by_cases e : q = r'
          · rw [if_pos ⟨e, hw⟩, if_pos ⟨e, hw⟩, if_pos e]
            exact ⟨by decide, by decide, by decide, by decide, fun _ => rfl, rfl⟩
          · rw [if_neg (fun t => e t.1), if_neg (fun t => e t.1), if_neg e]
            exact d5 q w hq hw
      · show rowC m w = if w < (if r' = r' then m else nln s1 r') then (if r' = r' then 0 else ncd s1 r' w) else -1
        rw [if_pos rfl, if_pos rfl]
        rfl
  · unfold roS
    repeat' split
    all_goals first | exact ⟨hO, Nat.le_add_right _ _⟩ | skip
    refine ⟨hO.set (hO.av.set fun w _ => ?_), ?_⟩
    · unfold rowC
      split
      · exact Or.inr (Or.inl rfl)
      · exact Or.inl rfl
    · show znl a + b2n _ + (znr a + 1) ≤ _
      unfold b2n
      split <;> omega
