/-! same, made -/
theorem pC_eqA {a b : DA} {L : Lv} {M : Mm} {x y : Option Nat} (h : pA a L M x) (g : pA b L M y) (hx : hiA x = true) (hy : hiA y = true) : pC (eqA a b) L M (decide (x = y)) := by
  unfold pC eqA
  rw [show a L M = some (x, M) from h]
  simp only [Option.bind_some]
  rw [show b L M = some (y, M) from g]
  simp only [Option.bind_some]
  exact if_pos ⟨hx, hy⟩
def saV (y z u t w : Int32) (a : AS) : Int32 := if ((isY y && isY u) && (isIn w 0 10 && (isP z && isP t))) = true then
  (if (aly (zab a) (10 * y.toNatClampNeg + z.toNatClampNeg) && aly (zab a) (10 * u.toNatClampNeg + t.toNatClampNeg)) = true then
    (if w = 0 then bz (asl (zab a) (10 * y.toNatClampNeg + z.toNatClampNeg) (10 * u.toNatClampNeg + t.toNatClampNeg)) else
      (if (arp (zab a) (10 * y.toNatClampNeg + z.toNatClampNeg) (w.toNatClampNeg - 1) && arp (zab a) (10 * u.toNatClampNeg + t.toNatClampNeg) (w.toNatClampNeg - 1)) = true then bz (asr (zab a) (10 * y.toNatClampNeg + z.toNatClampNeg) (w.toNatClampNeg - 1) (10 * u.toNatClampNeg + t.toNatClampNeg)) else -1))
    else -1) else -1
theorem in10_nat {w : Int32} (h : isIn w 0 10 = true) : ∃ n, n ≤ 10 ∧ w = nI n := by
  simp only [isIn, Bool.and_eq_true, decide_eq_true_eq, Int32.le_iff_toInt_le] at h
  have e0 : (0 : Int32).toInt = 0 := rfl
  have e1 : (10 : Int32).toInt = 10 := rfl
  exact ⟨w.toInt.toNat, by omega, nI_tn (by omega)⟩
theorem bz_if (b : Bool) : (if b = true then (1 : Int32) else 0) = bz b := rfl
theorem sa_c {k k' : Nat} {s : SN} {ab : AB} {l m : Nat} (hA : Ag s ab) (hk : k < 160) (hk' : k' < 160) (hl : nf s k = some l) (hm : nf s k' = some m) : asl ab k k' = decide (l = m) := by
  rw [(hA k hk).2.1 k' hk', hl, hm]
  simp
theorem sa_r {k k' x : Nat} {s : SN} {ab : AB} {l m : Nat} (hA : Ag s ab) (hk : k < 160) (hk' : k' < 160) (hx : x < 10) (hl : rwo s k x = some l) (hm : rwo s k' x = some m) : asr ab k x k' = decide (l = m) := by
  rw [((hA k hk).2.2 x hx).2.1 k' hk', hl, hm]
  simp
theorem ok2_same (L : Nat) (xs : Nat → Int32) (y z u t w : Int32) : OK2 (Inv2 L xs) F_X11_same F_X12_same [.int y, .int z, .int u, .int t, .int w] := by
  refine ok2_rd (saV y z u t w) (fun a M hO hb h => ?_) (fun a M hO hb h => wF_b rfl (Nat.le_of_ble_eq_true rfl) (r_st h rfl fun M0 h0 s0 => ?_))
  · unfold saV
    refine wF_b rfl (Nat.le_of_ble_eq_true rfl) (q_if (v := !((isY y && isY u) && isIn w 0 10)) (pC_eq (pC_or (pC_or (pC_or (pC_not (pC_nz (pI_vS (pR_I (pI_lI rfl) pR_0) (sp_isYardC _ _)))) (pC_not (pC_nz (pI_vS (pR_I (pI_lI rfl) pR_0) (sp_isYardC _ _))))) (pC_kI (pI_lI rfl) pI_cI)) (pC_kI (pI_lI rfl) pI_cI)) ?_) (fun hb1 => ?_) (fun hb1 => ?_))
    · have e : (oLt w 0 || oGt w 10) = !(isIn w 0 10) := by
        unfold oLt oGt isIn
        rw [Bool.not_and, ← decide_not, ← decide_not]
        congr 1 <;> rw [decide_eq_decide] <;> simp [Int32.not_le]
      rw [Bool.or_assoc, e]
      cases isY y <;> cases isY u <;> cases isIn w 0 10 <;> rfl
    · rw [Bool.not_eq_true'] at hb1
      rw [if_neg (fun q => by
        obtain ⟨q1, q2⟩ := Bool.and_eq_true_iff.mp q
        rw [q1, (Bool.and_eq_true_iff.mp q2).1] at hb1
        exact absurd hb1 (by decide))]
      exact q_ret pI_cI ⟨rfl, rfl, h, COn.rf⟩
    · rw [Bool.not_eq_false'] at hb1
      obtain ⟨g0, g3⟩ := Bool.and_eq_true_iff.mp hb1
      obtain ⟨g1, g2⟩ := Bool.and_eq_true_iff.mp g0
      obtain ⟨yn, hy, rfl⟩ := isY_nat g1
      obtain ⟨un, hu, rfl⟩ := isY_nat g2
      obtain ⟨wn, hw, rfl⟩ := in10_nat g3
      rw [g0, g3, Bool.true_and, Bool.true_and]
      obtain ⟨s, hC, hA⟩ := h.1.rep
      by_cases hz : isP z = true
      · obtain ⟨zn, hzn, rfl⟩ := isP_nat hz
        by_cases ht : isP t = true
        · obtain ⟨tn, htn, rfl⟩ := isP_nat ht
          rw [if_pos (by rw [hz, ht]; rfl), nI_clamp (by omega), nI_clamp (by omega), nI_clamp (by omega), nI_clamp (by omega), nI_clamp (by omega)]
          have hk : 10 * yn + zn < 160 := by omega
          have hk' : 10 * un + tn < 160 := by omega
          refine q_A rfl (pA_vV (pR_A (pA_yard h.1.1 h.1.o5 hy rfl rfl) (pR_I (pI_lI rfl) pR_0)) (h.1.y hy) (sp_layerAt h.1.1 hC hy hzn)) ?_
          refine q_A (by cases nf s (10 * yn + zn) <;> rfl) (pA_vV (pR_A (pA_yard h.1.1 h.1.o5 hu rfl rfl) (pR_I (pI_lI rfl) pR_0)) (h.1.y hu) (sp_layerAt h.1.1 hC hu htn)) ?_
          refine q_if (pC_or (pC_isN (pA_lO (r := nf s (10 * yn + zn)) rfl)) (pC_isN (pA_lO (r := nf s (10 * un + tn)) rfl))) (fun hb2 => ?_) (fun hb2 => ?_)
          · rw [if_neg (fun q => by
              rw [(hA _ hk).1, (hA _ hk').1] at q
              cases e1 : nf s (10 * yn + zn) <;> cases e2 : nf s (10 * un + tn) <;> rw [e1, e2] at q hb2 <;> first | exact absurd hb2 Bool.false_ne_true | exact absurd q Bool.false_ne_true)]
            exact q_ret pI_cI ⟨rfl, rfl, h, COn.rf⟩
          · obtain ⟨l, hl⟩ : ∃ l, nf s (10 * yn + zn) = some l := by
              cases e1 : nf s (10 * yn + zn) with
              | none => rw [e1] at hb2; cases hb2
              | some l => exact ⟨l, rfl⟩
            obtain ⟨m, hm⟩ : ∃ m, nf s (10 * un + tn) = some m := by
              cases e1 : nf s (10 * un + tn) with
              | none => rw [hl, e1] at hb2; cases hb2
              | some l => exact ⟨l, rfl⟩
            rw [hl, hm, if_pos (by rw [(hA _ hk).1, (hA _ hk').1, hl, hm]; rfl)]
            have hll := hC.lt hk hl
            have hmm := hC.lt hk' hm
            refine q_if (pC_eq (pC_kI (pI_lI rfl) pI_cI) (oEq_nI (b := 0) (by omega) (by decide))) (fun hb3 => ?_) (fun hb3 => ?_)
            · have e0 : wn = 0 := of_decide_eq_true hb3
              rw [if_pos (show nI wn = 0 by rw [e0]; rfl), sa_c hA hk hk' hl hm]
              refine q_ret (pI_tI (pC_eqA (pA_lA (a := l) rfl) (pA_lA (a := m) rfl) (decide_eq_true (by omega)) (decide_eq_true (by omega))) pI_cI pI_cI) ⟨rfl, ?_, h, COn.rf⟩
              rw [bz_if, show decide (some l = some m) = decide (l = m) from decide_eq_decide.mpr ⟨fun q => Option.some.inj q, fun q => by rw [q]⟩]
            · have e0 : ¬ wn = 0 := of_decide_eq_false hb3
              rw [if_neg (show ¬ nI wn = 0 from fun q => e0 ((nI_inj (b := 0) (by omega) (by decide)).mp q))]
              have e1 : nI wn - 1 = nI (wn - 1) := nI_sub (b := 1) (by omega) (by omega)
              have hx : wn - 1 < 10 := by omega
              have rd : ∀ (Lx : Lv) (i k n : Nat), lkp Lx i = some (.ref n) → lkp Lx 5 = some (.int (nI wn)) → k < 160 → nf s k = some n → pA (gA 5 (fA 4 0 (lA i)) (bI oSub (lI 5) (cI 1))) Lx M (rwo s k (wn - 1)) := fun Lx i k n h0 h5 hkk hn => by
                obtain ⟨⟨-, -, a3, gl, a4, a5⟩, -⟩ := hC.cl.1.1 n ⟨k, hkk, hn⟩
                have h9 := pA_gA (t := 5) (pA_fA (k := 0) (pA_lA h0) a3 rfl) (pI_eq (pI_sub (pI_lI h5) pI_cI) e1) a4 (inb_nI hx (by decide))
                rw [nI_clamp (by omega), a5 _ hx] at h9
                rw [rwo_some hn]
                exact h9
              refine q_A rfl (rd _ 6 _ l rfl rfl hk hl) ?_
              refine q_A (by cases rwo s (10 * yn + zn) (wn - 1) <;> rfl) (rd _ 7 _ m rfl rfl hk' hm) ?_
              refine q_if (pC_or (pC_isN (pA_lO (r := rwo s (10 * yn + zn) (wn - 1)) rfl)) (pC_isN (pA_lO (r := rwo s (10 * un + tn) (wn - 1)) rfl))) (fun hb4 => ?_) (fun hb4 => ?_)
              · rw [if_neg (fun q => by
                  rw [((hA _ hk).2.2 _ hx).1, ((hA _ hk').2.2 _ hx).1] at q
                  cases e1 : rwo s (10 * yn + zn) (wn - 1) <;> cases e2 : rwo s (10 * un + tn) (wn - 1) <;> rw [e1, e2] at q hb4 <;> first | exact absurd hb4 Bool.false_ne_true | exact absurd q Bool.false_ne_true)]
                exact q_ret pI_cI ⟨rfl, rfl, h, COn.rf⟩
              · obtain ⟨p, hp⟩ : ∃ p, rwo s (10 * yn + zn) (wn - 1) = some p := by
                  cases e1 : rwo s (10 * yn + zn) (wn - 1) with
                  | none => rw [e1] at hb4; cases hb4
                  | some l => exact ⟨l, rfl⟩
                obtain ⟨r, hr⟩ : ∃ r, rwo s (10 * un + tn) (wn - 1) = some r := by
                  cases e1 : rwo s (10 * un + tn) (wn - 1) with
                  | none => rw [hp, e1] at hb4; cases hb4
                  | some l => exact ⟨l, rfl⟩
                rw [hp, hr, if_pos (by rw [((hA _ hk).2.2 _ hx).1, ((hA _ hk').2.2 _ hx).1, hp, hr]; rfl), sa_r hA hk hk' hx hp hr]
                have hpp := (hC.cl.1.2 p ⟨_, _, hk, hx, hp⟩).1
                have hrr := (hC.cl.1.2 r ⟨_, _, hk', hx, hr⟩).1
                refine l_ret (pI_tI (pC_eqA (pA_lA (a := p) rfl) (pA_lA (a := r) rfl) (decide_eq_true (by omega)) (decide_eq_true (by omega))) pI_cI pI_cI) ⟨rfl, ?_, h, COn.rf⟩
                rw [bz_if, show decide (some p = some r) = decide (p = r) from decide_eq_decide.mpr ⟨fun q => Option.some.inj q, fun q => by rw [q]⟩]
        · obtain ⟨o, e1, e2⟩ := sp_layerN h.1 hu t
          rw [Bool.eq_false_iff.mpr ht, Bool.false_and] at e2
          rw [if_neg (fun q => ht (Bool.and_eq_true_iff.mp q).2)]
          refine q_A rfl (pA_vV (pR_A (pA_yard h.1.1 h.1.o5 hy rfl rfl) (pR_I (pI_lI rfl) pR_0)) (h.1.y hy) (sp_layerAt h.1.1 hC hy hzn)) ?_
          refine q_A (by cases nf s (10 * yn + zn) <;> rfl) (pA_vV (pR_A (pA_yard h.1.1 h.1.o5 hu rfl rfl) (pR_I (pI_lI rfl) pR_0)) (h.1.y hu) e1) ?_
          refine q_if (v := true) (pC_eq (pC_or (pC_isN (pA_lO (r := nf s (10 * yn + zn)) rfl)) (pC_isN (pA_lO (r := o) rfl))) (by rw [e2]; exact Bool.or_true _)) (fun _ => q_ret pI_cI ⟨rfl, rfl, h, COn.rf⟩) (fun q => (by cases q))
      · obtain ⟨o, e1, e2⟩ := sp_layerN h.1 hy z
        obtain ⟨o', e3, -⟩ := sp_layerN h.1 hu t
        rw [Bool.eq_false_iff.mpr hz, Bool.false_and] at e2
        rw [if_neg (fun q => hz (Bool.and_eq_true_iff.mp q).1)]
        refine q_A rfl (pA_vV (pR_A (pA_yard h.1.1 h.1.o5 hy rfl rfl) (pR_I (pI_lI rfl) pR_0)) (h.1.y hy) e1) ?_
        refine q_A (by cases o <;> rfl) (pA_vV (pR_A (pA_yard h.1.1 h.1.o5 hu rfl rfl) (pR_I (pI_lI rfl) pR_0)) (h.1.y hu) e3) ?_
        exact q_if (v := true) (pC_eq (pC_or (pC_isN (pA_lO (r := o) rfl)) (pC_isN (pA_lO (r := o') rfl))) (by rw [e2]; rfl)) (fun _ => q_ret pI_cI ⟨rfl, rfl, h, COn.rf⟩) (fun q => (by cases q))
  · obtain ⟨th, pm, bm, h69⟩ := id h0.2.2
    obtain ⟨s, hR, hA⟩ := h0.1.rep
    unfold saV
    refine q_if (v := !((isY y && isY u) && (isIn w 0 10 && (isP z && isP t)))) (pC_eq (pC_or (pC_or (pC_or (pC_or (pC_not (pC_nz (pI_vS (pR_I (pI_lI rfl) pR_0) (sp_isYardR _ _)))) (pC_not (pC_nz (pI_vS (pR_I (pI_lI rfl) pR_0) (sp_isYardR _ _))))) (pC_not (pC_nz (pI_vS (pR_I (pI_lI rfl) (pR_I pI_cI (pR_I pI_cI pR_0))) (isP_in9 _ _))))) (pC_not (pC_nz (pI_vS (pR_I (pI_lI rfl) (pR_I pI_cI (pR_I pI_cI pR_0))) (isP_in9 _ _))))) (pC_not (pC_nz (pI_vS (pR_I (pI_lI rfl) (pR_I pI_cI (pR_I pI_cI pR_0))) (sp_in _ _ _ _))))) ?_) (fun hb1 => ?_) (fun hb1 => ?_)
    · cases isY y <;> cases isY u <;> cases isIn w 0 10 <;> cases isP z <;> cases isP t <;> rfl
    · rw [Bool.not_eq_true'] at hb1
      rw [if_neg (by rw [hb1]; decide)]
      exact q_ret pI_cI ⟨rfl, rfl, h0, s0⟩
    · rw [Bool.not_eq_false'] at hb1
      rw [if_pos hb1]
      obtain ⟨g0, g3⟩ := Bool.and_eq_true_iff.mp hb1
      obtain ⟨g1, g2⟩ := Bool.and_eq_true_iff.mp g0
      obtain ⟨g3, g4⟩ := Bool.and_eq_true_iff.mp g3
      obtain ⟨g4, g5⟩ := Bool.and_eq_true_iff.mp g4
      obtain ⟨yn, hy, rfl⟩ := isY_nat g1
      obtain ⟨un, hu, rfl⟩ := isY_nat g2
      obtain ⟨wn, hw, rfl⟩ := in10_nat g3
      obtain ⟨zn, hzn, rfl⟩ := isP_nat g4
      obtain ⟨tn, htn, rfl⟩ := isP_nat g5
      rw [nI_clamp (by omega), nI_clamp (by omega), nI_clamp (by omega), nI_clamp (by omega), nI_clamp (by omega)]
      have hk : 10 * yn + zn < 160 := by omega
      have hk' : 10 * un + tn < 160 := by omega
      obtain ⟨hd, a1, a2⟩ := id hR.1
      obtain ⟨rw9, b1, b2⟩ := id hR.2.1
      have l31 : ∀ k, k < 160 → ∀ m, nf s k = some m → m < 2 ^ 31 := fun k hk m hm => by have := (a2 k hk).2 m hm; omega
      refine q_assoc (q_I rfl (pI_held (s := s) (h := yn) h69 hR (by omega) hzn rfl rfl rfl) (q_I rfl (pI_held (s := s) (h := un) h69 hR (by omega) htn rfl rfl rfl) ?_))
      refine q_if (pC_eq (pC_or (pC_kI (pI_lI rfl) pI_cI) (pC_kI (pI_lI rfl) pI_cI)) (by rw [oI_noe (l31 _ hk), oI_noe (l31 _ hk')])) (fun hb2 => ?_) (fun hb2 => ?_)
      · rw [if_neg (fun q => by
          rw [(hA _ hk).1, (hA _ hk').1] at q
          cases e1 : nf s (10 * yn + zn) <;> cases e2 : nf s (10 * un + tn) <;> rw [e1, e2] at q hb2 <;> first | exact absurd hb2 Bool.false_ne_true | exact absurd q Bool.false_ne_true)]
        exact q_ret pI_cI ⟨rfl, rfl, h0, s0⟩
      · obtain ⟨l, hl⟩ : ∃ l, nf s (10 * yn + zn) = some l := by
          cases e1 : nf s (10 * yn + zn) with
          | none => rw [e1] at hb2; cases hb2
          | some l => exact ⟨l, rfl⟩
        obtain ⟨m, hm⟩ : ∃ m, nf s (10 * un + tn) = some m := by
          cases e1 : nf s (10 * un + tn) with
          | none => rw [hl, e1] at hb2; cases hb2
          | some l => exact ⟨l, rfl⟩
        rw [hl, hm, if_pos (by rw [(hA _ hk).1, (hA _ hk').1, hl, hm]; rfl)]
        have hl170 := (a2 _ hk).2 l hl
        have hm170 := (a2 _ hk').2 m hm
        refine q_if (pC_eq (pC_kI (pI_lI rfl) pI_cI) (oEq_nI (b := 0) (by omega) (by decide))) (fun hb3 => ?_) (fun hb3 => ?_)
        · have e0 : wn = 0 := of_decide_eq_true hb3
          rw [if_pos (show nI wn = 0 by rw [e0]; rfl), sa_c hA hk hk' hl hm]
          exact q_ret (pI_tI (pC_eq (pC_kI (pI_lI rfl) (pI_lI rfl)) (oEq_nI (a := l) (b := m) (by omega) (by omega))) pI_cI pI_cI) ⟨rfl, rfl, h0, s0⟩
        · have e0 : ¬ wn = 0 := of_decide_eq_false hb3
          rw [if_neg (show ¬ nI wn = 0 from fun q => e0 ((nI_inj (b := 0) (by omega) (by decide)).mp q))]
          have hx : wn - 1 < 10 := by omega
          have ex : ∀ n, (10 : Int32) * nI n + nI wn - 1 = nI (10 * n + (wn - 1)) := fun n => by
            rw [nI_mul10]
            have e := nI_pred (10 * n + (wn - 1))
            rw [show 10 * n + (wn - 1) + 1 = 10 * n + wn by omega] at e
            exact e
          have rd : ∀ (Lx : Lv) (i k n : Nat), lkp Lx 0 = some (.ref 69) → lkp Lx i = some (.int (nI n)) → lkp Lx 5 = some (.int (nI wn)) → k < 160 → nf s k = some n → pI (gI 0 (fA 11 9 (lA 0)) (bI oSub (bI oAdd (bI oMul (cI 10) (lI i)) (lI 5)) (cI 1))) Lx M0 (oI (rwo s k (wn - 1))) := fun Lx i k n q0 q1 q5 hkk hn => by
            have hn170 := (a2 k hkk).2 n hn
            have h9 := pI_gI (t := 0) (pA_fA (k := 9) (pA_lA q0) h69 rfl) (pI_eq (pI_sub (pI_add (pI_mul (pI_cI (v := 10)) (pI_lI q1)) (pI_lI q5)) pI_cI) (ex n)) b1 (inb_nI (by omega) (by decide))
            rw [nI_clamp (by omega), (b2 n _ hn170 hx).1] at h9
            rw [rwo_some hn]
            exact h9
          have r31 : ∀ k, k < 160 → ∀ r, rwo s k (wn - 1) = some r → r < 2 ^ 31 := fun k hkk r hr => by
            unfold rwo at hr
            obtain ⟨n, hn, hr⟩ := Option.bind_eq_some_iff.mp hr
            have := (b2 n _ ((a2 k hkk).2 n hn) hx).2 r hr
            omega
          refine q_assoc (q_I rfl (rd _ 6 _ l rfl rfl rfl hk hl) (q_I rfl (rd _ 7 _ m rfl rfl rfl hk' hm) ?_))
          refine l_ret (pI_tI (pC_eq (pC_or (pC_kI (pI_lI rfl) pI_cI) (pC_kI (pI_lI rfl) pI_cI)) (by rw [oI_noe (r31 _ hk), oI_noe (r31 _ hk')])) pI_cI (pI_tI (pC_kI (pI_lI rfl) (pI_lI rfl)) pI_cI pI_cI)) ⟨rfl, ?_, h0, s0⟩
          rw [((hA _ hk).2.2 _ hx).1, ((hA _ hk').2.2 _ hx).1]
          cases e1 : rwo s (10 * yn + zn) (wn - 1) with
          | none => rfl
          | some p =>
            cases e2 : rwo s (10 * un + tn) (wn - 1) with
            | none => rfl
            | some r =>
              rw [sa_r hA hk hk' hx e1 e2]
              show some (Value.int (if oEq (nI p) (nI r) = true then 1 else 0)) = _
              rw [oEq_nI (r31 _ hk p e1) (r31 _ hk' r e2)]
              rfl
