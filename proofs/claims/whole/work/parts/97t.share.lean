/-! less, share, keep, back, forget -/
def leS (y z : Int32) (a : AS) : Int32 × AS := if (isY y && (isP z && aly (zab a) (10 * y.toNatClampNeg + z.toNatClampNeg))) = true then (1, zSet a (znl a) (znr a) (aDel (10 * y.toNatClampNeg + z.toNatClampNeg) (zab a))) else (0, a)
theorem not_or_n (a b : Bool) : (!a || !b) = !(a && b) := by cases a <;> cases b <;> rfl
theorem RowX_sub {s s' : SN} (hX : RowX s) (h : ∀ j x r, j < 160 → x < 10 → rwo s' j x = some r → ∃ i, i < 160 ∧ rwo s i x = some r) : RowX s' := by
  rw [RowX_iff]
  intro k k' x x' r hk hk' hx hx' h1 h2
  obtain ⟨i, hi, e1⟩ := h k x r hk hx h1
  obtain ⟨i', hi', e2⟩ := h k' x' r hk' hx' h2
  exact RowX_iff.mp hX i i' x x' r hi hi' hx hx' e1 e2
theorem SPl.put {s : SN} {k : Nat} {o : Option Nat} : SPl s (sPut s k o) k o := ⟨if_pos rfl, fun j _ hn => if_neg hn, fun _ _ _ _ _ _ _ => rfl, fun _ _ _ _ _ _ _ _ => ⟨rfl, rfl⟩⟩
theorem rwo_put {s : SN} {k : Nat} {o : Option Nat} (ho : o = none ∨ ∃ q, q < 160 ∧ nf s q = o) (j x r : Nat) (hj : j < 160) (hr : rwo (sPut s k o) j x = some r) : ∃ i, i < 160 ∧ rwo s i x = some r := by
  by_cases ej : j = k
  · subst ej
    rcases ho with e | ⟨q, hq, e⟩
    · rw [rwo_none (show nf (sPut s j o) j = none by rw [e]; exact if_pos rfl)] at hr
      cases hr
    · cases hm : o with
      | none => rw [rwo_none (show nf (sPut s j o) j = none by rw [hm]; exact if_pos rfl)] at hr; cases hr
      | some m =>
        rw [rwo_some (show nf (sPut s j o) j = some m by rw [hm]; exact if_pos rfl)] at hr
        exact ⟨q, hq, by rw [rwo_some (e.trans hm)]; exact hr⟩
  · have e : nf (sPut s k o) j = nf s j := if_neg ej
    cases hm : nf s j with
    | none => rw [rwo_none (e.trans hm)] at hr; cases hr
    | some m =>
      rw [rwo_some (e.trans hm)] at hr
      exact ⟨j, hj, by rw [rwo_some hm]; exact hr⟩
theorem AB.cp {s : SN} {ab : AB} (hA : Ag s ab) {q k : Nat} (hq : q < 160) : Ag (sPut s k (nf s q)) (aCpy q k ab) := Ag_cpy hA hq (if_pos rfl) (fun j _ hn => if_neg hn) (fun _ _ _ _ => rfl) (fun _ _ _ _ _ _ _ _ => ⟨rfl, rfl⟩)
/-- one place written in the reference -/
theorem RSt.pl {L : Nat} {xs : Nat → Int32} {a : AS} {M : Mm} {k : Nat} {o : Option Nat} {s : SN} {hd : Nat → Int32} {ab' : AB} (h : RSt L xs a M) (hR : RRep M s) (hk : k < 160) (ho : o = none ∨ ∃ q, q < 160 ∧ nf s q = o) (h75 : M.2.2 75 = aI 0 160 hd) (hA : Ag (sPut s k o) ab') : RSt L xs (zSet a (znl a) (znr a) ab') (setC M 75 (aI 0 160 (upd hd k (oI o)))) ∧ RRep (setC M 75 (aI 0 160 (upd hd k (oI o)))) (sPut s k o) := by
  obtain ⟨th, pm, bm, h69⟩ := id h.2.2
  obtain ⟨hd', a1, a2⟩ := hR.1
  have e : hd' = hd := by rw [a1] at h75; injection h75 with h; injection h with _ h; injection h with _ h; injection h with h
  subst e
  have hrep : RRep (setC M 75 (aI 0 160 (upd hd' k (oI o)))) (sPut s k o) := by
    refine hR.pl hk (fun l hl => ?_) (fun b _ h2 => get_ne h2) get_at (fun j hj => ?_) (RowX_sub hR.2.2.2.2 fun j x r hj _ hr => rwo_put ho j x r hj hr)
    · rcases ho with e | ⟨q, hq, e⟩
      · rw [e] at hl; cases hl
      · exact (a2 q hq).2 l (e.trans hl)
    · unfold upd
      by_cases ej : j = k
      · rw [if_pos ej, if_pos ej]
      · rw [if_neg ej, if_neg ej]; exact (a2 j hj).1
  obtain ⟨f81, h81⟩ := h.2.1.2.1
  obtain ⟨f82, h82⟩ := h.2.1.2.2.1
  exact ⟨h.put (But.rf.set (by decide)) hrep hA ((get_ne (by decide)).trans h69) ⟨f81, (get_ne (by decide)).trans h81⟩ ⟨f82, (get_ne (by decide)).trans h82⟩, hrep⟩
theorem zSet_same (a : AS) : zSet a (znl a) (znr a) (zab a) = a := rfl
theorem ok2_less (L : Nat) (xs : Nat → Int32) (y z : Int32) : OK2 (Inv2 L xs) F_X11_less F_X12_less [.int y, .int z] := by
  refine ok2_of (leS y z) (fun a M hO hb h => ?_) (fun a M hO hb h => wF_b rfl (Nat.le_of_ble_eq_true rfl) (r_st h rfl fun M0 h0 s0 => ?_)) (fun a hO => ?_)
  · have hBC : BC = 700000 := rfl
    have m1 := h.1.2.2.2.2.2.2.1
    have m2 := h.1.2.2.2.2.2.2.2
    unfold leS
    refine wF_b rfl (Nat.le_of_ble_eq_true rfl) (q_if (v := !(isY y && (isP z && aly (zab a) (10 * y.toNatClampNeg + z.toNatClampNeg)))) (pC_eq (pC_orD (y := !(isP z && aly (zab a) (10 * y.toNatClampNeg + z.toNatClampNeg))) (pC_not (pC_nz (pI_vS (pR_I (pI_lI rfl) pR_0) (sp_isYardC _ _)))) fun hb1 => ?_) (not_or_n _ _)) (fun hb1 => ?_) (fun hb1 => ?_))
    · rw [Bool.not_eq_false'] at hb1
      obtain ⟨yn, hy, rfl⟩ := isY_nat hb1
      obtain ⟨o, e1, e2⟩ := sp_layerN h.1 hy z
      rw [nI_clamp (by omega)]
      exact pC_eq (pC_isN (pA_vV (pR_A (pA_yard h.1.1 h.1.o5 hy rfl rfl) (pR_I (pI_lI rfl) pR_0)) (h.1.y hy) e1)) e2
    · rw [Bool.not_eq_true'] at hb1
      rw [if_neg (by rw [hb1]; decide)]
      exact q_retZ (v := false) pI_cI ⟨rfl, rfl, h, COn.rf⟩
    · rw [Bool.not_eq_false'] at hb1
      rw [if_pos hb1]
      obtain ⟨g1, g2⟩ := Bool.and_eq_true_iff.mp hb1
      obtain ⟨g4, g3⟩ := Bool.and_eq_true_iff.mp g2
      obtain ⟨yn, hy, rfl⟩ := isY_nat g1
      obtain ⟨zn, hz, rfl⟩ := isP_nat g4
      rw [nI_clamp (by omega), nI_clamp (by omega)]
      obtain ⟨s, hC, hA⟩ := h.1.rep
      have hYA : YA yn = 17 + 2 * yn := if_pos hy
      have hst := setL_rep h.1.1 hC (h := yn) (by omega) hz none (Or.inl rfl) (by omega)
      rw [hYA] at hst
      refine q_ex (wV_V (wR_A (wA_p (pA_yard h.1.1 h.1.o5 hy rfl rfl) (wR_I (wI_p (pI_lI rfl) (wR_A (wA_cN (wR_0 ⟨isR_of (h.1.y hy), hst.mono ?_⟩))))))))
      rintro v M' ⟨rfl, d1, d2, d3, d4⟩
      exact ⟨rfl, l_retZ (v := true) pI_cI ⟨rfl, rfl, h.put (h := yn) (by omega) d1 (Ag_del hA (by omega) SPl.put) (d2.trans m1) (by rw [d3]; exact m2) d4, d4.con (by omega)⟩⟩
  · unfold leS
    obtain ⟨th, pm, bm, h69⟩ := id h0.2.2
    obtain ⟨s, hR, hA⟩ := h0.1.rep
    obtain ⟨hd, a1, a2⟩ := hR.1
    refine q_if (v := !(isY y && (isP z && aly (zab a) (10 * y.toNatClampNeg + z.toNatClampNeg)))) (pC_eq (pC_orD (y := !(aly (zab a) (10 * y.toNatClampNeg + z.toNatClampNeg))) (pC_or (pC_not (pC_nz (pI_vS (pR_I (pI_lI rfl) pR_0) (sp_isYardR _ _)))) (pC_not (pC_nz (pI_vS (pR_I (pI_lI rfl) (pR_I pI_cI (pR_I pI_cI pR_0))) (isP_in9 _ _))))) fun hb1 => ?_) ?_) (fun hb1 => ?_) (fun hb1 => ?_)
    · rw [not_or_n, Bool.not_eq_false'] at hb1
      obtain ⟨g1, g2⟩ := Bool.and_eq_true_iff.mp hb1
      obtain ⟨yn, hy, rfl⟩ := isY_nat g1
      obtain ⟨zn, hz, rfl⟩ := isP_nat g2
      rw [nI_clamp (by omega), nI_clamp (by omega)]
      refine pC_eq (pC_kI (pI_held (s := s) (h := yn) h69 hR (by omega) hz rfl rfl rfl) pI_cI) ((oI_noe fun m hm => by have := (a2 _ (show 10 * yn + zn < 160 by omega)).2 m hm; omega).trans ?_)
      rw [(hA _ (show 10 * yn + zn < 160 by omega)).1]
      cases nf s (10 * yn + zn) <;> rfl
    · cases isY y <;> cases isP z <;> cases aly (zab a) (10 * y.toNatClampNeg + z.toNatClampNeg) <;> rfl
    · rw [Bool.not_eq_true'] at hb1
      rw [if_neg (by rw [hb1]; decide)]
      exact q_retZ (v := false) pI_cI ⟨rfl, rfl, h0, s0⟩
    · rw [Bool.not_eq_false'] at hb1
      rw [if_pos hb1]
      obtain ⟨g1, g2⟩ := Bool.and_eq_true_iff.mp hb1
      obtain ⟨g4, g3⟩ := Bool.and_eq_true_iff.mp g2
      obtain ⟨yn, hy, rfl⟩ := isY_nat g1
      obtain ⟨zn, hz, rfl⟩ := isP_nat g4
      rw [nI_clamp (by omega), nI_clamp (by omega)]
      have hk : 10 * yn + zn < 160 := by omega
      obtain ⟨q1, q2⟩ := h0.pl (o := none) hR hk (Or.inl rfl) a1 (Ag_del hA hk SPl.put)
      exact q_pa (j := 10 * yn + zn) (pA_fA (k := 7) (pA_lA rfl) h69 rfl) (pI_eq (pI_add (pI_mul pI_cI (pI_lI rfl)) (pI_lI rfl)) (nI_mul10 _ _)) pI_cI a1 (by decide) hk (by decide) (Or.inl rfl) (l_retZ (v := true) pI_cI ⟨rfl, rfl, q1, s0.tr (ron_set (by decide) (by decide))⟩)
  · unfold leS
    split
    · exact ⟨hO.set hO.av.del, by show znl a + znr a ≤ _; omega⟩
    · exact ⟨hO, Nat.le_add_right _ _⟩
/-- holder h takes what holder q has, j places of it -/
def aCps (q h : Nat) (ab : AB) : Nat → AB
  | 0 => ab
  | j + 1 => aCpy (10 * q + j) (10 * h + j) (aCps q h ab j)
def aDls (h : Nat) (ab : AB) : Nat → AB
  | 0 => ab
  | j + 1 => aDel (10 * h + j) (aDls h ab j)
theorem AV.cps {kn q h : Nat} {ab : AB} (hv : AV kn ab) (hq : q < 16) {j : Nat} (hj : j ≤ 10) : AV kn (aCps q h ab j) := by
  induction j with
  | zero => exact hv
  | succ j ih => exact (ih (by omega)).cpy (by omega)
theorem AV.dls {kn h : Nat} {ab : AB} (hv : AV kn ab) {j : Nat} : AV kn (aDls h ab j) := by
  induction j with
  | zero => exact hv
  | succ j ih => exact ih.del
theorem sp_take {L : Nat} {xs : Nat → Int32} {a : AS} {M : Mm} {h q : Nat} (hS : CSt L xs a M) (hh : h < 16) (hq : q < 16) (hB : znl a + znr a ≤ 300000) : wF F_X10_take [.ref (YA h), .ref (YA q)] M fun v M' => v = none ∧ CSt L xs (zSet a (znl a) (znr a) (aCps q h (zab a) 10)) M' ∧ FrH h M M' := by
  have hBC : BC = 700000 := rfl
  refine wF_b rfl (Nat.le_of_ble_eq_true rfl) ?_
  refine q_for 10 (fun j L' M1 => L' = [some (.ref (YA h)), some (.ref (YA q)), some (.int (nI j))] ∧ CSt L xs (zSet a (znl a) (znr a) (aCps q h (zab a) j)) M1 ∧ FrH h M M1) rfl (a := 0) rfl rfl (by decide) (by decide) ⟨rfl, hS, fun _ _ _ _ => rfl⟩ ?_ ?_ ?_
  · rintro j L' M1 ⟨rfl, -⟩
    rfl
  · rintro j L' M1 hj ⟨rfl, c1, c2⟩
    obtain ⟨s, hC, hA⟩ := c1.1.rep
    have m1 := c1.1.2.2.2.2.2.2.1
    have m2 := c1.1.2.2.2.2.2.2.2
    obtain ⟨fl, hF, hf⟩ := hC.1 q hq
    have p1 := pA_gA (t := 4) (L := [some (.ref (YA h)), some (.ref (YA q)), some (.int (nI j))]) (pA_fA (k := 1) (pA_lA (i := 1) rfl) (c1.1.1.ya hq) rfl) (pI_lI (i := 2) rfl) hF (inb_nI hj (by decide))
    rw [nI_clamp (by omega), hf j hj] at p1
    have hst := setL_rep c1.1.1 hC hh hj (nf s (10 * q + j)) (Or.inr ⟨_, by omega, rfl⟩) (by rw [m1]; show 97 + 2 * (znl a + znr a) + L % 1024 ≤ BC; omega)
    refine wS_exV (wV_V (wR_A (wA_p (pA_lA rfl) (wR_I (wI_p (pI_lI rfl) (wR_A (wA_p p1 (wR_0 ⟨isR_of (c1.1.1.ya hh), hst.mono ?_⟩))))))))
    rintro v M' ⟨rfl, d1, d2, d3, d4⟩
    exact ⟨rfl, Or.inr ⟨by decide, by decide, rfl, rfl, rfl, c1.put hh d1 (AB.cp hA (by omega)) (d2.trans m1) (by rw [d3]; exact m2) d4, c2.tr d4⟩⟩
  · rintro L' M1 ⟨rfl, c1, c2⟩
    exact wS_retV ⟨rfl, rfl, c1, c2⟩
theorem sp_clear {L : Nat} {xs : Nat → Int32} {a : AS} {M : Mm} {h : Nat} (hS : CSt L xs a M) (hh : h < 16) (hB : znl a + znr a ≤ 300000) : wF F_X10_clear [.ref (YA h)] M fun v M' => v = none ∧ CSt L xs (zSet a (znl a) (znr a) (aDls h (zab a) 10)) M' ∧ FrH h M M' := by
  have hBC : BC = 700000 := rfl
  refine wF_b rfl (Nat.le_of_ble_eq_true rfl) ?_
  refine q_for 10 (fun j L' M1 => L' = [some (.ref (YA h)), some (.int (nI j))] ∧ CSt L xs (zSet a (znl a) (znr a) (aDls h (zab a) j)) M1 ∧ FrH h M M1) rfl (a := 0) rfl rfl (by decide) (by decide) ⟨rfl, hS, fun _ _ _ _ => rfl⟩ ?_ ?_ ?_
  · rintro j L' M1 ⟨rfl, -⟩
    rfl
  · rintro j L' M1 hj ⟨rfl, c1, c2⟩
    obtain ⟨s, hC, hA⟩ := c1.1.rep
    have m1 := c1.1.2.2.2.2.2.2.1
    have m2 := c1.1.2.2.2.2.2.2.2
    have hst := setL_rep c1.1.1 hC hh hj none (Or.inl rfl) (by rw [m1]; show 97 + 2 * (znl a + znr a) + L % 1024 ≤ BC; omega)
    refine wS_exV (wV_V (wR_A (wA_p (pA_lA rfl) (wR_I (wI_p (pI_lI rfl) (wR_A (wA_cN (wR_0 ⟨isR_of (c1.1.1.ya hh), hst.mono ?_⟩))))))))
    rintro v M' ⟨rfl, d1, d2, d3, d4⟩
    exact ⟨rfl, Or.inr ⟨by decide, by decide, rfl, rfl, rfl, c1.put hh d1 (Ag_del hA (by omega) SPl.put) (d2.trans m1) (by rw [d3]; exact m2) d4, c2.tr d4⟩⟩
  · rintro L' M1 ⟨rfl, c1, c2⟩
    exact wS_retV ⟨rfl, rfl, c1, c2⟩
theorem sp_copy {L : Nat} {xs : Nat → Int32} {a : AS} {M : Mm} {h q : Nat} (hS : RSt L xs a M) (hh : h < 16) (hq : q < 16) : wF F_X12_copy [.ref 69, .int (nI q), .int (nI h)] M fun v M' => v = none ∧ RSt L xs (zSet a (znl a) (znr a) (aCps q h (zab a) 10)) M' ∧ But [75] M M' := by
  refine wF_b rfl (Nat.le_of_ble_eq_true rfl) ?_
  refine q_for 10 (fun j L' M1 => L' = [some (.ref 69), some (.int (nI q)), some (.int (nI h)), some (.int (nI j))] ∧ RSt L xs (zSet a (znl a) (znr a) (aCps q h (zab a) j)) M1 ∧ But [75] M M1) rfl (a := 0) rfl rfl (by decide) (by decide) ⟨rfl, hS, But.rf⟩ ?_ ?_ ?_
  · rintro j L' M1 ⟨rfl, -⟩
    rfl
  · rintro j L' M1 hj ⟨rfl, c1, c2⟩
    obtain ⟨th, pm, bm, h69⟩ := id c1.2.2
    obtain ⟨s, hR, hA⟩ := c1.1.rep
    obtain ⟨hd, a1, a2⟩ := hR.1
    have p1 := pI_held (Lc := [some (.ref 69), some (.int (nI q)), some (.int (nI h)), some (.int (nI j))]) (i := 1) (j := 3) h69 hR hq hj rfl rfl rfl
    obtain ⟨q1, q2⟩ := c1.pl (o := nf s (10 * q + j)) (k := 10 * h + j) hR (by omega) (Or.inr ⟨_, by omega, rfl⟩) a1 (AB.cp hA (by omega))
    exact l_pa (j := 10 * h + j) (pA_fA (k := 7) (pA_lA rfl) h69 rfl) (pI_eq (pI_add (pI_mul pI_cI (pI_lI rfl)) (pI_lI rfl)) (nI_mul10 _ _)) p1 a1 (by decide) (by omega) (by decide) (Or.inl rfl) (Or.inr ⟨by decide, by decide, rfl, rfl, rfl, q1, c2.set (by decide)⟩)
  · rintro L' M1 ⟨rfl, c1, c2⟩
    exact wS_retV ⟨rfl, rfl, c1, c2⟩
theorem YA_y {y : Nat} (h : y < 4) : YA y = 17 + 2 * y := if_pos h
def shS (y u : Int32) (a : AS) : Int32 × AS := if (isY y && isY u) = true then (1, zSet a (znl a) (znr a) (aCps y.toNatClampNeg u.toNatClampNeg (zab a) 10)) else (0, a)
theorem ok2_share (L : Nat) (xs : Nat → Int32) (y u : Int32) : OK2 (Inv2 L xs) F_X11_share F_X12_share [.int y, .int u] := by
  refine ok2_of (shS y u) (fun a M hO hb h => ?_) (fun a M hO hb h => wF_b rfl (Nat.le_of_ble_eq_true rfl) (r_st h rfl fun M0 h0 s0 => ?_)) (fun a hO => ?_)
  · unfold shS
    refine wF_b rfl (Nat.le_of_ble_eq_true rfl) (q_if (pC_eq (pC_or (pC_not (pC_nz (pI_vS (pR_I (pI_lI rfl) pR_0) (sp_isYardC _ _)))) (pC_not (pC_nz (pI_vS (pR_I (pI_lI rfl) pR_0) (sp_isYardC _ _))))) (not_or_n _ _)) (fun hb1 => ?_) (fun hb1 => ?_))
    · rw [Bool.not_eq_true'] at hb1
      rw [if_neg (by rw [hb1]; decide)]
      exact q_retZ (v := false) pI_cI ⟨rfl, rfl, h, COn.rf⟩
    · rw [Bool.not_eq_false'] at hb1
      rw [if_pos hb1]
      obtain ⟨g1, g2⟩ := Bool.and_eq_true_iff.mp hb1
      obtain ⟨yn, hy, rfl⟩ := isY_nat g1
      obtain ⟨un, hu, rfl⟩ := isY_nat g2
      rw [nI_clamp (by omega), nI_clamp (by omega)]
      have ht := sp_take h (h := un) (q := yn) (by omega) (by omega) (by omega)
      rw [YA_y hy, YA_y hu] at ht
      refine q_ex (wV_Vw (pR_A (pA_yard h.1.1 h.1.o5 hu rfl rfl) (pR_A (pA_yard h.1.1 h.1.o5 hy rfl rfl) pR_0)) (h.1.y hu) (ht.mono ?_))
      rintro v M' ⟨rfl, d1, d2⟩
      exact ⟨rfl, l_retZ (v := true) pI_cI ⟨rfl, rfl, d1, d2.con (by omega)⟩⟩
  · unfold shS
    obtain ⟨th, pm, bm, h69⟩ := id h0.2.2
    refine q_if (pC_eq (pC_or (pC_not (pC_nz (pI_vS (pR_I (pI_lI rfl) pR_0) (sp_isYardR _ _)))) (pC_not (pC_nz (pI_vS (pR_I (pI_lI rfl) pR_0) (sp_isYardR _ _))))) (not_or_n _ _)) (fun hb1 => ?_) (fun hb1 => ?_)
    · rw [Bool.not_eq_true'] at hb1
      rw [if_neg (by rw [hb1]; decide)]
      exact q_retZ (v := false) pI_cI ⟨rfl, rfl, h0, s0⟩
    · rw [Bool.not_eq_false'] at hb1
      rw [if_pos hb1]
      obtain ⟨g1, g2⟩ := Bool.and_eq_true_iff.mp hb1
      obtain ⟨yn, hy, rfl⟩ := isY_nat g1
      obtain ⟨un, hu, rfl⟩ := isY_nat g2
      rw [nI_clamp (by omega), nI_clamp (by omega)]
      refine q_ex (wV_Vw (pR_A (pA_lA rfl) (pR_I (pI_lI rfl) (pR_I (pI_lI rfl) pR_0))) h69 ((sp_copy h0 (h := un) (q := yn) (by omega) (by omega)).mono ?_))
      rintro v M' ⟨rfl, d1, d2⟩
      exact ⟨rfl, l_retZ (v := true) pI_cI ⟨rfl, rfl, d1, s0.tr (d2.ron (by decide))⟩⟩
  · unfold shS
    split
    · rename_i hb1
      obtain ⟨g1, g2⟩ := Bool.and_eq_true_iff.mp hb1
      obtain ⟨yn, hy, rfl⟩ := isY_nat g1
      rw [nI_clamp (by omega)]
      exact ⟨hO.set (hO.av.cps (by omega) (Nat.le_refl _)), by show znl a + znr a ≤ _; omega⟩
    · exact ⟨hO, Nat.le_add_right _ _⟩
