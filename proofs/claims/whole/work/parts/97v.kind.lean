/-! kind, product, box again, over the state without cells -/
def zKi (a : AS) (kn : Nat) (K : Nat → Nat → Int32) : AS := (kn, K, zbx a, zkp a, zfe a, zfl a, znl a, znr a, zab a)
def zBx (a : AS) (b : Nat → Nat → Int32) : AS := (zkn a, zK a, b, zkp a, zfe a, zfl a, znl a, znr a, zab a)
section KB
variable {L : Nat} {xs : Nat → Int32} {a : AS} {M M' : Mm}
theorem But.all {S T : List Nat} (h : But S M M') (hd : ∀ b ∈ T, b ∉ S) {b : Nat} (hb : b ∈ T) : M'.2.2 b = M.2.2 b := h.2.2 b (hd b hb)
theorem CSt.ki {kn : Nat} {K : Nat → Nat → Int32} (h : CSt L xs a M) (hb : But [7, 8, 9, 10, 11, 12] M M') (c7 : M'.2.2 7 = kC kn) (c8 : M'.2.2 8 = aI 0 31 (K 0)) (c9 : M'.2.2 9 = aI 0 31 (K 1)) (c10 : M'.2.2 10 = aI 0 31 (K 2)) (c11 : M'.2.2 11 = aI 0 31 (K 3)) (c12 : M'.2.2 12 = aI 1 31 (K 4)) : CSt L xs (zKi a kn K) M' := by
  obtain ⟨⟨a1, -, ⟨b0, b1⟩, c, ⟨d0, d1, d2⟩, ⟨sc, e1, e2⟩, g1, g2⟩, ⟨v1, q1⟩, ⟨v2, q2⟩, ⟨v3, q3⟩, ⟨v4, q4⟩, q5, ⟨f6, q6⟩⟩ := h
  have s : ∀ b, b ∉ [7, 8, 9, 10, 11, 12] → M'.2.2 b = M.2.2 b := hb.2.2
  refine ⟨⟨GFx.fr (M := M) (sm_but hb (by decide)) a1, ⟨c7, c8, c9, c10, c11, c12⟩, ⟨(s _ (by decide)).trans b0, (s _ (by decide)).trans b1⟩, (s _ (by decide)).trans c, ⟨(s _ (by decide)).trans d0, (s _ (by decide)).trans d1, (s _ (by decide)).trans d2⟩, ⟨sc, CRep.fr (M := M) (Nat.le_of_eq hb.1.symm) (sm_but hb (by decide)) e1, e2⟩, hb.1.trans g1, by rw [hb.2.1]; exact g2⟩,
    ⟨v1, (s _ (by decide)).trans q1⟩, ⟨v2, (s _ (by decide)).trans q2⟩, ⟨v3, (s _ (by decide)).trans q3⟩, ⟨v4, (s _ (by decide)).trans q4⟩, fun b hb => ?_, ⟨f6, (s _ (by decide)).trans q6⟩⟩
  obtain ⟨g, hg⟩ := q5 b hb
  have all : ∀ b ∈ [52, 53, 55, 56, 58, 59, 61, 63, 65, 66], b ∉ [7, 8, 9, 10, 11, 12] := by decide
  exact ⟨g, (s b (all b hb)).trans hg⟩
theorem CSt.bx {B : Nat → Nat → Int32} (h : CSt L xs a M) (hb : But [14, 15] M M') (c14 : M'.2.2 14 = aI 0 3 (B 0)) (c15 : M'.2.2 15 = aI 0 3 (B 1)) : CSt L xs (zBx a B) M' := by
  obtain ⟨⟨a1, ⟨k0, k1, k2, k3, k4, k5⟩, -, c, ⟨d0, d1, d2⟩, ⟨sc, e1, e2⟩, g1, g2⟩, ⟨v1, q1⟩, ⟨v2, q2⟩, ⟨v3, q3⟩, ⟨v4, q4⟩, q5, ⟨f6, q6⟩⟩ := h
  have s : ∀ b, b ∉ [14, 15] → M'.2.2 b = M.2.2 b := hb.2.2
  refine ⟨⟨GFx.fr (M := M) (sm_but hb (by decide)) a1, ⟨(s _ (by decide)).trans k0, (s _ (by decide)).trans k1, (s _ (by decide)).trans k2, (s _ (by decide)).trans k3, (s _ (by decide)).trans k4, (s _ (by decide)).trans k5⟩, ⟨c14, c15⟩, (s _ (by decide)).trans c, ⟨(s _ (by decide)).trans d0, (s _ (by decide)).trans d1, (s _ (by decide)).trans d2⟩, ⟨sc, CRep.fr (M := M) (Nat.le_of_eq hb.1.symm) (sm_but hb (by decide)) e1, e2⟩, hb.1.trans g1, by rw [hb.2.1]; exact g2⟩,
    ⟨v1, (s _ (by decide)).trans q1⟩, ⟨v2, (s _ (by decide)).trans q2⟩, ⟨v3, (s _ (by decide)).trans q3⟩, ⟨v4, (s _ (by decide)).trans q4⟩, fun b hb => ?_, ⟨f6, (s _ (by decide)).trans q6⟩⟩
  obtain ⟨g, hg⟩ := q5 b hb
  have all : ∀ b ∈ [52, 53, 55, 56, 58, 59, 61, 63, 65, 66], b ∉ [14, 15] := by decide
  exact ⟨g, (s b (all b hb)).trans hg⟩
theorem RSt.ki {kn : Nat} {K : Nat → Nat → Int32} {th pm bm : Int32} (h : RSt L xs a M) (hb : But [69, 70, 71, 72, 73, 74] M M') (c69 : M'.2.2 69 = .inr (11, fsRv th kn (znl a) (znr a) pm (zfe a) bm)) (c8 : M'.2.2 70 = aI 0 31 (K 0)) (c9 : M'.2.2 71 = aI 0 31 (K 1)) (c10 : M'.2.2 72 = aI 0 31 (K 2)) (c11 : M'.2.2 73 = aI 0 31 (K 3)) (c12 : M'.2.2 74 = aI 1 31 (K 4)) : RSt L xs (zKi a kn K) M' := by
  obtain ⟨⟨a1, -, ⟨b0, b1⟩, c, ⟨d1, d2⟩, ⟨sr, e1, e2⟩⟩, ⟨h2, ⟨f3, h3⟩, ⟨f4, h4⟩, ⟨f5, h5⟩⟩, -⟩ := h
  have s : ∀ b, b ∉ [69, 70, 71, 72, 73, 74] → M'.2.2 b = M.2.2 b := hb.2.2
  refine ⟨⟨fun b hb => (s b (by simp; omega)).trans (a1 b hb), ⟨c8, c9, c10, c11, c12⟩, ⟨(s _ (by decide)).trans b0, (s _ (by decide)).trans b1⟩, (s _ (by decide)).trans c, ⟨(s _ (by decide)).trans d1, (s _ (by decide)).trans d2⟩, ⟨sr, RRep.fr (M := M) (sm_but hb (by decide)) e1, e2⟩⟩, ⟨fun b hb => ?_, ⟨f3, (s _ (by decide)).trans h3⟩, ⟨f4, (s _ (by decide)).trans h4⟩, ⟨f5, (s _ (by decide)).trans h5⟩⟩, ⟨th, pm, bm, c69⟩⟩
  obtain ⟨g, hg⟩ := h2 b hb
  have all : ∀ b ∈ [85, 86, 88, 89, 90, 93, 94, 95], b ∉ [69, 70, 71, 72, 73, 74] := by decide
  exact ⟨g, (s b (all b hb)).trans hg⟩
theorem RSt.bx {B : Nat → Nat → Int32} {th pm bm : Int32} (h : RSt L xs a M) (hb : But [69, 83, 84] M M') (c69 : M'.2.2 69 = .inr (11, fsRv th (zkn a) (znl a) (znr a) pm (zfe a) bm)) (c14 : M'.2.2 83 = aI 0 3 (B 0)) (c15 : M'.2.2 84 = aI 0 3 (B 1)) : RSt L xs (zBx a B) M' := by
  obtain ⟨⟨a1, ⟨k0, k1, k2, k3, k4⟩, -, c, ⟨d1, d2⟩, ⟨sr, e1, e2⟩⟩, ⟨h2, ⟨f3, h3⟩, ⟨f4, h4⟩, ⟨f5, h5⟩⟩, -⟩ := h
  have s : ∀ b, b ∉ [69, 83, 84] → M'.2.2 b = M.2.2 b := hb.2.2
  refine ⟨⟨fun b hb => (s b (by simp; omega)).trans (a1 b hb), ⟨(s _ (by decide)).trans k0, (s _ (by decide)).trans k1, (s _ (by decide)).trans k2, (s _ (by decide)).trans k3, (s _ (by decide)).trans k4⟩, ⟨c14, c15⟩, (s _ (by decide)).trans c, ⟨(s _ (by decide)).trans d1, (s _ (by decide)).trans d2⟩, ⟨sr, RRep.fr (M := M) (sm_but hb (by decide)) e1, e2⟩⟩, ⟨fun b hb => ?_, ⟨f3, (s _ (by decide)).trans h3⟩, ⟨f4, (s _ (by decide)).trans h4⟩, ⟨f5, (s _ (by decide)).trans h5⟩⟩, ⟨th, pm, bm, c69⟩⟩
  obtain ⟨g, hg⟩ := h2 b hb
  have all : ∀ b ∈ [85, 86, 88, 89, 90, 93, 94, 95], b ∉ [69, 83, 84] := by decide
  exact ⟨g, (s b (all b hb)).trans hg⟩
end KB
def kiK (K : Nat → Nat → Int32) (n : Nat) (w s l o b : Int32) : Nat → Nat → Int32 := fun i => if i = 0 then upd (K 0) n w else if i = 1 then upd (K 1) n s else if i = 2 then upd (K 2) n l else if i = 3 then upd (K 3) n o else upd (K 4) n b
def kiS (w s l o b : Int32) (a : AS) : Int32 × AS := if refC (nI (zkn a)) w s l o = true then (-1, a) else (nI (zkn a + 1), zKi a (zkn a + 1) (kiK (zK a) (zkn a + 1) w s l o b))
theorem cOK_mono {kn : Nat} {v : Int32} (h : cOK kn v) : cOK (kn + 1) v := by
  rcases h with h | h | ⟨h1, h2⟩
  · exact Or.inl h
  · exact Or.inr (Or.inl h)
  · exact Or.inr (Or.inr ⟨h1, by omega⟩)
theorem refC_ok {kn : Nat} {w s l o : Int32} (hk : kn ≤ 30) (h : refC (nI kn) w s l o = false) : kn < 30 ∧ 1 ≤ w.toInt ∧ w.toInt ≤ 10000 ∧ 0 ≤ s.toInt ∧ s.toInt ≤ 1000000 ∧ 0 ≤ l.toInt ∧ l.toInt ≤ 15 ∧ 1 ≤ o.toInt ∧ o.toInt ≤ 16 := by
  simp only [refC, oGe, oLt, oGt, Bool.or_eq_false_iff, decide_eq_false_iff_not, Int32.le_iff_toInt_le, Int32.lt_iff_toInt_lt, nI_toInt (n := kn) (show kn < 2 ^ 31 by omega)] at h
  have e1 : (30 : Int32).toInt = 30 := rfl
  have e2 : (1 : Int32).toInt = 1 := rfl
  have e3 : (10000 : Int32).toInt = 10000 := rfl
  have e4 : (0 : Int32).toInt = 0 := rfl
  have e5 : (1000000 : Int32).toInt = 1000000 := rfl
  have e6 : (15 : Int32).toInt = 15 := rfl
  have e7 : (16 : Int32).toInt = 16 := rfl
  omega
theorem ok2_kind (L : Nat) (xs : Nat → Int32) (w s l o b : Int32) (hb01 : b = 0 ∨ b = 1) : OK2 (Inv2 L xs) F_X11_kind F_X12_kind [.int w, .int s, .int l, .int o, .int b] := by
  refine ok2_of (kiS w s l o b) (fun a M hO hb h => ?_) (fun a M hO hb h => ?_) (fun a hO => ?_)
  · unfold kiS
    refine wF_b rfl (Nat.le_of_ble_eq_true rfl) (wS_retI (wI_vVw (pR_A (pA_kinds h.1 rfl) (pR_I (pI_lI rfl) (pR_I (pI_lI rfl) (pR_I (pI_lI rfl) (pR_I (pI_lI rfl) (pR_I (pI_lI rfl) pR_0)))))) h.1.k7 ((sp_add hO.1 h.1.k7 h.1.2.1.2.1 h.1.2.1.2.2.1 h.1.2.1.2.2.2.1 h.1.2.1.2.2.2.2.1 h.1.2.1.2.2.2.2.2 hb01).mono ?_)))
    rintro v M1 ⟨hA, hB⟩
    cases hr : refC (nI (zkn a)) w s l o with
    | true =>
      obtain ⟨rfl, rfl⟩ := hA hr
      exact ⟨_, rfl, rfl, rfl, h, COn.rf⟩
    | false =>
      obtain ⟨rfl, hlt, hbut, c7, c8, c9, c10, c11, c12⟩ := hB hr
      exact ⟨_, rfl, rfl, rfl, h.ki hbut c7 c8 c9 c10 c11 c12, hbut.con (by decide)⟩
  · unfold kiS
    obtain ⟨th, pm, bm, h69⟩ := id h.2.2
    refine (sp_kindR hO.1 h69 h.1.2.1.1 h.1.2.1.2.1 h.1.2.1.2.2.1 h.1.2.1.2.2.2.1 h.1.2.1.2.2.2.2 hb01).mono ?_
    rintro v M1 ⟨hA, hB⟩
    rw [← ref_eq hO.1] at hA hB
    cases hr : refC (nI (zkn a)) w s l o with
    | true =>
      obtain ⟨rfl, rfl⟩ := hA hr
      exact ⟨rfl, h.set69, ron_set (by decide) (by decide)⟩
    | false =>
      obtain ⟨rfl, hbut, c69, c8, c9, c10, c11, c12⟩ := hB hr
      exact ⟨rfl, h.ki hbut c69 c8 c9 c10 c11 c12, hbut.ron (by decide)⟩
  · unfold kiS
    split
    · exact ⟨hO, Nat.le_add_right _ _⟩
    · rename_i hr
      obtain ⟨h1, h2, h3, h4, h5, h6⟩ := hO
      obtain ⟨r0, r1, r2, r3, r4, r5, r6, r7, r8⟩ := refC_ok h1 (Bool.eq_false_iff.mpr hr)
      refine ⟨⟨by show zkn a + 1 ≤ 30; omega, fun k hk1 hk2 => ?_, h3, h4, h5, fun k x u hk hx hu => cOK_mono (h6 k x u hk hx hu)⟩, Nat.le_add_right _ _⟩
      have hk2 : k ≤ zkn a + 1 := hk2
      show 1 ≤ (upd (zK a 0) (zkn a + 1) w k).toInt ∧ (upd (zK a 0) (zkn a + 1) w k).toInt ≤ 10000 ∧ 0 ≤ (upd (zK a 1) (zkn a + 1) s k).toInt ∧ (upd (zK a 1) (zkn a + 1) s k).toInt ≤ 1000000 ∧ 0 ≤ (upd (zK a 2) (zkn a + 1) l k).toInt ∧ (upd (zK a 2) (zkn a + 1) l k).toInt ≤ 15 ∧ 1 ≤ (upd (zK a 3) (zkn a + 1) o k).toInt ∧ (upd (zK a 3) (zkn a + 1) o k).toInt ≤ 16 ∧ (upd (zK a 4) (zkn a + 1) b k = 0 ∨ upd (zK a 4) (zkn a + 1) b k = 1)
      unfold upd
      by_cases e : k = zkn a + 1
      · rw [if_pos e, if_pos e, if_pos e, if_pos e, if_pos e]
        exact ⟨r1, r2, r3, r4, r5, r6, r7, r8, hb01⟩
      · rw [if_neg e, if_neg e, if_neg e, if_neg e, if_neg e]
        exact h2 k hk1 (by omega)
theorem CSt.tab {L : Nat} {xs : Nat → Int32} {a : AS} {M : Mm} (h : CSt L xs a M) : Tab M := h.1.1.tab
theorem RSt.tab {L : Nat} {xs : Nat → Int32} {a : AS} {M : Mm} (h : RSt L xs a M) : Tab M := ⟨h.1.1 1 (by decide), h.1.1 2 (by decide), h.1.1 3 (by decide), h.1.1 4 (by decide)⟩
theorem ok2_product (L : Nat) (xs : Nat → Int32) (t s : Int32) : OK2 (Inv2 L xs) F_X11_product F_X12_product [.int t, .int s] := by
  refine ok2_rd (fun a => prV t s) (fun a M _ _ h => wF_of (sp_productC h.tab) ⟨rfl, h, COn.rf⟩) (fun a M _ _ h => wF_b rfl (Nat.le_of_ble_eq_true rfl) (r_st h rfl fun M0 h0 s0 => ?_))
  obtain ⟨th, pm, bm, h69⟩ := id h0.2.2
  refine l_ret (v := prV t s) (pI_tD (b := isT t && isT s) (x := aft t s) (pC_and (pC_nz (pI_vS (pR_I (pI_lI rfl) pR_0) (sp_isTurnR _ _))) (pC_nz (pI_vS (pR_I (pI_lI rfl) pR_0) (sp_isTurnR _ _)))) (fun hb => ?_) (fun _ => pI_cI)) ⟨rfl, rfl, h0, s0⟩
  obtain ⟨g1, g2⟩ := Bool.and_eq_true_iff.mp hb
  obtain ⟨m, hm, rfl⟩ := turn_nat g1
  obtain ⟨n, hn, rfl⟩ := turn_nat g2
  exact pI_vV (pR_A (pA_lA rfl) (pR_I (pI_lI rfl) (pR_I (pI_lI rfl) pR_0))) h69 (sp_times h0.tab hm hn)
def bxB (B : Nat → Nat → Int32) (t : Int32) : Nat → Nat → Int32 := fun i => if i = 0 then upd (upd (upd (B 0) 0 (t / 1000000)) 1 (dg t 10000)) 2 (dg t 100) else upd (upd (upd (B 1) 0 (dg t 100000)) 1 (dg t 1000)) 2 (dg t 10)
def bxS (t : Int32) (a : AS) : Int32 × AS := if (bxC t || bxC2 t) = true then (0, a) else (1, zBx a (bxB (zbx a) t))
theorem ok2_box (L : Nat) (xs : Nat → Int32) (t : Int32) : OK2 (Inv2 L xs) F_X11_box F_X12_box [.int t] := by
  refine ok2_of (bxS t) (fun a M hO hb h => ?_) (fun a M hO hb h => ?_) (fun a hO => ?_)
  · unfold bxS
    refine wF_b rfl (Nat.le_of_ble_eq_true rfl) (wS_retZ (wI_vVw (pR_A (pA_fA (k := 2) (pA_lA rfl) h.1.o5 rfl) (pR_I (pI_lI rfl) pR_0)) h.1.1.2.1 ((sp_become h.1.1.2.1 h.1.2.2.1.1 h.1.2.2.1.2).mono ?_)))
    rintro v M1 ⟨hA, hB⟩
    cases hr : bxC t with
    | true =>
      obtain ⟨rfl, rfl⟩ := hA hr
      exact ⟨_, rfl, Or.inl rfl, rfl, rfl, h, COn.rf⟩
    | false =>
      obtain ⟨g1, g2⟩ := hB hr
      cases hr2 : bxC2 t with
      | true =>
        obtain ⟨rfl, rfl⟩ := g1 hr2
        exact ⟨_, rfl, Or.inl rfl, rfl, rfl, h, COn.rf⟩
      | false =>
        obtain ⟨rfl, g3, g4, g5⟩ := g2 hr2
        exact ⟨_, rfl, Or.inr rfl, rfl, rfl, h.bx g3 g4 g5, g3.con (by decide)⟩
  · unfold bxS
    obtain ⟨th, pm, bm, h69⟩ := id h.2.2
    refine (sp_boxR h69 h.1.2.2.1.1 h.1.2.2.1.2).mono ?_
    rintro v M1 ⟨hb1, c69, hA, hB⟩
    rw [← bx_eq] at hA hB
    have no : ∀ q : bxC t = true ∨ bxC2 t = true, v = some (.int 0) ∧ RSt L xs a M1 ∧ ROn M M1 := fun q => by
      obtain ⟨k1, k2, k3⟩ := hA q
      exact ⟨k1, h.bx (B := zbx a) hb1 c69 k2 k3, hb1.ron (by decide)⟩
    cases hr : bxC t with
    | true => exact no (Or.inl hr)
    | false =>
      cases hr2 : bxC2 t with
      | true => exact no (Or.inr hr2)
      | false =>
        obtain ⟨k1, k2, k3⟩ := hB hr hr2
        exact ⟨k1, h.bx hb1 c69 k2 k3, hb1.ron (by decide)⟩
  · unfold bxS
    split
    · exact ⟨hO, Nat.le_add_right _ _⟩
    · rename_i hq
      obtain ⟨h1, h2, h3, h4, h5, h6⟩ := hO
      obtain ⟨q1, q2⟩ := Bool.or_eq_false_iff.mp (Bool.eq_false_iff.mpr hq)
      have h0 : 0 ≤ t.toInt := bx_pos ((bx_eq t).symm.trans q1)
      simp only [bxC2, oGt, Bool.or_eq_false_iff, decide_eq_false_iff_not, Int32.lt_iff_toInt_lt] at q2
      obtain ⟨⟨u1, u2⟩, u3⟩ := q2
      have w1 := dg_in (t := t) (a := 100000) (n := 100000) rfl (by decide) h0
      have w2 := dg_in (t := t) (a := 1000) (n := 1000) rfl (by decide) h0
      have w3 := dg_in (t := t) (a := 10) (n := 10) rfl (by decide) h0
      have w4 := dg_in (t := t) (a := 10000) (n := 10000) rfl (by decide) h0
      have w5 := dg_in (t := t) (a := 100) (n := 100) rfl (by decide) h0
      have w6 : 0 ≤ (t / 1000000).toInt := by rw [dvI (n := 1000000) rfl (by decide) h0]; exact Int.ediv_nonneg h0 (by decide)
      refine ⟨⟨h1, h2, fun i hi => ?_, h4, h5, h6⟩, Nat.le_add_right _ _⟩
      rcases (show i = 0 ∨ i = 1 ∨ i = 2 by omega) with rfl | rfl | rfl
      · show 0 ≤ (t / 1000000).toInt ∧ (t / 1000000).toInt ≤ (dg t 100000).toInt ∧ (dg t 100000).toInt ≤ 9
        exact ⟨w6, by omega, w1.2⟩
      · show 0 ≤ (dg t 10000).toInt ∧ (dg t 10000).toInt ≤ (dg t 1000).toInt ∧ (dg t 1000).toInt ≤ 9
        exact ⟨w4.1, by omega, w2.2⟩
      · show 0 ≤ (dg t 100).toInt ∧ (dg t 100).toInt ≤ (dg t 10).toInt ∧ (dg t 10).toInt ≤ 9
        exact ⟨w5.1, by omega, w3.2⟩
