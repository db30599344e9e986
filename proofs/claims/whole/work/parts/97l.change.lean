/-! the class's changes of places and cells -/
def YA (h : Nat) : Nat := if h < 4 then 17 + 2 * h else 18 + 2 * h
theorem LA_YA (h : Nat) : LA h = YA h + 1 := by unfold LA YA; split <;> omega
theorem YA_lt {h : Nat} (hh : h < 16) : YA h < 97 ∧ 6 < YA h := by unfold YA; split <;> omega
theorem GFx.ya {L : Nat} {xs : Nat → Int32} {M : Mm} (hG : GFx L xs M) {h : Nat} (hh : h < 16) : M.2.2 (YA h) = .inr (9, [.ref 6, .ref (LA h)]) := by
  rw [LA_YA]
  unfold YA
  by_cases e : h < 4
  · rw [if_pos e]
    have := hG.2.2.2.1 h e
    rw [show 18 + 2 * h = 17 + 2 * h + 1 by omega] at this
    exact this
  · rw [if_neg e]
    have := hG.2.2.2.2.2.1 (h - 4) (by omega)
    rw [show 26 + 2 * (h - 4) = 18 + 2 * h by omega, show 27 + 2 * (h - 4) = 18 + 2 * h + 1 by omega] at this
    exact this
def zSet (a : AS) (nl nr : Nat) (ab : AB) : AS := (zkn a, zK a, zbx a, zkp a, zfe a, zfl a, nl, nr, ab)
/-- of the cells below 97 only the ledger and holder h's layers differ -/
def FrH (h : Nat) (M M' : Mm) : Prop := ∀ b, b < 97 → b ≠ 6 → b ≠ LA h → M'.2.2 b = M.2.2 b
theorem FrH.tr {h : Nat} {M M1 M2 : Mm} (f : FrH h M M1) (g : FrH h M1 M2) : FrH h M M2 := fun b h1 h2 h3 => (g b h1 h2 h3).trans (f b h1 h2 h3)
theorem FrH.con {h : Nat} {M M' : Mm} (f : FrH h M M') (hh : h < 16) : COn M M' := fun b hb => f b (by omega) (by omega) (by unfold LA; split <;> omega)
theorem CSt.put {L : Nat} {xs : Nat → Int32} {a : AS} {M M' : Mm} {s' : SN} {nl' nr' h : Nat} {ab' : AB} (hS : CSt L xs a M) (hh : h < 16) (hC : CRep M' s' nl' nr') (hA : Ag s' ab') (h1 : M'.1 = 97 + 2 * (nl' + nr') + L % 1024) (h2 : M'.2.1 ≤ 60520 + 12 * (nl' + nr') + 6 * (L % 1024)) (hF : FrH h M M') : CSt L xs (zSet a nl' nr' ab') M' := by
  obtain ⟨⟨a1, ⟨k0, k1, k2, k3, k4, k5⟩, ⟨b0, b1⟩, c, ⟨d0, d1, d2⟩, -⟩, ⟨v1, g1⟩, ⟨v2, g2⟩, ⟨v3, g3⟩, ⟨v4, g4⟩, g5, ⟨f6, g6⟩⟩ := hS
  have hl : ∀ b, (b < 16 ∧ b ≠ 6) ∨ (50 ≤ b ∧ b < 97) → M'.2.2 b = M.2.2 b := fun b hb => hF b (by omega) (by omega) (by unfold LA; split <;> omega)
  refine ⟨⟨a1.mv hF hh, ⟨(hl _ (by decide)).trans k0, (hl _ (by decide)).trans k1, (hl _ (by decide)).trans k2, (hl _ (by decide)).trans k3, (hl _ (by decide)).trans k4, (hl _ (by decide)).trans k5⟩, ⟨(hl _ (by decide)).trans b0, (hl _ (by decide)).trans b1⟩, (hl _ (by decide)).trans c, ⟨(hl _ (by decide)).trans d0, (hl _ (by decide)).trans d1, (hl _ (by decide)).trans d2⟩, ⟨s', hC, hA⟩, h1, h2⟩,
    ⟨v1, (hl _ (by decide)).trans g1⟩, ⟨v2, (hl _ (by decide)).trans g2⟩, ⟨v3, (hl _ (by decide)).trans g3⟩, ⟨v4, (hl _ (by decide)).trans g4⟩, fun b hb => ?_, ⟨f6, (hl _ (by decide)).trans g6⟩⟩
  obtain ⟨f, hf⟩ := g5 b hb
  have all : ∀ b ∈ [52, 53, 55, 56, 58, 59, 61, 63, 65, 66], 50 ≤ b ∧ b < 97 := by decide
  exact ⟨f, (hl b (Or.inr (all b hb))).trans hf⟩
def sPut (s : SN) (k : Nat) (o : Option Nat) : SN := (fun i => if i = k then o else nf s i, s.2)
theorem setL_rep {L : Nat} {xs : Nat → Int32} {M : Mm} {s : SN} {nl nr h z : Nat} (hG : GFx L xs M) (hC : CRep M s nl nr) (hh : h < 16) (hz : z < 10) (lo : Option Nat) (hlo : lo = none ∨ ∃ q, q < 160 ∧ nf s q = lo) (hB : M.1 ≤ BC) : wF F_X10_setLayer [.ref (YA h), .int (nI z), va_rf lo] M fun v M' =>
    v = none ∧ CRep M' (sPut s (10 * h + z) lo) nl nr ∧ M'.1 = M.1 ∧ M'.2.1 = M.2.1 ∧ FrH h M M' := by
  have hk : 10 * h + z < 160 := by omega
  obtain ⟨fl, hF, hf⟩ := hC.1 h hh
  have y1 := YA_lt hh
  have y2 := LA_lt hh
  have hDl : ∀ l, lo = some l → DLs s l := fun l hl => by
    rcases hlo with e | ⟨q, hq, e⟩
    · rw [e] at hl; cases hl
    · exact ⟨q, hq, e.trans hl⟩
  refine (sp_setLayer hC.cl (hG.ya hh) y1.1 y2.1 (by omega) (by omega) (by omega) (by rw [LA_YA]; omega) hF hz lo hDl (fun l hl => ?_) hB (fun l => by have := hcnt_le s l; omega)).mono ?_
  · rw [hf z hz] at hl
    exact ⟨⟨_, hk, hl⟩, hcnt_pos hk hl⟩
  · rintro v M' ⟨rfl, d1, d2, d3⟩
    have q1 : nf (sPut s (10 * h + z) lo) (10 * h + z) = lo := if_pos rfl
    have q2 : ∀ j, j < 160 → j ≠ 10 * h + z → nf (sPut s (10 * h + z) lo) j = nf s j := fun j _ hj => if_neg hj
    have hcn : decO (incO (hcnt s) lo) (fl z) = hcnt (sPut s (10 * h + z) lo) := by rw [hf z hz]; exact (hcnt_put hk q1 q2).symm
    rw [hcn] at d1
    refine ⟨rfl, CRep.of (DL := DLs s) (DR := DRs s) d1 (arr_put hh hz hC.1 q1 q2 hf d2 d3.2.2) (fun j m hj hm => ?_) ?_, d3.1, d3.2.1, d3.2.2⟩
    · by_cases ej : j = 10 * h + z
      · rw [ej, q1] at hm
        exact hDl m hm
      · rw [q2 j hj ej] at hm
        exact ⟨j, hj, hm⟩
    · rw [RowX_iff]
      have hrw : ∀ j y, j < 160 → ∃ i, i < 160 ∧ ∀ r, rwo (sPut s (10 * h + z) lo) j y = some r → rwo s i y = some r := fun j y hj => by
        by_cases ej : j = 10 * h + z
        · rcases hlo with e | ⟨q, hq, e⟩
          · exact ⟨0, by decide, fun r hr => by rw [rwo_none (by rw [ej, q1, e])] at hr; cases hr⟩
          · refine ⟨q, hq, fun r hr => ?_⟩
            cases hm : lo with
            | none => rw [rwo_none (by rw [ej, q1, hm])] at hr; cases hr
            | some m =>
              rw [rwo_some (by rw [ej, q1, hm])] at hr
              rw [rwo_some (e.trans hm)]
              exact hr
        · refine ⟨j, hj, fun r hr => ?_⟩
          cases hm : nf s j with
          | none => rw [rwo_none ((q2 j hj ej).trans hm)] at hr; cases hr
          | some m =>
            rw [rwo_some ((q2 j hj ej).trans hm)] at hr
            rw [rwo_some hm]
            exact hr
      intro j j' x x' r hj hj' hx hx' h1 h2
      obtain ⟨i, hi, e1⟩ := hrw j x hj
      obtain ⟨i', hi', e2⟩ := hrw j' x' hj'
      exact RowX_iff.mp hC.2.2.2 i i' x x' r hi hi' hx hx' (e1 r h1) (e2 r h2)
def sCel (s : SN) (r w : Nat) (v : Int32) : SN := (nf s, ng s, nln s, fun q u => if q = r ∧ u = w then v else ncd s q u)
theorem CRep.cel {M : Mm} {s : SN} {nl nr k x r w : Nat} {v : Int32} {cr : Nat → Int32} (hC : CRep M s nl nr) (hk : k < 160) (hx : x < 10) (hr : rwo s k x = some r) (hv : codeOk v) (hcr : M.2.2 (r + 1) = aI 0 (nln s r) cr) : CRep (setC M (r + 1) (aI 0 (nln s r) (upd cr w v))) (sCel s r w v) nl nr := by
  obtain ⟨r1, r2, r3, r4, cr', r5, r6⟩ := hC.cl.1.2 r ⟨k, x, hk, hx, hr⟩
  have ec : cr' = cr := by rw [r5] at hcr; injection hcr with hcr; injection hcr with _ hcr; injection hcr with _ hcr; injection hcr with hcr
  subst ec
  have h1 := hC.cl
  refine CRep.of (DL := DLs s) (DR := DRs s) ⟨⟨fun l hl => ?_, fun q hq => ?_⟩, (get_ne (by omega)).trans h1.2⟩ (fun h hh => ?_) (fun j m hj hm => ⟨j, hj, hm⟩) hC.2.2.2
  · obtain ⟨⟨a1, a2, a3, gl, a4, a5⟩, a6⟩ := h1.1.1 l hl
    exact ⟨⟨a1, a2, (get_ne (fun e => by rw [e, r5] at a3; cases a3)).trans a3, gl, (get_ne (fun e => by rw [e, r5] at a4; simp at a4)).trans a4, a5⟩, a6⟩
  · obtain ⟨a1, a2, a3, a4, cq, a5, a6⟩ := h1.1.2 q hq
    have e1 : (setC M (r + 1) (aI 0 (nln s r) (upd cr' w v))).2.2 q = .inr (7, [.ref (q + 1), .int (nI (rcF (ng s) (hcnt s) q))]) := (get_ne (fun e => by rw [e, r5] at a3; cases a3)).trans a3
    by_cases e : q = r
    · subst e
      refine ⟨a1, a2, e1, a4, _, get_at, fun u hu => ?_⟩
      show upd cr' w v u = (if q = q ∧ u = w then v else ncd s q u) ∧ _
      unfold upd
      by_cases eu : u = w
      · rw [if_pos eu, if_pos ⟨rfl, eu⟩]
        exact ⟨rfl, hv⟩
      · rw [if_neg eu, if_neg (fun t => eu t.2)]
        exact r6 u hu
    · refine ⟨a1, a2, e1, a4, cq, (get_ne (by omega)).trans a5, fun u hu => ?_⟩
      show cq u = (if q = r ∧ u = w then v else ncd s q u) ∧ _
      rw [if_neg (fun t => e t.1)]
      exact a6 u hu
  · obtain ⟨fl, f1, f2⟩ := hC.1 h hh
    have := LA_lt hh
    exact ⟨fl, (get_ne (by omega)).trans f1, f2⟩
theorem SSet.cel {s s' : SN} {k x l l' r' w : Nat} {v : Int32} (h : SSet s s' k x l l' r') : SSet s (sCel s' r' w v) k x l l' r' := by
  obtain ⟨e1, e2, e3, e4, e5, e6⟩ := h
  refine ⟨e1, e2, e3, e4, e5, fun j y q u hj hy hu hq hne => ⟨(e6 j y q u hj hy hu hq hne).1, ?_⟩⟩
  show (if q = r' ∧ u = w then v else ncd s' q u) = _
  rw [if_neg (fun t => hne t.1)]
  exact (e6 j y q u hj hy hu hq hne).2
def chB (ab : AB) (y c : Nat) (v : Int32) : Bool := !(oEq (cdA ab y c) (-1) || oEq (cdA ab y c) v)
/-- cell c of yard y gets code v -/
def zch (y c : Nat) (v : Int32) (a : AS) : AS := if chB (zab a) y c v = true then zSet a (znl a + b2n (shL (zab a) (10 * y + c / 100))) (znr a + b2n (shR (zab a) (10 * y + c / 100) (c / 10 % 10))) (aSet (10 * y + c / 100) (c / 10 % 10) (fun u => if u = c % 10 then v else aat (zab a) (10 * y + c / 100) (c / 10 % 10) u) (zab a)) else a
theorem sp_changeC {L : Nat} {xs : Nat → Int32} {a : AS} {M : Mm} {y c : Nat} {v : Int32} (h : CSt L xs a M) (hy : y < 4) (hc : c < 1000) (hv : codeOk v) (hB : znl a + znr a ≤ 300000) : wF F_X10_change [.ref (17 + 2 * y), .int (nI c), .int v] M fun r M' => r = some (.int (bz (chB (zab a) y c v))) ∧ CSt L xs (zch y c v a) M' ∧ FrH y M M' := by
  have hBC : BC = 700000 := rfl
  have hz : c / 100 < 10 := by omega
  have hx : c / 10 % 10 < 10 := by omega
  have hw : c % 10 < 10 := by omega
  have hk : 10 * y + c / 100 < 160 := by omega
  obtain ⟨s, hC, hA⟩ := h.1.rep
  have hY := h.1.y hy
  have m1 := h.1.2.2.2.2.2.2.1
  have m2 := h.1.2.2.2.2.2.2.2
  refine wF_b rfl (Nat.le_of_ble_eq_true rfl) (q_I rfl (pI_vV (pR_A (pA_lA rfl) (pR_I (pI_lI rfl) pR_0)) hY (sp_codeA h.1 hy hc)) ?_)
  refine q_if (pC_or (pC_kI (pI_lI rfl) pI_cI) (pC_kI (pI_lI rfl) (pI_lI rfl))) (fun hb => ?_) (fun hb => ?_)
  · have e : chB (zab a) y c v = false := by unfold chB; rw [hb]; rfl
    refine q_retZ (v := false) pI_cI ⟨rfl, by rw [e], ?_, fun _ _ _ _ => rfl⟩
    unfold zch
    rw [if_neg (by rw [e]; decide)]
    exact h
  · have e : chB (zab a) y c v = true := by unfold chB; rw [hb]; rfl
    obtain ⟨hb1, hb2⟩ := Bool.or_eq_false_iff.mp hb
    have hne : ¬ aat (zab a) (10 * y + c / 100) (c / 10 % 10) (c % 10) = -1 := of_decide_eq_false hb1
    obtain ⟨l, r, hl, hr, hkr, hwl, -, -, hev⟩ := hA.there hk hx hw hne
    refine q_Aw rfl (wA_vA (wV_V (wR_A (wA_p (pA_lA rfl) (wR_A (wA_vVw (pR_A (pA_lA rfl) (pR_I (pI_vS (pR_I (pI_lI rfl) pR_0) (sp_zOf hc M)) pR_0)) hY ((sp_ownLayer h.1.1 hC hy hz hl (by omega)).mono ?_)))))))
    rintro w0 M0 ⟨l0, s0, rfl, o1, o2, o3, o4, o5⟩
    refine ⟨_, some l0, rfl, rfl, wR_I (wI_p (pI_vS (pR_I (pI_lI rfl) pR_0) (sp_xOf hc M0)) (wR_0 ⟨isR_of ((o5 (17 + 2 * y) (by omega) (by omega) (by omega)).trans hY), (sp_ownRow h.1.1 hC hA hy hz hx hl hr (by omega) o1 o2 o3 o4 o5).mono ?_⟩))⟩
    rintro w M1 ⟨l', r', s', rfl, c1, c2, c3, c4, c5, c6, c7⟩
    refine ⟨_, some r', rfl, rfl, ?_⟩
    have hkr' : rwo s' (10 * y + c / 100) (c / 10 % 10) = some r' := by rw [rwo_some c2.1]; exact c2.2.2.1
    obtain ⟨r1, r2, r3, r4, cr, r5, r6⟩ := c1.cl.1.2 r' ⟨_, _, hk, hx, hkr'⟩
    have hnA : pI (nA (fA 7 0 (lA 4))) (((mkL 5 [.ref (17 + 2 * y), .int (nI c), .int v]).set 3 (some (.int (cdA (zab a) y c)))).set 4 (some (va_rf (some r')))) M1 (nI (nln s' r')) := pI_nA (pA_fA (k := 0) (pA_lA rfl) r3 rfl) r5 (by decide)
    have hlt : oGe (nI (c % 10)) (nI (nln s' r')) = false := by
      rw [oGe_nI (by omega) (by omega), c3]
      exact decide_eq_false (by omega)
    refine q_if (v := false) ?_ (fun q => (by cases q)) (fun _ => ?_)
    · have := pC_or (L := ((mkL 5 [.ref (17 + 2 * y), .int (nI c), .int v]).set 3 (some (.int (cdA (zab a) y c)))).set 4 (some (va_rf (some r')))) (M := M1) (pC_isN (pA_lA (i := 4) (a := r') rfl)) (pC_kI (op := oGe) (pI_vS (pR_I (pI_lI (i := 1) rfl) pR_0) (sp_wOf hc M1)) hnA)
      rw [hlt] at this
      exact this
    refine q_pa (pA_fA (k := 0) (pA_lA rfl) r3 rfl) (pI_vS (pR_I (pI_lI rfl) pR_0) (sp_wOf hc M1)) (pI_lI rfl) r5 (by omega) (by omega) (by omega) (Or.inl rfl) ?_
    refine l_retZ (v := true) pI_cI ⟨rfl, by rw [e], ?_, fun b h1 h2 h3 => (get_ne (by omega)).trans (c7 b h1 h2 h3)⟩
    unfold zch
    rw [if_pos e]
    have hb1 : b2n (shL (zab a) (10 * y + c / 100)) ≤ 1 := by unfold b2n; split <;> omega
    refine h.put (h := y) (by omega) (c1.cel hk hx hkr' hv r5) (Ag_set hA hk hx hl c2.cel fun u hu => ?_) (by rw [set_1, c5, m1]; omega) (by rw [set_2]; omega) (fun b h1 h2 h3 => (get_ne (by omega)).trans (c7 b h1 h2 h3))
    show (if u = c % 10 then v else aat (zab a) (10 * y + c / 100) (c / 10 % 10) u) = if u < nln s' r' then (if r' = r' ∧ u = c % 10 then v else ncd s' r' u) else -1
    rw [c3]
    by_cases eu : u = c % 10
    · rw [if_pos eu, if_pos (by omega), if_pos ⟨rfl, eu⟩]
    · rw [if_neg eu, if_neg (c := r' = r' ∧ u = c % 10) (fun t => eu t.2), ((hA _ hk).2.2 _ hx).2.2 u hu]
      unfold cdo
      rw [hkr]
      dsimp only
      by_cases eu2 : u < nln s r
      · rw [if_pos eu2, if_pos eu2, c4 u eu2]
      · rw [if_neg eu2, if_neg eu2]
