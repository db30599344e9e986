/-! a grid read, its list made shorter; neighbours -/
theorem GrC.of {M : Mm} {q : Nat} {g : Nat → Int32} (h : GI M q g 1000) : GrC M q g (bls g 1000) := by
  obtain ⟨h1, ⟨f, h2, h3⟩, h4⟩ := h
  exact ⟨h1, ⟨f, h2, fun c hc => by rw [h3 c hc, if_pos hc]⟩, h4⟩
theorem CCo.scr {L : Nat} {xs : Nat → Int32} {a : AS} {M M' : Mm} {S : List Nat} (h : CCo L xs a M) (hb : But S M M') (hs : ∀ b ∈ S, b ∈ sCs) : CCo L xs a M' := h.fr hb.1 hb.2.1 fun b h1 _ => hb.2.2 b fun q => h1 (hs b q)
theorem sp_read {L : Nat} {xs : Nat → Int32} {a : AS} {M : Mm} {q y : Nat} {v0 : Int32} (h : CCo L xs a M) (hq : q = 51 ∨ q = 54) (hy : y < 4) (o1 : M.2.2 q = .inr (1, [.ref (q + 1), .ref (q + 2), .int v0])) (o2 : ∃ f, M.2.2 (q + 1) = aI 0 1000 f) (o3 : ∃ f, M.2.2 (q + 2) = aI 0 1000 f) :
    wF F_X1_read [.ref q, .ref (17 + 2 * y)] M fun v M' => v = none ∧ But [q, q + 1, q + 2] M M' ∧ GrC M' q (cdA (zab a) y) (bls (cdA (zab a) y) 1000) := by
  obtain ⟨f0, o2⟩ := o2
  obtain ⟨l0, o3⟩ := o3
  have hsub : ∀ b ∈ [q, q + 1, q + 2], b ∈ sCs := by rcases hq with rfl | rfl <;> decide
  have hq2 : 5 ≤ q ∧ q + 2 < 97 := by omega
  refine wF_b rfl (Nat.le_of_ble_eq_true rfl) (q_pf (pA_lA rfl) pI_cI o1 (Nat.le_of_ble_eq_true rfl) ?_)
  refine q_for 1000 (fun j L' M1 => L' = [some (.ref q), some (.ref (17 + 2 * y)), some (.int (nI j)), none] ∧ But [q, q + 1, q + 2] M M1 ∧ M1.2.2 q = .inr (1, [.ref (q + 1), .ref (q + 2), .int (nI 0)]) ∧ M1.2.2 (q + 2) = aI 0 1000 l0 ∧ ∃ f, M1.2.2 (q + 1) = aI 0 1000 f ∧ ∀ c, c < j → f c = -1) rfl (a := 0) rfl rfl (by decide) (by decide)
    ⟨rfl, But.rf.set (by simp), get_at, (get_ne (by omega)).trans o3, f0, (get_ne (by omega)).trans o2, fun c hc => absurd hc (Nat.not_lt_zero c)⟩ ?_ ?_ ?_
  · rintro j L' M1 ⟨rfl, -⟩
    rfl
  · rintro j L' M1 hj ⟨rfl, b1, c1, c2, f, c3, c4⟩
    refine l_pa (j := j) (pA_fA (k := 0) (pA_lA rfl) c1 rfl) (pI_lI rfl) pI_cI c3 (by omega) hj (by decide) (Or.inl rfl) (Or.inr ⟨by decide, by decide, rfl, rfl, rfl, b1.set (by simp), (get_ne (by omega)).trans c1, (get_ne (by omega)).trans c2, _, get_at, fun c hc => ?_⟩)
    unfold upd
    by_cases e : c = j
    · rw [if_pos e]
    · rw [if_neg e]; exact c4 c (by omega)
  rintro L' M1 ⟨rfl, b1, c1, c2, f, c3, c4⟩
  have g0 : GI M1 q (cdA (zab a) y) 0 := ⟨c1, ⟨f, c3, fun c hc => by rw [if_neg (Nat.not_lt_zero c)]; exact c4 c hc⟩, l0, c2, fun i hi => absurd hi (Nat.not_lt_zero i)⟩
  refine q_for 10 (fun z L' M2 => L' = [some (.ref q), some (.ref (17 + 2 * y)), some (.int (nI z)), none] ∧ But [q, q + 1, q + 2] M M2 ∧ GI M2 q (cdA (zab a) y) (10 * (10 * z))) rfl (a := 0) rfl rfl (by decide) (by decide) ⟨rfl, b1, g0⟩ ?_ ?_ ?_
  · rintro j L' M1 ⟨rfl, -⟩
    rfl
  · rintro z L' M2 hz ⟨rfl, b2, d1⟩
    refine l_for 10 (fun x L' M3 => L' = [some (.ref q), some (.ref (17 + 2 * y)), some (.int (nI z)), some (.int (nI x))] ∧ But [q, q + 1, q + 2] M M3 ∧ GI M3 q (cdA (zab a) y) (10 * (10 * z + x))) rfl (a := 0) rfl rfl (by decide) (by decide) ⟨rfl, b2, d1⟩ ?_ ?_ ?_
    · rintro j L' M1 ⟨rfl, -⟩
      rfl
    · rintro x L' M3 hx ⟨rfl, b3, e1⟩
      have hC3 := h.scr b3 hsub
      obtain ⟨s, hC, hA⟩ := hC3.rep
      have hk : 10 * y + z < 160 := by omega
      have hra := sp_rowAt hC3.1 hC hy hz hx
      have hgv : ∀ w, w < 10 → cdA (zab a) y (10 * (10 * z + x) + w) = cdo s (10 * y + z) x w := fun w hw => by
        rw [show 10 * (10 * z + x) + w = 100 * z + 10 * x + w by omega, cdA_at _ hx hw]
        exact ((hA _ hk).2.2 x hx).2.2 w hw
      have ec : nI (100 * z + 10 * x + 0) = nI (10 * (10 * z + x)) := congrArg nI (by omega)
      refine wS_exV (wV_Vw (pR_A (pA_lA rfl) (pR_A (pA_vV (pR_A (pA_lA rfl) (pR_I (pI_lI rfl) (pR_I (pI_lI rfl) pR_0))) (hC3.y hy) hra) (pR_I (pI_eq (pI_vS (pR_I (pI_lI rfl) (pR_I (pI_lI rfl) (pR_I (pI_cI (v := 0)) pR_0))) (sp_cellOf z x 0 M3)) ec) pR_0))) e1.1 ((sp_readRow e1 (by omega) hq2.1 hq2.2 (fun ho w hw => ?_) (fun r hr => ?_)).mono ?_))
      · rw [hgv w hw]
        unfold cdo
        rw [ho]
      · obtain ⟨r1, r2, r3, r4, cr, r5, r6⟩ := hC.cl.1.2 r ⟨_, x, hk, hx, hr⟩
        refine ⟨nln s r, cr, _, r1, r3, r5, r4, fun w hw => ?_, fun w hw1 hw2 => ?_⟩
        · rw [hgv w (by omega)]
          unfold cdo
          rw [hr]
          exact (if_pos hw).trans (r6 w hw).1.symm
        · rw [hgv w hw2]
          unfold cdo
          rw [hr]
          exact if_neg (by omega)
      · rintro v M4 ⟨rfl, k1, k2⟩
        exact ⟨rfl, Or.inr ⟨by decide, by decide, rfl, rfl, rfl, b3.tr k1, k2⟩⟩
    · rintro L' M3 ⟨rfl, b3, e1⟩
      exact Or.inr ⟨by decide, by decide, rfl, rfl, rfl, b3, by rw [show 10 * (10 * (z + 1)) = 10 * (10 * z + 10) by omega]; exact e1⟩
  · rintro L' M2 ⟨rfl, b2, d1⟩
    exact wS_retV ⟨rfl, rfl, b2, GrC.of d1⟩
theorem take_step {l : List Nat} {j : Nat} (hj : j < l.length) : l.take (j + 1) = l.take j ++ [l.getD j 0] := by
  rw [List.take_succ, List.getD_eq_getElem?_getD, List.getElem?_eq_getElem hj]
  rfl
theorem filt_step {l : List Nat} {j : Nat} (p : Nat → Bool) (hj : j < l.length) : (l.take (j + 1)).filter p = (l.take j).filter p ++ if p (l.getD j 0) = true then [l.getD j 0] else [] := by
  rw [take_step hj, List.filter_append, List.filter_cons, List.filter_nil]
theorem getD_mem {l : List Nat} {j : Nat} (hj : j < l.length) : l.getD j 0 ∈ l := by
  rw [List.getD_eq_getElem?_getD, List.getElem?_eq_getElem hj]
  exact List.getElem_mem hj
theorem filt_len (l : List Nat) (p : Nat → Bool) (j : Nat) : ((l.take j).filter p).length ≤ j := Nat.le_trans (List.length_filter_le _ _) (by rw [List.length_take]; omega)
theorem GrC.ls {M : Mm} {q : Nat} {g : Nat → Int32} {bs : List Nat} (h : GrC M q g bs) (hl : bs.length ≤ 1000) {Lc : Lv} {i k j : Nat} (h0 : lkp Lc i = some (.ref q)) (h1 : lkp Lc k = some (.int (nI j))) (hj : j < bs.length) : pI (gI 0 (fA 1 1 (lA i)) (lI k)) Lc M (nI (bs.getD j 0)) := by
  obtain ⟨h2, -, ls, h4, h5⟩ := h
  have h9 := pI_gI (t := 0) (pA_fA (k := 1) (pA_lA h0) h2 rfl) (pI_lI h1) h4 (inb_nI (show j < 1000 by omega) (by decide))
  rw [nI_clamp (by omega), h5 j hj] at h9
  exact h9
theorem sp_listOnly {L : Nat} {xs : Nat → Int32} {a : AS} {M : Mm} {g : Nat → Int32} {bs : List Nat} (h : CCo L xs a M) (hg : GrC M 51 g bs) (hl : bs.length ≤ 1000) (hc : ∀ c ∈ bs, c < 1000) : wF F_X1_listOnly [.ref 51, .ref 13] M fun v M' => v = none ∧ But [51, 53] M M' ∧ GrC M' 51 g (bs.filter (hld (zbx a))) := by
  obtain ⟨g1, ⟨f, g2, g3⟩, l0, g4, g5⟩ := id hg
  refine wF_b rfl (Nat.le_of_ble_eq_true rfl) (q_I rfl pI_cI ?_)
  refine q_forC bs.length (fun j L' M1 => L' = [some (.ref 51), some (.ref 13), some (.int (nI ((bs.take j).filter (hld (zbx a))).length)), some (.int (nI j))] ∧ But [53] M M1 ∧ ∃ ls, M1.2.2 53 = aI 0 1000 ls ∧ (∀ i, i < ((bs.take j).filter (hld (zbx a))).length → ls i = nI (((bs.take j).filter (hld (zbx a))).getD i 0)) ∧ ∀ i, j ≤ i → i < bs.length → ls i = nI (bs.getD i 0)) rfl (a := 0) pI_cI (by have : big = 1000000 := rfl; omega) (Nat.zero_le _) ⟨rfl, But.rf, l0, g4, fun i hi => absurd hi (Nat.not_lt_zero i), fun i _ hi => g5 i hi⟩ ?_ ?_ ?_
  · rintro j L' M1 hj ⟨rfl, b1, -⟩
    exact pC_eq (pC_kI (pI_lI rfl) (pI_fI (k := 2) (pA_lA rfl) ((b1.2.2 51 (by decide)).trans g1) rfl)) (oLt_nI (by omega) (by omega))
  · rintro j L' M1 hj ⟨rfl, b1, ls, c1, c2, c3⟩
    have e51 := (b1.2.2 51 (by decide)).trans g1
    have hcj := hc _ (getD_mem hj)
    have hlen := filt_len bs (hld (zbx a)) j
    have p1 : pI (gI 0 (fA 1 1 (lA 0)) (lI 3)) [some (.ref 51), some (.ref 13), some (.int (nI ((bs.take j).filter (hld (zbx a))).length)), some (.int (nI j))] M1 (nI (bs.getD j 0)) := by
      have h9 := pI_gI (t := 0) (L := [some (.ref 51), some (.ref 13), some (.int (nI ((bs.take j).filter (hld (zbx a))).length)), some (.int (nI j))]) (pA_fA (k := 1) (pA_lA (i := 0) rfl) e51 rfl) (pI_lI (i := 3) rfl) c1 (inb_nI (show j < 1000 by omega) (by decide))
      rw [nI_clamp (by omega), c3 j (Nat.le_refl _) hj] at h9
      exact h9
    have hC1 := h.scr b1 (by decide)
    refine l_if (pC_nz (pI_vV (pR_A (pA_lA rfl) (pR_I p1 pR_0)) hC1.1.2.1 (sp_holdsC hC1 hcj))) (fun hb => ?_) (fun hb => ?_)
    · have ef := filt_step (hld (zbx a)) hj
      rw [if_pos hb] at ef
      refine q_pa (j := ((bs.take j).filter (hld (zbx a))).length) (pA_fA (k := 1) (pA_lA rfl) e51 rfl) (pI_lI rfl) p1 c1 (by decide) (by omega) (by decide) (Or.inl rfl) (l_inc rfl rfl (Or.inr ⟨by decide, by decide, rfl, rfl, ?_, b1.set (by decide), _, get_at, fun i hi => ?_, fun i h1 h2 => ?_⟩))
      · rw [ef, List.length_append, nI_1]
        rfl
      · rw [ef, List.length_append] at hi
        rw [ef, getD_app (by simpa using hi)]
        unfold upd
        by_cases e : i = ((bs.take j).filter (hld (zbx a))).length
        · rw [if_pos e, if_pos e]
        · rw [if_neg e, if_neg e]
          refine c2 i ?_
          simp only [List.length_cons, List.length_nil] at hi
          omega
      · unfold upd
        rw [if_neg (by omega)]
        exact c3 i (by omega) h2
    · have ef := filt_step (hld (zbx a)) hj
      rw [if_neg (by rw [hb]; decide), List.append_nil] at ef
      refine wS_nop (Or.inr ⟨by decide, by decide, rfl, rfl, ?_, b1, ls, c1, ?_, fun i h1 h2 => c3 i (by omega) h2⟩)
      · rw [ef]; rfl
      · rw [ef]; exact c2
  · rintro L' M1 ⟨rfl, b1, ls, c1, c2, -⟩
    rw [List.take_length] at c2 ⊢
    refine q_pf (pA_lA rfl) (pI_lI rfl) ((b1.2.2 51 (by decide)).trans g1) (Nat.le_of_ble_eq_true rfl) (wS_retV ⟨rfl, rfl, (b1.mono (by decide)).set (by decide), get_at, ⟨f, (get_ne (by decide)).trans ((b1.2.2 52 (by decide)).trans g2), g3⟩, ls, (get_ne (by decide)).trans c1, c2⟩)
theorem bls_lt {g : Nat → Int32} {n c : Nat} (h : c ∈ bls g n) : c < n := List.mem_range.mp (List.mem_filter.mp h).1
theorem bls_blk {g : Nat → Int32} {n c : Nat} (h : c ∈ bls g n) : blk g c = true := (List.mem_filter.mp h).2
theorem CSt.scr {L : Nat} {xs : Nat → Int32} {a : AS} {M : Mm} (h : CSt L xs a M) : ∃ v, M.2.2 51 = .inr (1, [.ref 52, .ref 53, .int v]) ∧ (∃ f, M.2.2 52 = aI 0 1000 f) ∧ ∃ f, M.2.2 53 = aI 0 1000 f := by
  obtain ⟨v, hv⟩ := h.2.1
  exact ⟨v, hv, h.2.2.2.2.2.1 52 (by decide), h.2.2.2.2.2.1 53 (by decide)⟩
/-- the class's scratch after something was written into some of it, all still of its kind -/
theorem CSt.wr {L : Nat} {xs : Nat → Int32} {a : AS} {M M' : Mm} (h : CSt L xs a M) (hb : But [51, 52, 53] M M') {g : Nat → Int32} {bs : List Nat} (hg : GrC M' 51 g bs) : CSt L xs a M' := by
  refine ⟨h.1.scr hb (by decide), ?_⟩
  obtain ⟨-, ⟨v2, q2⟩, ⟨v3, q3⟩, ⟨v4, q4⟩, q5, ⟨f6, q6⟩⟩ := h.2
  obtain ⟨g1, ⟨f, g2, -⟩, ls, g4, -⟩ := hg
  have s : ∀ b, b ∉ [51, 52, 53] → M'.2.2 b = M.2.2 b := hb.2.2
  refine ⟨⟨_, g1⟩, ⟨v2, (s _ (by decide)).trans q2⟩, ⟨v3, (s _ (by decide)).trans q3⟩, ⟨v4, (s _ (by decide)).trans q4⟩, fun b hb => ?_, ⟨f6, (s _ (by decide)).trans q6⟩⟩
  by_cases e : b = 52
  · rw [e]; exact ⟨_, g2⟩
  · by_cases e2 : b = 53
    · rw [e2]; exact ⟨_, g4⟩
    · obtain ⟨k, hk⟩ := q5 b hb
      have all : ∀ b ∈ [52, 53, 55, 56, 58, 59, 61, 63, 65, 66], b = 52 ∨ b = 53 ∨ b ∉ [51, 52, 53] := by decide
      rcases all b hb with t | t | t
      · exact absurd t e
      · exact absurd t e2
      · exact ⟨k, (s b t).trans hk⟩
/-- the grid read in a method of the class -/
theorem sp_readC {L : Nat} {xs : Nat → Int32} {a : AS} {M : Mm} {y : Nat} (h : CSt L xs a M) (hy : y < 4) : wF F_X1_read [.ref 51, .ref (17 + 2 * y)] M fun v M' => v = none ∧ CSt L xs a M' ∧ But [51, 52, 53] M M' ∧ GrC M' 51 (cdA (zab a) y) (bls (cdA (zab a) y) 1000) := by
  obtain ⟨v, o1, o2, o3⟩ := h.scr
  refine (sp_read h.1 (Or.inl rfl) hy o1 o2 o3).mono ?_
  rintro v M' ⟨rfl, h1, h2⟩
  exact ⟨rfl, h.wr h1 h2, h1, h2⟩
theorem sp_readBox {L : Nat} {xs : Nat → Int32} {a : AS} {M : Mm} {y : Nat} (h : CSt L xs a M) (hy : y < 4) : wF F_X11_readBox [.ref 5, .int (nI y)] M fun v M' => v = none ∧ CSt L xs a M' ∧ But [51, 52, 53] M M' ∧ GrC M' 51 (cdA (zab a) y) ((bls (cdA (zab a) y) 1000).filter (hld (zbx a))) := by
  obtain ⟨v, o1, o2, o3⟩ := h.scr
  refine wF_b rfl (Nat.le_of_ble_eq_true rfl) (q_ex (wV_Vw (pR_A (pA_fA (k := 6) (pA_lA rfl) h.1.o5 rfl) (pR_A (pA_yard h.1.1 h.1.o5 hy rfl rfl) pR_0)) o1 ((sp_readC h hy).mono ?_)))
  rintro v M1 ⟨rfl, h1, h2, h3⟩
  refine ⟨rfl, q_ex (wV_Vw (pR_A (pA_fA (k := 6) (pA_lA rfl) h1.1.o5 rfl) (pR_A (pA_fA (k := 2) (pA_lA rfl) h1.1.o5 rfl) pR_0)) h3.1 ((sp_listOnly h1.1 h3 (bls_len _ _) (fun c hc => bls_lt hc)).mono ?_))⟩
  rintro v M2 ⟨rfl, k1, k2⟩
  have hb := h2.tr (k1.mono (by decide))
  exact ⟨rfl, wS_retV ⟨rfl, rfl, h.wr hb k2, hb, k2⟩⟩
/-- what a grid tells of a number -/
def gAt (g : Nat → Int32) (v : Int32) : Int32 := if (oGe v 0 && oLt v 1000) = true then g v.toNatClampNeg else -1
theorem sp_code {M : Mm} {q : Nat} {g : Nat → Int32} {bs : List Nat} (h : GrC M q g bs) (v : Int32) : F_X1_code [.ref q, .int v] M = some (some (.int (gAt g v)), M) := by
  obtain ⟨h1, ⟨f, h2, h3⟩, -⟩ := h
  refine wF_eq (wF_b rfl (Nat.le_of_ble_eq_true rfl) (l_ret (pI_tD (x := g v.toNatClampNeg) (pC_nz (pI_vS (pR_I (pI_lI rfl) pR_0) (sp_isCell _ _))) (fun hb => ?_) (fun _ => pI_cI)) ⟨rfl, rfl, rfl⟩))
  obtain ⟨e1, e2⟩ := Bool.and_eq_true_iff.mp hb
  have h0 : 0 ≤ v.toInt := Int32.le_iff_toInt_le.mp (of_decide_eq_true e1)
  have hlt : v.toInt < 1000 := Int32.lt_iff_toInt_lt.mp (of_decide_eq_true e2)
  have ev := nI_tn h0
  have hn : v.toNatClampNeg = v.toInt.toNat := by rw [ev, nI_clamp (by omega), ← ev]
  have h9 := pI_gI (t := 0) (L := mkL 2 [.ref q, .int v]) (pA_fA (k := 0) (pA_lA (i := 0) rfl) h1 rfl) (pI_lI (i := 1) rfl) h2 (by rw [ev]; exact inb_nI (show v.toInt.toNat < 1000 by omega) (by decide))
  rw [hn, h3 _ (by omega)] at h9
  rw [hn]
  exact h9
theorem gAt_nI (g : Nat → Int32) {c : Nat} (h : c < 1000) : gAt g (nI c) = g c := by
  unfold gAt
  rw [if_pos (isCell_nI h), nI_clamp (by omega)]
theorem gAt_no (g : Nat → Int32) : gAt g (-1) = -1 := rfl
theorem sp_isBlock {M : Mm} {q : Nat} {g : Nat → Int32} {bs : List Nat} (h : GrC M q g bs) (v : Int32) : F_X1_isBlock [.ref q, .int v] M = some (some (.int (bz (oGt (gAt g v) 0))), M) :=
  wF_eq (wF_b rfl (Nat.le_of_ble_eq_true rfl) (l_retZ (pI_zI (pC_kI (pI_vV (pR_A (pA_lA rfl) (pR_I (pI_lI rfl) pR_0)) h.1 (sp_code h v)) pI_cI)) ⟨rfl, rfl, rfl⟩))
def stN (k : Nat) : Nat := if k = 0 then 100 else if k = 1 then 10 else 1
/-- the cell beside c: 0 up, 1 down, 2 and 3 along x, 4 and 5 along w -/
def nbO (c d : Nat) : Option Nat := if d % 2 = 0 then (if c / stN (d / 2) % 10 < 9 then some (c + stN (d / 2)) else none) else (if 0 < c / stN (d / 2) % 10 then some (c - stN (d / 2)) else none)
def sw (d : Nat) : Nat := if d % 2 = 0 then d + 1 else d - 1
theorem sp_strideOf {k : Nat} (hk : k < 3) (M : Mm) : F_X11_strideOf [.int (nI k)] M = some (some (.int (nI (stN k))), M) := by
  rcases (show k = 0 ∨ k = 1 ∨ k = 2 by omega) with rfl | rfl | rfl <;> rfl
theorem stN_cs (k : Nat) : (stN k = 100 ∧ k = 0) ∨ (stN k = 10 ∧ k = 1) ∨ (stN k = 1 ∧ 2 ≤ k) := by
  unfold stN
  by_cases e : k = 0
  · rw [if_pos e]; exact Or.inl ⟨rfl, e⟩
  · by_cases e2 : k = 1
    · rw [if_neg e, if_pos e2]; exact Or.inr (Or.inl ⟨rfl, e2⟩)
    · rw [if_neg e, if_neg e2]; exact Or.inr (Or.inr ⟨rfl, by omega⟩)
theorem sp_along {c k : Nat} (hc : c < 1000) (hk : k < 3) (M : Mm) : F_X11_along [.int (nI k), .int (nI c)] M = some (some (.int (nI (c / stN k % 10))), M) := by
  refine wF_eq (wF_b rfl (Nat.le_of_ble_eq_true rfl) (l_ret (pI_eq (pI_tI (pC_kI (pI_lI rfl) pI_cI) (pI_vS (pR_I (pI_lI rfl) pR_0) (sp_zOf hc M)) (pI_tI (pC_kI (pI_lI rfl) pI_cI) (pI_vS (pR_I (pI_lI rfl) pR_0) (sp_xOf hc M)) (pI_vS (pR_I (pI_lI rfl) pR_0) (sp_wOf hc M)))) ?_) ⟨rfl, rfl, rfl⟩))
  rcases (show k = 0 ∨ k = 1 ∨ k = 2 by omega) with rfl | rfl | rfl
  · exact congrArg nI (show c / 100 = c / 100 % 10 by omega)
  · rfl
  · exact congrArg nI (show c % 10 = c / 1 % 10 by omega)
theorem nbO_lt {c d e : Nat} (hc : c < 1000) (h : nbO c d = some e) : e < 1000 := by
  unfold nbO at h
  have hs := stN_cs (d / 2)
  split at h <;> split at h
  · rename_i p1 p2; cases h; rcases hs with ⟨a, -⟩ | ⟨a, -⟩ | ⟨a, -⟩ <;> rw [a] at p2 ⊢ <;> omega
  · cases h
  · cases h; omega
  · cases h
theorem sp_beside {c d : Nat} (hc : c < 1000) (hd : d < 6) (M : Mm) : F_X1_beside [.int (nI c), .int (nI d)] M = some (some (.int (oI (nbO c d))), M) := by
  have hs := stN_cs (d / 2)
  have hk : d / 2 < 3 := by omega
  refine wF_eq (wF_b rfl (Nat.le_of_ble_eq_true rfl) (q_I rfl (pI_eq (pI_div (pI_lI rfl) pI_cI (by decide)) (nI_div (m := 2) rfl (by omega) (by decide) (by decide))) (q_I rfl (pI_vS (pR_I (pI_lI rfl) (pR_I (pI_lI rfl) pR_0)) (sp_along hc hk M)) ?_)))
  have hm : c / stN (d / 2) % 10 < 10 := Nat.mod_lt _ (by decide)
  refine q_if (pC_eq (pC_kI (pI_eq (pI_rem (pI_lI rfl) pI_cI (by decide)) (nI_rem (m := 2) rfl (by omega) (by decide) (by decide))) pI_cI) (oEq_nI (b := 0) (by omega) (by decide))) (fun hb => ?_) (fun hb => ?_)
  · refine q_ret (pI_tI (pC_eq (pC_kI (pI_lI rfl) pI_cI) (oLt_nI (b := 9) (by omega) (by decide))) (pI_eq (pI_add (pI_lI rfl) (pI_vS (pR_I (pI_lI rfl) pR_0) (sp_strideOf hk M))) (nI_add _ _)) pI_cI) ⟨rfl, ?_, rfl⟩
    unfold nbO
    rw [if_pos (of_decide_eq_true hb)]
    by_cases e : c / stN (d / 2) % 10 < 9
    · rw [if_pos (decide_eq_true e), if_pos e]; rfl
    · rw [if_neg (fun q => e (of_decide_eq_true q)), if_neg e]; rfl
  · by_cases e : 0 < c / stN (d / 2) % 10
    · have hle : stN (d / 2) ≤ c := by
        rcases hs with ⟨a, -⟩ | ⟨a, -⟩ | ⟨a, -⟩ <;> rw [a] at e ⊢ <;> omega
      refine l_ret (pI_tI (pC_eq (pC_kI (pI_lI rfl) pI_cI) (oGt_nI (b := 0) (by omega) (by decide))) (pI_eq (pI_sub (pI_lI rfl) (pI_vS (pR_I (pI_lI rfl) pR_0) (sp_strideOf hk M))) (nI_sub hle (by omega))) pI_cI) ⟨rfl, ?_, rfl⟩
      unfold nbO
      rw [if_neg (of_decide_eq_false hb), if_pos (decide_eq_true e), if_pos e]; rfl
    · refine l_ret (pI_tI (pC_eq (pC_kI (pI_lI rfl) pI_cI) (oGt_nI (b := 0) (by omega) (by decide))) (pI_sub (pI_lI rfl) (pI_vS (pR_I (pI_lI rfl) pR_0) (sp_strideOf hk M))) pI_cI) ⟨rfl, ?_, rfl⟩
      unfold nbO
      rw [if_neg (of_decide_eq_false hb), if_neg (fun q => e (of_decide_eq_true q)), if_neg e]; rfl
def gO (g : Nat → Int32) (o : Option Nat) : Int32 := match o with
  | none => -1
  | some e => g e
def blkO (g : Nat → Int32) (o : Option Nat) : Bool := oGt (gO g o) 0
theorem gAt_nb (g : Nat → Int32) {c d : Nat} (hc : c < 1000) : gAt g (oI (nbO c d)) = gO g (nbO c d) := by
  cases h : nbO c d with
  | none => rfl
  | some e => exact gAt_nI g (nbO_lt hc h)
/-- how many sides of a cell have no block -/
def bare (g : Nat → Int32) (c : Nat) : Nat := cn 6 fun d => !(blkO g (nbO c d))
theorem sp_bare {M : Mm} {q c : Nat} {g : Nat → Int32} {bs : List Nat} (h : GrC M q g bs) (hc : c < 1000) : F_X1_bareSides [.ref q, .int (nI c)] M = some (some (.int (nI (bare g c))), M) := by
  refine wF_eq (wF_b rfl (Nat.le_of_ble_eq_true rfl) (q_I rfl pI_cI ?_))
  refine q_for 6 (fun j L M1 => L = [some (.ref q), some (.int (nI c)), some (.int (nI (cn j fun d => !(blkO g (nbO c d))))), some (.int (nI j))] ∧ M1 = M) rfl (a := 0) rfl rfl (by decide) (by decide) ⟨rfl, rfl⟩ ?_ ?_ ?_
  · rintro j L M1 ⟨rfl, -⟩
    rfl
  · rintro j L M1 hj ⟨rfl, rfl⟩
    have e1 : oGt (gAt g (oI (nbO c j))) 0 = blkO g (nbO c j) := by rw [gAt_nb g hc]; rfl
    refine l_if (pC_not (pC_nz (pI_vV (pR_A (pA_lA rfl) (pR_I (pI_vS (pR_I (pI_lI rfl) (pR_I (pI_lI rfl) pR_0)) (sp_beside hc hj M1)) pR_0)) h.1 (sp_isBlock h _)))) (fun hb => ?_) (fun hb => ?_)
    · rw [e1] at hb
      refine l_inc rfl rfl (Or.inr ⟨by decide, by decide, rfl, rfl, ?_, rfl⟩)
      rw [cn, hb, if_pos rfl, nI_1]; rfl
    · rw [e1] at hb
      refine wS_nop (Or.inr ⟨by decide, by decide, rfl, rfl, ?_, rfl⟩)
      rw [cn, hb]; rfl
  · rintro L M1 ⟨rfl, rfl⟩
    exact l_ret (pI_lI rfl) ⟨rfl, rfl, rfl⟩
