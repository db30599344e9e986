/-! replace, hollow, cut -/
theorem kR_kd1 {kn : Nat} {v k : Int32} (h : cOK kn v) (hk : oGe k 1 = true) : oEq (kR v) k = (oGt v 0 && oEq (kd v) k) := by
  have hk1 : 1 ≤ k.toInt := Int32.le_iff_toInt_le.mp (of_decide_eq_true hk)
  rcases kR_cs h with ⟨rfl, e⟩ | ⟨rfl, e⟩ | ⟨h1, h2, e, -, -⟩
  · rw [e, show oGt (-1) 0 = false from rfl, Bool.false_and]
    exact decide_eq_false fun q => by rw [← q] at hk1; exact absurd hk1 (by decide)
  · rw [e, show oGt 0 0 = false from rfl, Bool.false_and]
    exact decide_eq_false fun q => by rw [← q] at hk1; exact absurd hk1 (by decide)
  · rw [e, show oGt v 0 = true from decide_eq_true (Int32.lt_iff_toInt_lt.mpr h1), Bool.true_and]
def reP (y : Nat) (b0 : Nat → Nat → Int32) (k : Int32) (b : AS) (c : Nat) : Bool := hld b0 c && (oGt (cdA (zab b) y c) 0 && oEq (kd (cdA (zab b) y c)) k)
def reV (y : Nat) (k : Int32) (b : AS) (c : Nat) : Int32 := cdf k (tn (cdA (zab b) y c))
def reR (y : Nat) (k l : Int32) (a : AS) (n : Nat) : Nat × AS := chG y (reP y (zbx a) k) (reV y l) a (List.range n)
def reS (y k l : Int32) (a : AS) : Int32 × AS := if ((isY y && (oGe k 1 && oLe k (nI (zkn a)))) && isIn l 0 (nI (zkn a))) = true then (nI (reR y.toNatClampNeg k l a 1000).1, (reR y.toNatClampNeg k l a 1000).2) else (-1, a)
theorem re_v {y : Nat} {a : AS} {k l : Int32} (hO : OkA a) (hy : y < 16) (hl : isIn l 0 (nI (zkn a)) = true) : ∀ b c, From y a b → c < 1000 → reP y (zbx a) k b c = true → cOK (zkn a) (reV y l b c) ∧ codeOk (reV y l b c) ∧ 0 ≤ (tn (cdA (zab b) y c)).toInt ∧ (tn (cdA (zab b) y c)).toInt < 24 ∧ ¬ cdA (zab b) y c = -1 := by
  intro b c hb hc hp
  have hcv := hb.1.av.cd hy hc
  rw [hb.2.1] at hcv
  have hg : oGt (cdA (zab b) y c) 0 = true := (Bool.and_eq_true_iff.mp (Bool.and_eq_true_iff.mp hp).2).1
  have hne : ¬ cdA (zab b) y c = -1 := fun q => by rw [q] at hg; exact absurd hg (by decide)
  have ht := tn_in hcv hne
  have hk := in_nat hO.1 hl
  have := cdf_ok hO.1 hk.1 hk.2 ht.1 ht.2
  exact ⟨this.1, this.2, ht.1, ht.2, hne⟩
theorem ok2_replace (L : Nat) (xs : Nat → Int32) (y k l : Int32) : OK2 (Inv2 L xs) F_X11_replace F_X12_replace [.int y, .int k, .int l] := by
  refine ok2_of (reS y k l) (fun a M hO hb h => ?_) (fun a M hO hb h => wF_b rfl (Nat.le_of_ble_eq_true rfl) (r_st h rfl fun M0 h0 s0 => ?_)) (fun a hO => ?_)
  · unfold reS
    refine wF_b rfl (Nat.le_of_ble_eq_true rfl) (q_if (pC_eq (pC_or (pC_or (pC_not (pC_nz (pI_vS (pR_I (pI_lI rfl) pR_0) (sp_isYardC _ _)))) (pC_not (pC_nz (pI_vV (pR_A (pA_kinds h.1 rfl) (pR_I (pI_lI rfl) pR_0)) h.1.k7 (sp_isKindC h.1.k7 k))))) (pC_not (pC_nz (pI_vV (pR_A (pA_kinds h.1 rfl) (pR_I (pI_lI rfl) pR_0)) h.1.k7 (sp_isKOC hO.1 h.1.k7 l))))) (not3 _ _ _)) (fun hb1 => ?_) (fun hb1 => ?_))
    · rw [Bool.not_eq_true'] at hb1
      rw [if_neg (by rw [hb1]; decide)]
      exact q_ret pI_cI ⟨rfl, rfl, h, COn.rf⟩
    · rw [Bool.not_eq_false'] at hb1
      rw [if_pos hb1]
      dsimp only
      obtain ⟨g0, g3⟩ := Bool.and_eq_true_iff.mp hb1
      obtain ⟨g1, g2⟩ := Bool.and_eq_true_iff.mp g0
      obtain ⟨yn, hy, rfl⟩ := isY_nat g1
      rw [nI_clamp (by omega)]
      have hv := re_v (k := k) hO (show yn < 16 by omega) g3
      refine q_I rfl pI_cI ?_
      refine q_for 1000 (fun j L' M1 => L' = [some (.ref 5), some (.int (nI yn)), some (.int k), some (.int l), some (.int (nI (reR yn k l a j).1)), some (.int (nI j)), none] ∧ CSt L xs (reR yn k l a j).2 M1 ∧ FrH yn M M1) rfl (a := 0) rfl rfl (by decide) (by decide) ⟨rfl, h, fun _ _ _ _ => rfl⟩ ?_ ?_ ?_
      · rintro j L' M1 ⟨rfl, -⟩
        rfl
      · rintro j L' M1 hj ⟨rfl, c1, c2⟩
        have hfr : From yn a (reR yn k l a j).2 := chG_from hO (by omega) (fun b c q1 q2 q3 => (hv b c q1 q2 q3).1) _ (range_lt (by omega))
        have hle := hfr.le
        have est : reR yn k l a (j + 1) = stp yn (reP yn (zbx a) k) (reV yn l) (reR yn k l a j) j := chG_range _ _ _ _ _
        have hh : F_X0_holds [.ref 13, .int (nI j)] M1 = some (some (.int (bz (hld (zbx a) j))), M1) := by rw [← hfr.2.2.1]; exact sp_holdsC c1.1 hj
        refine l_scp (q_I rfl (pI_tI (pC_nz (pI_vV (pR_A (pA_fA (k := 2) (pA_lA rfl) c1.1.o5 rfl) (pR_I (pI_lI rfl) pR_0)) c1.1.1.2.1 hh)) (pI_vV (pR_A (pA_yard c1.1.1 c1.1.o5 hy rfl rfl) (pR_I (pI_lI rfl) pR_0)) (c1.1.y hy) (sp_codeA c1.1 hy hj)) pI_cI) ?_)
        refine wS_if (wC_and (wC_p (v := reP yn (zbx a) k (reR yn k l a j).2 j) (pC_eq (pC_and (pC_kI (pI_lI rfl) pI_cI) (pC_kI (pI_vS (pR_I (pI_lI rfl) pR_0) (sp_kindOf _ _)) (pI_lI rfl))) ?_) ⟨fun hb2 => ?_, fun hb2 => ⟨fun q => (by cases q), fun _ => wS_nop (Or.inr ⟨by decide, by decide, rfl, rfl, ?_, ?_, c2⟩)⟩⟩))
        · unfold reP
          cases hld (zbx a) j with
          | true => rfl
          | false => rfl
        · obtain ⟨v1, v2, v3, v4, v5⟩ := hv _ _ hfr hj hb2
          have est2 : reR yn k l a (j + 1) = ((reR yn k l a j).1 + b2n (chB (zab (reR yn k l a j).2) yn j (reV yn l (reR yn k l a j).2 j)), zch yn j (reV yn l (reR yn k l a j).2 j) (reR yn k l a j).2) := est.trans (if_pos hb2)
          have hhld : hld (zbx a) j = true := (Bool.and_eq_true_iff.mp hb2).1
          rw [if_pos hhld]
          refine wC_kI (wI_vVw (pR_A (pA_yard c1.1.1 c1.1.o5 hy rfl rfl) (pR_I (pI_lI rfl) (pR_I (pI_vS (pR_I (pI_lI rfl) (pR_I (pI_vS (pR_I (pI_lI rfl) pR_0) (sp_turnOf _ _)) pR_0)) (sp_codeOf _ _ _)) pR_0))) (c1.1.y hy) ((sp_changeC c1 hy hj v2 (by omega)).mono ?_))
          rintro r M2 ⟨rfl, d1, d2⟩
          refine ⟨_, rfl, wI_cI ?_⟩
          rw [bz_ne]
          refine ⟨fun hb3 => l_inc rfl rfl (Or.inr ⟨by decide, by decide, rfl, rfl, ?_, ?_, c2.tr d2⟩), fun hb3 => wS_nop (Or.inr ⟨by decide, by decide, rfl, rfl, ?_, ?_, c2.tr d2⟩)⟩
          · rw [est2, hb3, nI_1]; rfl
          · rw [est2]; exact d1
          · rw [est2, hb3]; rfl
          · rw [est2]; exact d1
        · rw [show reR yn k l a (j + 1) = reR yn k l a j from est.trans (if_neg (by rw [hb2]; decide))]; rfl
        · rw [show reR yn k l a (j + 1) = reR yn k l a j from est.trans (if_neg (by rw [hb2]; decide))]; exact c1
      · rintro L' M1 ⟨rfl, c1, c2⟩
        exact l_ret (pI_lI rfl) ⟨rfl, rfl, c1, c2.con (by omega)⟩
  · obtain ⟨th, pm, bm, h69⟩ := id h0.2.2
    unfold reS
    refine q_if (pC_eq (pC_or (pC_or (pC_not (pC_nz (pI_vS (pR_I (pI_lI rfl) pR_0) (sp_isYardR _ _)))) (pC_not (pC_nz (pI_vS (pR_I (pI_lI rfl) (pR_I pI_cI (pR_I (pI_fI (k := 1) (pA_lA rfl) h69 rfl) pR_0))) (sp_in _ _ _ _))))) (pC_not (pC_nz (pI_vV (pR_A (pA_lA rfl) (pR_I (pI_lI rfl) pR_0)) h69 (sp_isKOR h0.2.2 l))))) (not3 _ _ _)) (fun hb1 => ?_) (fun hb1 => ?_)
    · rw [Bool.not_eq_true'] at hb1
      rw [if_neg (by rw [show ((isY y && (oGe k 1 && oLe k (nI (zkn a)))) && isIn l 0 (nI (zkn a))) = false from hb1]; decide)]
      exact q_ret pI_cI ⟨rfl, rfl, h0, s0⟩
    · rw [Bool.not_eq_false'] at hb1
      have hb1 : ((isY y && (oGe k 1 && oLe k (nI (zkn a)))) && isIn l 0 (nI (zkn a))) = true := hb1
      rw [if_pos hb1]
      dsimp only
      obtain ⟨g0, g3⟩ := Bool.and_eq_true_iff.mp hb1
      obtain ⟨g1, g2⟩ := Bool.and_eq_true_iff.mp g0
      obtain ⟨g4, g5⟩ := Bool.and_eq_true_iff.mp g2
      obtain ⟨yn, hy, rfl⟩ := isY_nat g1
      rw [nI_clamp (by omega)]
      have hv := re_v (k := k) hO (show yn < 16 by omega) g3
      have hk := in_nat hO.1 g3
      have hkn := hO.1
      refine q_I rfl pI_cI ?_
      refine q_for 1000 (fun j L' M1 => L' = [some (.ref 69), some (.int (nI yn)), some (.int k), some (.int l), some (.int (nI (reR yn k l a j).1)), some (.int (nI j))] ∧ RSt L xs (reR yn k l a j).2 M1 ∧ ROn M0 M1) rfl (a := 0) rfl rfl (by decide) (by decide) ⟨rfl, h0, ROn.rf⟩ ?_ ?_ ?_
      · rintro j L' M1 ⟨rfl, -⟩
        rfl
      · rintro j L' M1 hj ⟨rfl, c1, c2⟩
        obtain ⟨th', pm', bm', h69'⟩ := id c1.2.2
        have hfr : From yn a (reR yn k l a j).2 := chG_from hO (by omega) (fun b c q1 q2 q3 => (hv b c q1 q2 q3).1) _ (range_lt (by omega))
        have est : reR yn k l a (j + 1) = stp yn (reP yn (zbx a) k) (reV yn l) (reR yn k l a j) j := chG_range _ _ _ _ _
        have hh : F_X12_isIn [.ref 69, .int (nI j)] M1 = some (some (.int (bz (hld (zbx a) j))), M1) := by rw [← hfr.2.2.1]; exact sp_isInR c1.1 c1.2.2 hj
        have hcj := hfr.1.av.cd (y := yn) (by omega) hj
        refine wS_if (wC_and (wC_p (v := reP yn (zbx a) k (reR yn k l a j).2 j) (pC_eq (pC_and (pC_nz (pI_vV (pR_A (pA_lA rfl) (pR_I (pI_lI rfl) pR_0)) h69' hh)) (pC_kI (pI_vV (pR_A (pA_lA rfl) (pR_I (pI_lI rfl) (pR_I (pI_lI rfl) pR_0))) h69' (sp_kindR2 c1.1 c1.2.2 (by omega) hj)) (pI_lI rfl))) ?_) ⟨fun hb2 => ?_, fun hb2 => ⟨fun q => (by cases q), fun _ => wS_nop (Or.inr ⟨by decide, by decide, rfl, rfl, ?_, ?_, c2⟩)⟩⟩))
        · rw [kR_kd1 hcj g4]; rfl
        · obtain ⟨v1, v2, v3, v4, v5⟩ := hv _ _ hfr hj hb2
          have est2 : reR yn k l a (j + 1) = ((reR yn k l a j).1 + b2n (chB (zab (reR yn k l a j).2) yn j (reV yn l (reR yn k l a j).2 j)), zch yn j (reV yn l (reR yn k l a j).2 j) (reR yn k l a j).2) := est.trans (if_pos hb2)
          refine wC_kI (wI_vVw (pR_A (pA_lA rfl) (pR_I (pI_lI rfl) (pR_I (pI_lI rfl) (pR_I (pI_lI rfl) (pR_I (pI_vV (pR_A (pA_lA rfl) (pR_I (pI_lI rfl) (pR_I (pI_lI rfl) pR_0))) h69' (sp_turnR2 c1.1 c1.2.2 (by omega) hj v5)) pR_0))))) h69' ((sp_changeAt c1 hy hj v5 hk.1 (by omega) v3 v4).mono ?_))
          rintro r M2 ⟨rfl, d1, d2⟩
          refine ⟨_, rfl, wI_cI ?_⟩
          rw [bz_ne]
          refine ⟨fun hb3 => l_inc rfl rfl (Or.inr ⟨by decide, by decide, rfl, rfl, ?_, ?_, c2.tr (d2.ron (by decide))⟩), fun hb3 => wS_nop (Or.inr ⟨by decide, by decide, rfl, rfl, ?_, ?_, c2.tr (d2.ron (by decide))⟩)⟩
          · rw [est2, show chB (zab (reR yn k l a j).2) yn j (reV yn l (reR yn k l a j).2 j) = true from hb3, nI_1]; rfl
          · rw [est2]; exact d1
          · rw [est2, show chB (zab (reR yn k l a j).2) yn j (reV yn l (reR yn k l a j).2 j) = false from hb3]; rfl
          · rw [est2]; exact d1
        · rw [show reR yn k l a (j + 1) = reR yn k l a j from est.trans (if_neg (by rw [hb2]; decide))]; rfl
        · rw [show reR yn k l a (j + 1) = reR yn k l a j from est.trans (if_neg (by rw [hb2]; decide))]; exact c1
      · rintro L' M1 ⟨rfl, c1, c2⟩
        exact l_ret (pI_lI rfl) ⟨rfl, rfl, c1, s0.tr c2⟩
  · unfold reS
    split
    · rename_i hb1
      dsimp only
      obtain ⟨g0, g3⟩ := Bool.and_eq_true_iff.mp hb1
      obtain ⟨g1, g2⟩ := Bool.and_eq_true_iff.mp g0
      obtain ⟨yn, hy, rfl⟩ := isY_nat g1
      rw [nI_clamp (by omega)]
      have hv := re_v (k := k) hO (show yn < 16 by omega) g3
      have hfr : From yn a (reR yn k l a 1000).2 := chG_from hO (by omega) (fun b c q1 q2 q3 => (hv b c q1 q2 q3).1) _ (range_lt (by omega))
      exact ⟨hfr.1, Nat.le_trans hfr.le (by omega)⟩
    · exact ⟨hO, Nat.le_add_right _ _⟩
/-! cells that are told by what stood there first, and become open -/
theorem chG_filter (y : Nat) (p : AS → Nat → Bool) (v : AS → Nat → Int32) (a : AS) (f : Nat → Bool) (l : List Nat) : chG y p v a (l.filter f) = chG y (fun b c => f c && p b c) v a l := by
  refine snoc_ind (P := fun l => chG y p v a (l.filter f) = chG y (fun b c => f c && p b c) v a l) rfl (fun l x ih => ?_) l
  rw [List.filter_append, List.filter_cons, List.filter_nil, chG_app, ← ih]
  by_cases e : f x = true
  · rw [if_pos e, chG_app]
    unfold stp
    dsimp only
    by_cases q : p (chG y p v a (l.filter f)).2 x = true
    · rw [if_pos q, if_pos (Bool.and_eq_true_iff.mpr ⟨e, q⟩)]
    · rw [if_neg q, if_neg (fun t => q (Bool.and_eq_true_iff.mp t).2)]
  · rw [if_neg e, List.append_nil]
    unfold stp
    dsimp only
    rw [if_neg (fun t => e (Bool.and_eq_true_iff.mp t).1)]
/-- cells that are not in the list stay -/
theorem chG_out {y : Nat} {p : AS → Nat → Bool} {v : AS → Nat → Int32} {a : AS} (hy : y < 16) (l : List Nat) (hl : ∀ c ∈ l, c < 1000) {u e : Nat} (hu : u < 16) (he : e < 1000) (hn : u = y → e ∉ l) : cdA (zab (chG y p v a l).2) u e = cdA (zab a) u e := by
  revert hl hn
  refine snoc_ind (P := fun l => (∀ c ∈ l, c < 1000) → (u = y → e ∉ l) → cdA (zab (chG y p v a l).2) u e = cdA (zab a) u e) (fun _ _ => rfl) (fun l x ih hl hn => ?_) l
  have h1 := ih (fun c hc => hl c (List.mem_append_left _ hc)) (fun q t => hn q (List.mem_append_left _ t))
  rw [chG_app]
  unfold stp
  split
  · rw [cdA_zch hu hy (hl x (List.mem_append_right _ (List.mem_singleton.mpr rfl))) he, if_neg fun t => hn t.1 (List.mem_append_right _ (List.mem_singleton.mpr t.2.1))]
    exact h1
  · exact h1
theorem lt_pair (l : List Nat) (f : Nat → Bool) (n : Nat) (hl : l = (List.range n).filter f) {j : Nat} (hj : j < l.length) : l.getD j 0 ∉ l.take j := by
  have hp : l.Pairwise (· < ·) := by
    rw [hl]
    exact List.Pairwise.filter _ List.pairwise_lt_range
  rw [← List.take_append_drop j l] at hp
  intro hm
  have hd : l.getD j 0 ∈ l.drop j := by
    rw [List.getD_eq_getElem?_getD, List.getElem?_eq_getElem hj]
    show l[j] ∈ l.drop j
    rw [List.drop_eq_getElem_cons hj]
    exact List.mem_cons_self
  exact absurd ((List.pairwise_append.mp hp).2.2 _ hm _ hd) (Nat.lt_irrefl _)
def opP (y : Nat) (a : AS) (q : Nat → Bool) (_ : AS) (c : Nat) : Bool := hld (zbx a) c && (blk (cdA (zab a) y) c && q c)
/-- the box's blocks that q tells become open -/
def opR (y : Nat) (q : Nat → Bool) (a : AS) (n : Nat) : Nat × AS := chG y (opP y a q) (fun _ _ => 0) a (List.range n)
def opL (y : Nat) (a : AS) : List Nat := (bls (cdA (zab a) y) 1000).filter (hld (zbx a))
theorem op_list (y : Nat) (q : Nat → Bool) (a : AS) : chG y (fun _ c => q c) (fun _ _ => 0) a (opL y a) = opR y q a 1000 := by
  unfold opL opR bls
  rw [chG_filter, chG_filter]
  refine congrArg (fun p => chG y p (fun _ _ => 0) a (List.range 1000)) ?_
  funext b c
  unfold opP
  cases hld (zbx a) c <;> cases blk (cdA (zab a) y) c <;> rfl
theorem op_from {y : Nat} {a : AS} {p : AS → Nat → Bool} (hO : OkA a) (hy : y < 16) (l : List Nat) (hl : ∀ c ∈ l, c < 1000) : From y a (chG y p (fun _ _ => 0) a l).2 := chG_from hO hy (fun _ _ _ _ _ => Or.inr (Or.inl rfl)) l hl
theorem opL_lt {y : Nat} {a : AS} {c : Nat} (h : c ∈ opL y a) : c < 1000 := bls_lt (List.mem_filter.mp h).1
theorem opL_blk {y : Nat} {a : AS} {c : Nat} (h : c ∈ opL y a) : blk (cdA (zab a) y) c = true := bls_blk (List.mem_filter.mp h).1
theorem opL_len (y : Nat) (a : AS) : (opL y a).length ≤ 1000 := Nat.le_trans (List.length_filter_le _ _) (bls_len _ _)
theorem opL_take {y : Nat} {a : AS} {j : Nat} (hj : j < (opL y a).length) : (opL y a).getD j 0 ∉ (opL y a).take j := by
  refine lt_pair _ (fun c => hld (zbx a) c && blk (cdA (zab a) y) c) 1000 ?_ hj
  unfold opL bls
  rw [List.filter_filter]
/-- one of the listed blocks is still what it was, and becomes open -/
theorem op_ch {y : Nat} {a : AS} {p : AS → Nat → Bool} (hy : y < 16) {j : Nat} (hj : j < (opL y a).length) : chB (zab (chG y p (fun _ _ => 0) a ((opL y a).take j)).2) y ((opL y a).getD j 0) 0 = true := by
  have hm := getD_mem hj
  have hlt := opL_lt hm
  have hb := opL_blk hm
  have e := chG_out (p := p) (v := fun _ _ => 0) (a := a) hy ((opL y a).take j) (fun c hc => opL_lt (List.mem_of_mem_take hc)) hy hlt fun _ => opL_take hj
  unfold chB
  rw [e]
  unfold blk at hb
  have h1 : ¬ cdA (zab a) y ((opL y a).getD j 0) = -1 := fun q => by rw [q] at hb; exact absurd hb (by decide)
  have h2 : ¬ cdA (zab a) y ((opL y a).getD j 0) = 0 := fun q => by rw [q] at hb; exact absurd hb (by decide)
  rw [show oEq (cdA (zab a) y ((opL y a).getD j 0)) (-1) = false from decide_eq_false h1, show oEq (cdA (zab a) y ((opL y a).getD j 0)) 0 = false from decide_eq_false h2]
  rfl
theorem op_chR {y : Nat} {a : AS} {q : Nat → Bool} (hy : y < 16) {j : Nat} (hj : j < 1000) : cdA (zab (opR y q a j).2) y j = cdA (zab a) y j := chG_out hy _ (range_lt (by omega)) hy hj fun _ t => absurd (List.mem_range.mp t) (by omega)
