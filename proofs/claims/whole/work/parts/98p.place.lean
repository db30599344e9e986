/-! places and place -/
def shN (n : Nat) : Nat := 10000 * (n / 361) + 100 * (n / 19 % 19) + n % 19
def fit1 (g g' : Nat → Int32) (t c : Nat) : Bool := match fbO t c with
  | some e => oEq (g e) (g' c)
  | none => false
def fits (g g' : Nat → Int32) (n : Nat) : Bool := !(bls g' 1000).isEmpty && (bls g' 1000).all (fit1 g g' (shN n))
def plH (g g' : Nat → Int32) (k : Int32) (n : Nat) : Bool := fits g g' n && oEq (nI (cn n (fits g g'))) k
def plV (g g' : Nat → Int32) (k : Int32) : Int32 := match (List.range 6859).find? (plH g g' k) with
  | some n => nI (shN n)
  | none => if oLt k 0 = true then nI (cn 6859 (fits g g')) else -1
theorem plV_hit {g g' : Nat → Int32} {k : Int32} {n : Nat} (hn : n < 6859) (h : plH g g' k n = true) (h0 : ∀ i, i < n → plH g g' k i = false) : plV g g' k = nI (shN n) := by
  unfold plV
  have e : (List.range 6859).find? (plH g g' k) = some n := List.find?_range_eq_some.mpr ⟨h, List.mem_range.mpr hn, fun j hj => by rw [h0 j hj]; rfl⟩
  rw [e]
theorem plV_no {g g' : Nat → Int32} {k : Int32} (h0 : ∀ i, i < 6859 → plH g g' k i = false) : plV g g' k = if oLt k 0 = true then nI (cn 6859 (fits g g')) else -1 := by
  unfold plV
  have e : (List.range 6859).find? (plH g g' k) = none := List.find?_range_eq_none.mpr fun j hj => by rw [h0 j hj]; rfl
  rw [e]
theorem shN_lt {n : Nat} (h : n < 6859) : shN n < 1000000 ∧ shN n / 10000 = n / 361 ∧ shN n / 100 % 100 = n / 19 % 19 ∧ shN n % 100 = n % 19 := by
  unfold shN
  omega
theorem kd_tn {v w : Int32} : (kd v = kd w ∧ tn v = tn w) ↔ v = w := by
  constructor
  · rintro ⟨h1, h2⟩
    unfold kd at h1
    unfold tn at h2
    rw [h1] at h2
    have := congrArg (fun t => t + w / 24 * 24) h2
    simp only [Int32.sub_add_cancel] at this
    exact this
  · rintro rfl
    exact ⟨rfl, rfl⟩
section PL
variable {L : Nat} {xs : Nat → Int32} {M : Mm} {a : AS}
theorem blk_kR {kn : Nat} {v : Int32} (h : cOK kn v) : oLe (kR v) 0 = !(oGt v 0) := by rw [kR_le h, le_gt]
theorem sp_findBlocks (h : RSt L xs a M) (hO : OkA a) {u : Nat} (hu : u < 4) : wF F_X12_findBlocks [.ref 69, .int (nI u)] M fun v M' => v = none ∧ RSt L xs a M' ∧ ROn M M' ∧ RdR M' (cdA (zab a) u) ∧ (∃ th pm, M'.2.2 69 = .inr (11, fsRv th (zkn a) (znl a) (znr a) pm (zfe a) (nI (bls (cdA (zab a) u) 1000).length))) ∧ ∃ ls, M'.2.2 95 = aI 0 1000 ls ∧ ∀ i, i < (bls (cdA (zab a) u) 1000).length → ls i = nI ((bls (cdA (zab a) u) 1000).getD i 0) := by
  obtain ⟨th, pm, bm, h69⟩ := id h.2.2
  refine wF_b rfl (Nat.le_of_ble_eq_true rfl) (q_pf (pA_lA rfl) pI_cI h69 (Nat.le_of_ble_eq_true rfl) ?_)
  have h1 : RSt L xs a (setC M 69 (.inr (11, fsRv th (zkn a) (znl a) (znr a) pm (zfe a) 0))) := h.set69
  have s1 : ROn M (setC M 69 (.inr (11, fsRv th (zkn a) (znl a) (znr a) pm (zfe a) 0))) := ron_set (by decide) (by decide)
  have hlen : ∀ j, (bls (cdA (zab a) u) j).length ≤ j := bls_len _
  obtain ⟨l0, h95⟩ := h1.2.1.1 95 (by decide)
  refine q_for 1000 (fun j L' M1 => L' = [some (.ref 69), some (.int (nI u)), some (.int (nI j))] ∧ RSt L xs a M1 ∧ ROn M M1 ∧ M1.2.2 69 = .inr (11, fsRv th (zkn a) (znl a) (znr a) pm (zfe a) (nI (bls (cdA (zab a) u) j).length)) ∧ ∃ ls, M1.2.2 95 = aI 0 1000 ls ∧ ∀ i, i < (bls (cdA (zab a) u) j).length → ls i = nI ((bls (cdA (zab a) u) j).getD i 0)) rfl (a := 0) rfl rfl (by decide) (by decide) ⟨rfl, h1, s1, get_at, l0, h95, fun i hi => absurd hi (Nat.not_lt_zero i)⟩ ?_ ?_ ?_
  · rintro j L' M1 ⟨rfl, -⟩
    rfl
  · rintro j L' M1 hj ⟨rfl, b1, b2, b3, ls, b4, b5⟩
    have hcj := hO.av.cd (y := u) (by omega) hj
    have hl := hlen j
    refine q_if (pC_eq (pC_kI (pI_vV (pR_A (pA_lA rfl) (pR_I (pI_lI rfl) (pR_I (pI_lI rfl) pR_0))) b3 (sp_kindR2 b1.1 b1.2.2 (by omega) hj)) pI_cI) (blk_kR hcj)) (fun hb => ?_) (fun hb => ?_)
    · have hb : blk (cdA (zab a) u) j = false := by rw [Bool.not_eq_true'] at hb; exact hb
      have e : bls (cdA (zab a) u) (j + 1) = bls (cdA (zab a) u) j := by rw [bls_succ, if_neg (by rw [hb]; decide), List.append_nil]
      refine q_cnt (Or.inr ⟨by decide, by decide, rfl, rfl, ?_⟩)
      dsimp only
      rw [e]
      exact ⟨rfl, b1, b2, b3, ls, b4, b5⟩
    · have hb : blk (cdA (zab a) u) j = true := by rw [Bool.not_eq_false'] at hb; exact hb
      have e : bls (cdA (zab a) u) (j + 1) = bls (cdA (zab a) u) j ++ [j] := by rw [bls_succ, if_pos hb]
      have k1 : KA [95] M1 (setC M1 95 (aI 0 1000 (upd ls (bls (cdA (zab a) u) j).length (nI j)))) := KA.rf.set (by decide) b4
      have d1 := b1.ka k1 (by decide)
      refine q_pa (j := (bls (cdA (zab a) u) j).length) (pA_fA (k := 31) (pA_lA rfl) b3 rfl) (pI_fI (pA_lA rfl) b3 rfl) (pI_lI rfl) b4 (by decide) (by omega) (by decide) (Or.inl rfl) ?_
      have b3' : (setC M1 95 (aI 0 1000 (upd ls (bls (cdA (zab a) u) j).length (nI j)))).2.2 69 = .inr (11, fsRv th (zkn a) (znl a) (znr a) pm (zfe a) (nI (bls (cdA (zab a) u) j).length)) := (get_ne (by decide)).trans b3
      refine l_up (pA_lA rfl) pI_cI b3' rfl (Nat.le_of_ble_eq_true rfl) (Or.inr ⟨by decide, by decide, rfl, rfl, ?_⟩)
      dsimp only
      rw [e, nI_1]
      refine ⟨rfl, d1.set69, b2.tr ((k1.ron (by decide)).tr (ron_set (by decide) (by decide))), ?_, _, (get_ne (by decide)).trans get_at, fun i hi => ?_⟩
      · rw [List.length_append]
        exact get_at
      · rw [List.length_append] at hi
        have hi : i < (bls (cdA (zab a) u) j).length + 1 := hi
        unfold upd
        by_cases q : i = (bls (cdA (zab a) u) j).length
        · rw [if_pos q, q, List.getD_eq_getElem?_getD, List.getElem?_append_right (Nat.le_refl _), Nat.sub_self]
          rfl
        · rw [if_neg q, b5 i (by omega), List.getD_eq_getElem?_getD, List.getD_eq_getElem?_getD, List.getElem?_append_left (by omega)]
  · rintro L' M1 ⟨rfl, b1, b2, b3, ls, b4, b5⟩
    refine q_ex (wV_Vw (pR_A (pA_lA rfl) (pR_I (pI_lI rfl) pR_0)) b3 ((sp_reads b1 hO.av hu).mono ?_))
    rintro v M2 ⟨rfl, k1, k2⟩
    exact ⟨rfl, wS_retV ⟨rfl, rfl, b1.ka k1 (by decide), b2.tr (k1.ron (by decide)), k2, ⟨th, pm, (k1.but.2.2 69 (by decide)).trans b3⟩, ls, (k1.but.2.2 95 (by decide)).trans b4, b5⟩⟩
theorem oNe_bz (b : Bool) : oNe (bz b) 0 = b := by cases b <;> rfl
theorem sp_goesIn (h : RSt L xs a M) (hO : OkA a) {y u n : Nat} (hy : y < 4) (hu : u < 4) (hn : n < 6859) (hrd : RdR M (cdA (zab a) u)) {th pm : Int32} (h69 : M.2.2 69 = .inr (11, fsRv th (zkn a) (znl a) (znr a) pm (zfe a) (nI (bls (cdA (zab a) u) 1000).length))) {ls : Nat → Int32} (h95 : M.2.2 95 = aI 0 1000 ls) (hls : ∀ i, i < (bls (cdA (zab a) u) 1000).length → ls i = nI ((bls (cdA (zab a) u) 1000).getD i 0)) :
    F_X12_goesIn [.ref 69, .int (nI y), .int (nI (n / 361) - 9), .int (nI (n / 19 % 19) - 9), .int (nI (n % 19) - 9)] M = some (some (.int (bz (fits (cdA (zab a) y) (cdA (zab a) u) n))), M) := by
  obtain ⟨fk, ft, k2, k3, k4⟩ := hrd
  obtain ⟨s, hR, hA⟩ := h.1.rep
  obtain ⟨n1, n2, n3, n4⟩ := shN_lt hn
  have hlen := bls_len (cdA (zab a) u) 1000
  refine wF_eq (wF_b rfl (Nat.le_of_ble_eq_true rfl) ?_)
  refine q_forC (bls (cdA (zab a) u) 1000).length (fun j L' M2 => L' = [some (.ref 69), some (.int (nI y)), some (.int (nI (n / 361) - 9)), some (.int (nI (n / 19 % 19) - 9)), some (.int (nI (n % 19) - 9)), some (.int (nI j)), none, none, none, none] ∧ M2 = M ∧ ∀ i, i < j → fit1 (cdA (zab a) y) (cdA (zab a) u) (shN n) ((bls (cdA (zab a) u) 1000).getD i 0) = true) rfl (a := 0) pI_cI (by have hbig : big = 1000000 := rfl; omega) (Nat.zero_le _) ⟨rfl, rfl, fun i hi => absurd hi (Nat.not_lt_zero i)⟩ ?_ ?_ ?_
  · rintro j L' M2 hj ⟨rfl, rfl, -⟩
    exact pC_eq (pC_kI (pI_lI rfl) (pI_fI (pA_lA rfl) h69 rfl)) (oLt_nI (by omega) (by omega))
  · rintro j L' M2 hj ⟨rfl, rfl, c3⟩
    have hm := getD_mem hj
    obtain ⟨c, ec⟩ : ∃ c, c = (bls (cdA (zab a) u) 1000).getD j 0 := ⟨_, rfl⟩
    rw [← ec] at hm
    have hc : c < 1000 := bls_lt hm
    have hbl := bls_blk hm
    have hcj := hO.av.cd (y := u) (by omega) hc
    obtain ⟨f1, f2, f3, f4, f5, f6, f7, f8⟩ := blk_facts hO.1 hcj hbl
    have p0 : pI (gI 0 (fA 11 31 (lA 0)) (lI 5)) [some (.ref 69), some (.int (nI y)), some (.int (nI (n / 361) - 9)), some (.int (nI (n / 19 % 19) - 9)), some (.int (nI (n % 19) - 9)), some (.int (nI j)), none, none, none, none] M2 (nI c) := by
      have h9 := pI_gI (t := 0) (L := [some (.ref 69), some (.int (nI y)), some (.int (nI (n / 361) - 9)), some (.int (nI (n / 19 % 19) - 9)), some (.int (nI (n % 19) - 9)), some (.int (nI j)), none, none, none, none]) (pA_fA (k := 31) (pA_lA (i := 0) rfl) h69 rfl) (pI_lI (i := 5) rfl) h95 (inb_nI (by omega) (by decide))
      rw [nI_clamp (by omega), hls j hj, ← ec] at h9
      exact h9
    refine l_scp (q_assoc (q_I rfl p0 (q_assoc (q_I rfl (pI_add (pI_eq (pI_div (pI_lI rfl) pI_cI (by decide)) (nI_div (m := 100) rfl (by omega) (by decide) (by decide))) (pI_lI rfl)) (q_assoc (q_I rfl (pI_add (pI_eq (pI_rem (pI_eq (pI_div (pI_lI rfl) pI_cI (by decide)) (nI_div (m := 10) rfl (by omega) (by decide) (by decide))) pI_cI (by decide)) (nI_rem rfl (by omega) (by decide) (by decide))) (pI_lI rfl)) (q_I rfl (pI_add (pI_eq (pI_rem (pI_lI rfl) pI_cI (by decide)) (nI_rem rfl (by omega) (by decide) (by decide))) (pI_lI rfl)) ?_)))))))
    have hrf : oNe (refuA (zab a) y (nI (c / 100) + (nI (n / 361) - 9)) (nI (c / 10 % 10) + (nI (n / 19 % 19) - 9)) (nI (c % 10) + (nI (n % 19) - 9))) 0 = oEq (gO (cdA (zab a) y) (fbO (shN n) c)) (-1) := by
      have q := refu_fb hA (t := shN n) (c := c) (u := y) hc hy
      rw [n2, n3, n4] at q
      rcases q with q | q
      · exact q
      · omega
    have there : ∀ Lx : Lv, lkp Lx 0 = some (.ref 69) → lkp Lx 1 = some (.int (nI y)) → lkp Lx 7 = some (.int (nI (c / 100) + (nI (n / 361) - 9))) → lkp Lx 8 = some (.int (nI (c / 10 % 10) + (nI (n / 19 % 19) - 9))) → lkp Lx 9 = some (.int (nI (c % 10) + (nI (n % 19) - 9))) → pC (kI oNe (vI (ivV 11 F_X12_isThere (rA (lA 0) (rI (lI 1) (rI (lI 7) (rI (lI 8) (rI (lI 9) (r0)))))))) (cI 0)) Lx M2 (oEq (gO (cdA (zab a) y) (fbO (shN n) c)) (-1)) := fun Lx q0 q1 q7 q8 q9 => pC_eq (pC_kI (pI_vV (pR_A (pA_lA q0) (pR_I (pI_lI q1) (pR_I (pI_lI q7) (pR_I (pI_lI q8) (pR_I (pI_lI q9) pR_0))))) h69 (sp_thereR h.1 h.2.2 (by omega) _ _ _)) pI_cI) hrf
    refine l_if (v := !(fit1 (cdA (zab a) y) (cdA (zab a) u) (shN n) c)) ?_ (fun hb => ?_) (fun hb => ?_)
    · cases hX : oEq (gO (cdA (zab a) y) (fbO (shN n) c)) (-1) with
      | true =>
        rw [hX] at there
        refine pC_eq (pC_orT (pC_orT (there _ rfl rfl rfl rfl rfl))) ?_
        have e : fit1 (cdA (zab a) y) (cdA (zab a) u) (shN n) c = false := by
          unfold fit1
          cases q : fbO (shN n) c with
          | none => rfl
          | some e =>
            rw [q] at hX
            have q2 : cdA (zab a) y e = -1 := of_decide_eq_true hX
            show oEq (cdA (zab a) y e) _ = false
            rw [q2]
            exact decide_eq_false fun q3 => f1 q3.symm
        rw [e]; rfl
      | false =>
        rw [hX] at there
        cases q : fbO (shN n) c with
        | none => rw [q] at hX; exact absurd (show (true : Bool) = false from hX) (by decide)
        | some e =>
          have he := fbO_lt q
          rw [q] at hX
          have hne : ¬ cdA (zab a) y e = -1 := of_decide_eq_false hX
          have q' := q
          unfold fbO at q'
          rw [n2, n3, n4] at q'
          split at q'
          · rename_i qq
            injection q' with q5
            have as : ∀ p q : Int32, p + (q - 9) = p + q - 9 := fun p q => by rw [Int32.sub_eq_add_neg, Int32.sub_eq_add_neg, Int32.add_assoc]
            have ez : nI (c / 100) + (nI (n / 361) - 9) = nI (c / 100 + n / 361 - 9) := by rw [as]; exact sh_nI (by omega) (by omega) qq.1.1
            have ex : nI (c / 10 % 10) + (nI (n / 19 % 19) - 9) = nI (c / 10 % 10 + n / 19 % 19 - 9) := by rw [as]; exact sh_nI (by omega) (by omega) qq.2.1.1
            have ew : nI (c % 10) + (nI (n % 19) - 9) = nI (c % 10 + n % 19 - 9) := by rw [as]; exact sh_nI (by omega) (by omega) qq.2.2.1
            rw [← q5, cdA_at _ (by omega) (by omega)] at hne
            obtain ⟨i, ck, ct, hi, e1, d1, d2, d3, d4, -⟩ := sp_cellA h.1 h.2.2 (y := y) (by omega) (z := c / 100 + n / 361 - 9) (x := c / 10 % 10 + n / 19 % 19 - 9) (w := c % 10 + n % 19 - 9) (by omega) (by omega) (by omega) hne
            rw [← cdA_at _ (by omega) (by omega), q5] at d3 d4
            have cell : ∀ Lx : Lv, lkp Lx 0 = some (.ref 69) → lkp Lx 1 = some (.int (nI y)) → lkp Lx 7 = some (.int (nI (c / 100) + (nI (n / 361) - 9))) → lkp Lx 8 = some (.int (nI (c / 10 % 10) + (nI (n / 19 % 19) - 9))) → lkp Lx 9 = some (.int (nI (c % 10) + (nI (n % 19) - 9))) → pI (vI (ivV 11 F_X12_cell (rA (lA 0) (rI (lI 1) (rI (lI 7) (rI (lI 8) (rI (lI 9) (r0)))))))) Lx M2 (nI i) := fun Lx q0 q1 q7 q8 q9 => pI_vV (pR_A (pA_lA q0) (pR_I (pI_lI q1) (pR_I (pI_eq (pI_lI q7) ez) (pR_I (pI_eq (pI_lI q8) ex) (pR_I (pI_eq (pI_lI q9) ew) pR_0))))) h69 e1
            have gk : ∀ Lx : Lv, lkp Lx 0 = some (.ref 69) → lkp Lx 1 = some (.int (nI y)) → lkp Lx 7 = some (.int (nI (c / 100) + (nI (n / 361) - 9))) → lkp Lx 8 = some (.int (nI (c / 10 % 10) + (nI (n / 19 % 19) - 9))) → lkp Lx 9 = some (.int (nI (c % 10) + (nI (n % 19) - 9))) → pI (gI 0 (fA 11 11 (lA 0)) (vI (ivV 11 F_X12_cell (rA (lA 0) (rI (lI 1) (rI (lI 7) (rI (lI 8) (rI (lI 9) (r0))))))))) Lx M2 (kd (cdA (zab a) y e)) := fun Lx q0 q1 q7 q8 q9 => by
              have h9 := pI_gI (t := 0) (L := Lx) (pA_fA (k := 11) (pA_lA q0) h69 rfl) (cell Lx q0 q1 q7 q8 q9) d1 (inb_nI hi (by decide))
              rw [nI_clamp (by omega), d3] at h9
              exact h9
            have gt : ∀ Lx : Lv, lkp Lx 0 = some (.ref 69) → lkp Lx 1 = some (.int (nI y)) → lkp Lx 7 = some (.int (nI (c / 100) + (nI (n / 361) - 9))) → lkp Lx 8 = some (.int (nI (c / 10 % 10) + (nI (n / 19 % 19) - 9))) → lkp Lx 9 = some (.int (nI (c % 10) + (nI (n % 19) - 9))) → pI (gI 0 (fA 11 12 (lA 0)) (vI (ivV 11 F_X12_cell (rA (lA 0) (rI (lI 1) (rI (lI 7) (rI (lI 8) (rI (lI 9) (r0))))))))) Lx M2 (tn (cdA (zab a) y e)) := fun Lx q0 q1 q7 q8 q9 => by
              have h9 := pI_gI (t := 0) (L := Lx) (pA_fA (k := 12) (pA_lA q0) h69 rfl) (cell Lx q0 q1 q7 q8 q9) d2 (inb_nI hi (by decide))
              rw [nI_clamp (by omega), d4] at h9
              exact h9
            have rk : ∀ Lx : Lv, lkp Lx 0 = some (.ref 69) → lkp Lx 6 = some (.int (nI c)) → pI (gI 0 (fA 11 19 (lA 0)) (lI 6)) Lx M2 (kd (cdA (zab a) u c)) := fun Lx q0 q6 => by
              have h9 := pI_gI (t := 0) (L := Lx) (pA_fA (k := 19) (pA_lA q0) h69 rfl) (pI_lI q6) k2 (inb_nI hc (by decide))
              rw [nI_clamp (by omega), (k4 c hc).1, f3] at h9
              exact h9
            have rt : ∀ Lx : Lv, lkp Lx 0 = some (.ref 69) → lkp Lx 6 = some (.int (nI c)) → pI (gI 0 (fA 11 20 (lA 0)) (lI 6)) Lx M2 (tn (cdA (zab a) u c)) := fun Lx q0 q6 => by
              have h9 := pI_gI (t := 0) (L := Lx) (pA_fA (k := 20) (pA_lA q0) h69 rfl) (pI_lI q6) k3 (inb_nI hc (by decide))
              rw [nI_clamp (by omega), (k4 c hc).2, kR_no hcj, if_neg (show ¬ oEq (cdA (zab a) u c) (-1) = true from fun q => f1 (of_decide_eq_true q))] at h9
              exact h9
            refine pC_eq (pC_or (pC_or (there _ rfl rfl rfl rfl rfl) (pC_kI (gk _ rfl rfl rfl rfl rfl) (rk _ rfl rfl))) (pC_kI (gt _ rfl rfl rfl rfl rfl) (rt _ rfl rfl))) ?_
            have ef : fit1 (cdA (zab a) y) (cdA (zab a) u) (shN n) c = oEq (cdA (zab a) y e) (cdA (zab a) u c) := by unfold fit1; rw [q]
            rw [ef, Bool.false_or]
            by_cases qe : cdA (zab a) y e = cdA (zab a) u c
            · rw [qe]
              unfold oNe oEq
              simp
            · have qn : ¬ (kd (cdA (zab a) y e) = kd (cdA (zab a) u c) ∧ tn (cdA (zab a) y e) = tn (cdA (zab a) u c)) := fun q => qe (kd_tn.mp q)
              unfold oNe oEq
              rw [decide_eq_false qe, Bool.not_false, ← Bool.decide_or, decide_eq_true_eq]
              by_cases qk : kd (cdA (zab a) y e) = kd (cdA (zab a) u c)
              · exact Or.inr fun q => qn ⟨qk, q⟩
              · exact Or.inl qk
          · cases q'
    · rw [Bool.not_eq_true'] at hb
      refine l_retZ (v := false) pI_cI (Or.inl ⟨rfl, rfl, ?_, rfl⟩)
      have : fits (cdA (zab a) y) (cdA (zab a) u) n = false := by
        unfold fits
        rw [Bool.and_eq_false_iff]
        right
        exact Bool.eq_false_iff.mpr fun q => by
          rw [List.all_eq_true.mp q c hm] at hb
          cases hb
      rw [this]
    · rw [Bool.not_eq_false'] at hb
      refine wS_nop (Or.inr ⟨by decide, by decide, rfl, rfl, rfl, rfl, fun i hi => ?_⟩)
      by_cases q : i = j
      · rw [q, ← ec]; exact hb
      · exact c3 i (by omega)
  · rintro L' M2 ⟨rfl, rfl, c3⟩
    have hall := all_take c3
    refine l_retZ (v := fits (cdA (zab a) y) (cdA (zab a) u) n) (pI_eq (pI_zI (pC_kI (pI_fI (pA_lA rfl) h69 rfl) pI_cI)) ?_) ⟨rfl, rfl, rfl⟩
    unfold fits
    rw [hall, Bool.and_true]
    refine congrArg bz ?_
    cases q : bls (cdA (zab a) u) 1000 with
    | nil => rfl
    | cons x l =>
      rw [q] at hlen
      exact oGt_nI (b := 0) (by omega) (by decide)
theorem plH_no {g g' : Nat → Int32} {k : Int32} {n : Nat} (h : fits g g' n = false) : plH g g' k n = false := by unfold plH; rw [h]; rfl
theorem sp_goesR (h : RSt L xs a M) (hO : OkA a) {y u : Nat} (hy : y < 4) (hu : u < 4) (k : Int32) (hk : k = -1 ∨ oGe k 0 = true) : wF F_X12_goes [.ref 69, .int (nI y), .int (nI u), .int k] M fun v M' => v = some (.int (plV (cdA (zab a) y) (cdA (zab a) u) k)) ∧ RSt L xs a M' ∧ ROn M M' := by
  obtain ⟨th0, pm0, bm0, h690⟩ := id h.2.2
  refine wF_b rfl (Nat.le_of_ble_eq_true rfl) (q_ex (wV_Vw (pR_A (pA_lA rfl) (pR_I (pI_lI rfl) pR_0)) h690 ((sp_findBlocks h hO hu).mono ?_)))
  rintro v M1 ⟨rfl, h1, s1, hrd, ⟨th, pm, h69⟩, ls, h95, hls⟩
  refine ⟨rfl, q_I rfl pI_cI ?_⟩
  obtain ⟨F, hF⟩ : ∃ F, F = fits (cdA (zab a) y) (cdA (zab a) u) := ⟨_, rfl⟩
  refine q_for 6859 (fun j L' M2 => L' = [some (.ref 69), some (.int (nI y)), some (.int (nI u)), some (.int k), some (.int (nI (cn j F))), some (.int (nI j)), none, none, none] ∧ M2 = M1 ∧ ∀ i, i < j → plH (cdA (zab a) y) (cdA (zab a) u) k i = false) rfl (a := 0) rfl rfl (by decide) (by decide) ⟨rfl, rfl, fun i hi => absurd hi (Nat.not_lt_zero i)⟩ ?_ ?_ ?_
  · rintro j L' M2 ⟨rfl, -⟩
    rfl
  · rintro j L' M2 hj ⟨rfl, rfl, c3⟩
    refine l_scp (q_assoc (q_I rfl (pI_sub (pI_eq (pI_div (pI_lI rfl) pI_cI (by decide)) (nI_div (m := 361) rfl (by omega) (by decide) (by decide))) pI_cI) (q_assoc (q_I rfl (pI_sub (pI_eq (pI_rem (pI_eq (pI_div (pI_lI rfl) pI_cI (by decide)) (nI_div (m := 19) rfl (by omega) (by decide) (by decide))) pI_cI (by decide)) (nI_rem (m := 19) rfl (by omega) (by decide) (by decide))) pI_cI) (q_I rfl (pI_sub (pI_eq (pI_rem (pI_lI rfl) pI_cI (by decide)) (nI_rem (m := 19) rfl (by omega) (by decide) (by decide))) pI_cI) ?_)))))
    refine q_if (v := !(F j)) (pC_not (pC_nz (pI_vV (pR_A (pA_lA rfl) (pR_I (pI_lI rfl) (pR_I (pI_lI rfl) (pR_I (pI_lI rfl) (pR_I (pI_lI rfl) pR_0))))) h69 (by rw [hF]; exact sp_goesIn h1 hO hy hu hj hrd h69 h95 hls)))) (fun hb => ?_) (fun hb => ?_)
    · rw [Bool.not_eq_true'] at hb
      refine q_cnt (Or.inr ⟨by decide, by decide, rfl, rfl, ?_, rfl, fun i hi => ?_⟩)
      · have e : cn (j + 1) F = cn j F := by show cn j F + _ = _; rw [hb]; rfl
        rw [e]; rfl
      · by_cases q : i = j
        · rw [q]; exact plH_no (by rw [← hF]; exact hb)
        · exact c3 i (by omega)
    · rw [Bool.not_eq_false'] at hb
      have ep : plH (cdA (zab a) y) (cdA (zab a) u) k j = oEq (nI (cn j F)) k := by
        unfold plH
        rw [← hF, hb, Bool.true_and]
      refine q_if (pC_kI (pI_lI rfl) (pI_lI rfl)) (fun hb2 => ?_) (fun hb2 => ?_)
      · refine q_ret (pI_add (pI_add (pI_add (pI_mul pI_cI (pI_eq (pI_add (pI_lI rfl) pI_cI) (Int32.sub_add_cancel _ _))) (pI_mul pI_cI (pI_eq (pI_add (pI_lI rfl) pI_cI) (Int32.sub_add_cancel _ _)))) (pI_lI rfl)) pI_cI) (Or.inl ⟨rfl, rfl, ?_, h1, s1⟩)
        rw [plV_hit hj (by rw [ep]; exact hb2) c3, Int32.add_assoc, Int32.sub_add_cancel, nI_mul (c := 10000) (m := 10000) rfl, nI_mul (c := 100) (m := 100) rfl, nI_add, nI_add]
        rfl
      · refine l_inc rfl rfl (Or.inr ⟨by decide, by decide, rfl, rfl, ?_, rfl, fun i hi => ?_⟩)
        · have e : cn (j + 1) F = cn j F + 1 := by show cn j F + _ = _; rw [hb]; rfl
          rw [e, nI_1]; rfl
        · by_cases q : i = j
          · rw [q, ep]; exact hb2
          · exact c3 i (by omega)
  · rintro L' M2 ⟨rfl, rfl, c3⟩
    refine l_ret (pI_tI (pC_kI (pI_lI rfl) pI_cI) (pI_lI rfl) pI_cI) ⟨rfl, ?_, h1, s1⟩
    rw [plV_no c3, hF]
end PL
