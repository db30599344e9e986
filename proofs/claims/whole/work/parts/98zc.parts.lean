/-! parts: find -/
theorem getD_appL {l r : List Nat} {j : Nat} (h : j < l.length) : (l ++ r).getD j 0 = l.getD j 0 := by
  rw [List.getD_eq_getElem?_getD, List.getD_eq_getElem?_getD, List.getElem?_append_left h]
/-- where the members of each part stand -/
def STm (g : Nat → Int32) (p : Nat) (lb : Nat → Option Nat) (mem : List Nat) (st : Nat → Nat) : Prop := st (cn p (ldB g)) = mem.length ∧ ∀ f, lead g f → f < p → mem.getD (st (cn f (ldB g))) 0 = f ∧ st (cn f (ldB g)) < st (cn f (ldB g) + 1) ∧ st (cn f (ldB g) + 1) ≤ mem.length ∧
  st (cn f (ldB g) + 1) = st (cn f (ldB g)) + cn 1000 (fun c => decide (lb c = some (cn f (ldB g)))) ∧ (∀ c, c < 1000 → (lb c = some (cn f (ldB g)) ↔ ∃ j, st (cn f (ldB g)) ≤ j ∧ j < st (cn f (ldB g) + 1) ∧ mem.getD j 0 = c)) ∧ ∀ j, st (cn f (ldB g)) ≤ j → j < st (cn f (ldB g) + 1) → mem.getD j 0 < 1000
theorem STm.skip {g : Nat → Int32} {p : Nat} {lb : Nat → Option Nat} {mem : List Nat} {st : Nat → Nat} (h : STm g p lb mem st) (hp : ¬ lead g p) : STm g (p + 1) lb mem st := by
  refine ⟨by rw [cn_ld_skip hp]; exact h.1, fun f hf hfp => h.2 f hf ?_⟩
  by_cases q : f = p
  · rw [q] at hf; exact absurd hf hp
  · omega
theorem STm.add {g : Nat → Int32} {p i : Nat} {lb lb2 : Nat → Option Nat} {mem qs : List Nat} {st : Nat → Nat} {T : Nat → Prop} (h : STm g p lb mem st) (hL : LB g p lb) (hp : lead g p) (hS : SB g p lb i lb2 qs T) (hi : qs.length ≤ i) : STm g (p + 1) lb2 (mem ++ qs) (fun k => if k = cn p (ldB g) + 1 then mem.length + qs.length else st k) := by
  obtain ⟨a1, a2, a3, a4, a5, a6, a7, a8⟩ := hS
  refine ⟨?_, fun f hf hfp => ?_⟩
  · rw [cn_ld_succ hp]
    dsimp only
    rw [if_pos rfl, List.length_append]
  · dsimp only
    rw [List.length_append]
    by_cases q : f = p
    · subst q
      rw [if_neg (by omega), if_pos rfl, h.1]
      refine ⟨?_, by omega, by omega, by rw [a8], fun c hc => ⟨fun hk => ?_, fun ⟨j, j1, j2, j3⟩ => ?_⟩, fun j j1 j2 => ?_⟩
      · have := getD_appR (l := mem) (r := qs) (j := 0)
        rw [Nat.add_zero] at this
        rw [this, a4.2]
      · have hm : c ∈ qs := Classical.byContradiction fun q => by
          rw [a2 c q] at hk
          exact absurd (lb_lt hL hc hk) (Nat.lt_irrefl _)
        obtain ⟨j, j1, j2⟩ := List.getElem_of_mem hm
        refine ⟨mem.length + j, by omega, by omega, ?_⟩
        rw [getD_appR, List.getD_eq_getElem?_getD, List.getElem?_eq_getElem j1]
        exact j2
      · obtain ⟨j', rfl⟩ : ∃ j', j = mem.length + j' := ⟨j - mem.length, by omega⟩
        rw [getD_appR] at j3
        rw [← j3]
        exact a1 _ (getD_mem (by omega))
      · obtain ⟨j', rfl⟩ : ∃ j', j = mem.length + j' := ⟨j - mem.length, by omega⟩
        rw [getD_appR]
        exact (a3 _ (getD_mem (by omega))).2
    · have hfp2 : f < p := by omega
      have hlt := cn_mono (ldB g) (show f + 1 ≤ p by omega)
      rw [cn_ld_succ hf] at hlt
      obtain ⟨h1, h2, h3, h4, h5, h6⟩ := h.2 f hf hfp2
      have hsame : ∀ c, c < 1000 → (lb2 c = some (cn f (ldB g)) ↔ lb c = some (cn f (ldB g))) := fun c hc => by
        by_cases hm : c ∈ qs
        · rw [a1 c hm, lb_none hL hp hc (a3 c hm).1]
          constructor
          · intro q2
            injection q2 with q2
            omega
          · intro q2; cases q2
        · rw [a2 c hm]
      rw [if_neg (by omega), if_neg (by omega)]
      refine ⟨by rw [getD_appL (by omega)]; exact h1, h2, by omega, ?_, fun c hc => ?_, fun j j1 j2 => by rw [getD_appL (by omega)]; exact h6 j j1 j2⟩
      · have e := cn_congr (n := 1000) (p := fun c => decide (lb c = some (cn f (ldB g)))) (q := fun c => decide (lb2 c = some (cn f (ldB g)))) fun c hc => by rw [decide_eq_decide]; exact (hsame c hc).symm
        rw [h4, e]
      · rw [hsame c hc, h5 c hc]
        constructor
        · rintro ⟨j, j1, j2, j3⟩
          exact ⟨j, j1, j2, by rw [getD_appL (by omega)]; exact j3⟩
        · rintro ⟨j, j1, j2, j3⟩
          exact ⟨j, j1, j2, by rw [getD_appL (by omega)] at j3; exact j3⟩
def PSC (g : Nat → Int32) (lb : Nat → Option Nat) (mem : List Nat) (st : Nat → Nat) (M : Mm) : Prop := LMP M (nI (cn 1000 (ldB g))) ∧ PBm M lb mem ∧ STm g 1000 lb mem st ∧ mem.length ≤ 1000 ∧ ∃ fs, M.2.2 60 = aI 0 1001 fs ∧ ∀ k, k ≤ cn 1000 (ldB g) → fs k = nI (st k)
section PFd
variable {M : Mm} {g : Nat → Int32} {bs : List Nat}
theorem GrC.b57 {M' : Mm} (h : GrC M 51 g bs) (hb : But [57, 58, 59, 60] M M') : GrC M' 51 g bs := h.fr (hb.2.2 _ (by decide)) (hb.2.2 _ (by decide)) (hb.2.2 _ (by decide))
theorem sp_find (h : GrC M 51 g bs) {v0 : Int32} (h57 : LMP M v0) (h58 : ∃ f, M.2.2 58 = aI 0 1000 f) (h59 : ∃ f, M.2.2 59 = aI 0 1000 f) (h60 : ∃ f, M.2.2 60 = aI 0 1001 f) : wF F_X6_find [.ref 57, .ref 51] M fun r M' => r = none ∧ But [57, 58, 59, 60] M M' ∧ ∃ lb mem st, LB g 1000 lb ∧ PSC g lb mem st M' := by
  have hbig : big = 1000000 := rfl
  obtain ⟨f0, h58⟩ := h58
  obtain ⟨f1, h59⟩ := h59
  obtain ⟨f2, h60⟩ := h60
  refine wF_b rfl (Nat.le_of_ble_eq_true rfl) ?_
  refine q_for 1000 (fun j L' M3 => L' = [some (.ref 57), some (.ref 51), some (.int (nI j)), none] ∧ But [58] M M3 ∧ ∃ fs, M3.2.2 58 = aI 0 1000 fs ∧ ∀ c, c < j → fs c = -1) rfl (a := 0) rfl rfl (by decide) (by decide) ⟨rfl, But.rf, f0, h58, fun c hc => absurd hc (Nat.not_lt_zero c)⟩ ?_ ?_ ?_
  · rintro j L' M3 ⟨rfl, -⟩
    rfl
  · rintro j L' M3 hj ⟨rfl, b1, fs, b2, b3⟩
    refine l_pa (j := j) (pA_fA (k := 0) (pA_lA rfl) ((b1.2.2 57 (by decide)).trans h57) rfl) (pI_lI rfl) pI_cI b2 (by decide) hj (by decide) (Or.inl rfl) (Or.inr ⟨by decide, by decide, rfl, rfl, rfl, b1.set (by decide), _, get_at, fun c hc => ?_⟩)
    unfold upd
    by_cases e : c = j
    · rw [if_pos e]
    · rw [if_neg e]; exact b3 c (by omega)
  rintro L' M3 ⟨rfl, b1, fs, b2, b3⟩
  refine q_pf (pA_lA rfl) pI_cI ((b1.2.2 57 (by decide)).trans h57) (Nat.le_of_ble_eq_true rfl) ?_
  have b4 : But [57, 58, 59, 60] M (setC M3 57 (.inr (6, [.ref 58, .ref 59, .ref 60, .ref 61, .int 0]))) := (b1.mono (by decide)).set (by decide)
  refine q_I rfl pI_cI ?_
  refine q_for 1000 (fun p L' M4 => ∃ lb mem st, L' = [some (.ref 57), some (.ref 51), some (.int (nI mem.length)), some (.int (nI p))] ∧ But [57, 58, 59, 60] M M4 ∧ LMP M4 (nI (cn p (ldB g))) ∧ PBm M4 lb mem ∧ LB g p lb ∧ STm g p lb mem st ∧ (mem.length = cn 1000 fun c => (lb c).isSome) ∧ ∃ fs, M4.2.2 60 = aI 0 1001 fs ∧ ∀ k, k < cn p (ldB g) → fs k = nI (st k)) rfl (a := 0) rfl rfl (by decide) (by decide) ⟨fun _ => none, [], fun _ => 0, rfl, b4, get_at, ⟨fs, f1, (get_ne (by decide)).trans b2, (get_ne (by decide)).trans ((b1.2.2 59 (by decide)).trans h59), b3, fun j hj => absurd hj (Nat.not_lt_zero j)⟩, LB.zero, ⟨rfl, fun f _ hf => absurd hf (Nat.not_lt_zero f)⟩, (cn_none fun _ _ => rfl).symm, f2, (get_ne (by decide)).trans ((b1.2.2 60 (by decide)).trans h60), fun k hk => absurd hk (Nat.not_lt_zero k)⟩ ?_ ?_ ?_
  · rintro p L' M4 ⟨lb, mem, st, rfl, -⟩
    rfl
  · rintro p L' M4 hp ⟨lb, mem, st, rfl, b1, c57, ⟨fl, fm, u1, u2, u3, u4⟩, hL, hST, hm, fs, c60, c6⟩
    have g4 := h.b57 b1
    have hcp : cn p (ldB g) ≤ p := cn_le _ _
    have hlk : ∀ k, lb p = some k → k ≤ 1000 := fun k q => by
      have := lb_lt hL hp q
      omega
    have h9 := pI_gI (t := 0) (L := [some (.ref 57), some (.ref 51), some (.int (nI mem.length)), some (.int (nI p))]) (pA_fA (k := 0) (pA_lA (i := 0) rfl) c57 rfl) (pI_lI (i := 3) rfl) u1 (inb_nI hp (by decide))
    rw [nI_clamp (by omega), u3 _ hp] at h9
    have hq1 : oEq (oI (lb p)) (-1) = !((lb p).isSome) := by rw [← oI_isS (lb p) hlk, oNe_not, Bool.not_not]
    refine l_if (v := blk g p && !((lb p).isSome)) (pC_and (pC_nz (pI_eq (pI_vV (pR_A (pA_lA rfl) (pR_I (pI_lI rfl) pR_0)) g4.1 (sp_isBlock g4 _)) (show bz (oGt (gAt g (nI p)) 0) = bz (blk g p) by rw [gAt_nI g hp]; rfl))) (pC_eq (pC_kI h9 pI_cI) hq1)) (fun hq => ?_) (fun hq => ?_)
    · obtain ⟨q1, q2⟩ := Bool.and_eq_true_iff.mp hq
      have hn : lb p = none := by
        cases q : lb p with
        | none => rfl
        | some k => rw [q] at q2; cases q2
      have hld := (hL.ld hp).mpr ⟨q1, hn⟩
      refine q_pa (j := cn p (ldB g)) (pA_fA (k := 2) (pA_lA rfl) c57 rfl) (pI_fI (pA_lA rfl) c57 rfl) (pI_lI rfl) c60 (by decide) (by omega) (by decide) (Or.inl rfl) ?_
      obtain ⟨M5, hM5⟩ : ∃ M5, M5 = setC M4 60 (aI 0 1001 (upd fs (cn p (ldB g)) (nI mem.length))) := ⟨_, rfl⟩
      rw [← hM5]
      have b5 : But [60] M4 M5 := by rw [hM5]; exact But.rf.set (by decide)
      have c605 : M5.2.2 60 = aI 0 1001 (upd fs (cn p (ldB g)) (nI mem.length)) := by rw [hM5]; exact get_at
      have b6 : But [57, 58, 59, 60] M M5 := b1.tr (b5.mono (by decide))
      have c575 : LMP M5 (nI (cn p (ldB g))) := (b5.2.2 57 (by decide)).trans c57
      refine q_Iw rfl (wI_vVw (pR_A (pA_lA rfl) (pR_A (pA_lA rfl) (pR_I (pI_lI rfl) (pR_I (pI_lI rfl) pR_0)))) c575 ((sp_gather (h.b57 b6) hL hld rfl c575 ⟨fl, fm, (b5.2.2 58 (by decide)).trans u1, (b5.2.2 59 (by decide)).trans u2, u3, u4⟩ hm).mono ?_))
      rintro r M6 ⟨d1, lb2, qs, rfl, d2, d3⟩
      refine ⟨_, rfl, ?_⟩
      have c576 : LMP M6 (nI (cn p (ldB g))) := (d1.2.2 57 (by decide)).trans c575
      refine l_up (pA_lA rfl) pI_cI c576 rfl (Nat.le_of_ble_eq_true rfl) (Or.inr ⟨by decide, by decide, rfl, rfl, lb2, mem ++ qs, _, rfl, ?_, ?_, ?_, d3.done hL hld (Nat.le_refl _), hST.add hL hld d3 (Nat.le_refl _), ?_, upd fs (cn p (ldB g)) (nI mem.length), ?_, fun k hk => ?_⟩)
      · exact (b6.tr (d1.mono (by decide))).set (by decide)
      · rw [cn_ld_succ hld, ← nI_1]
        exact get_at
      · obtain ⟨w1, w2, w3, w4, w5, w6⟩ := d2
        exact ⟨w1, w2, (get_ne (by decide)).trans w3, (get_ne (by decide)).trans w4, w5, w6⟩
      · rw [List.length_append, hm, ← d3.2.2.2.2.2.2.1]
      · exact (get_ne (by decide)).trans ((d1.2.2 60 (by decide)).trans c605)
      · rw [cn_ld_succ hld] at hk
        rw [if_neg (by omega)]
        unfold upd
        by_cases q : k = cn p (ldB g)
        · rw [if_pos q, q, hST.1]
        · rw [if_neg q]; exact c6 k (by omega)
    · have hnl : ¬ lead g p := fun q => by
        obtain ⟨q1, q2⟩ := (hL.ld hp).mp q
        rw [q1, q2] at hq
        cases hq
      exact wS_nop (Or.inr ⟨by decide, by decide, rfl, rfl, lb, mem, st, rfl, b1, by rw [cn_ld_skip hnl]; exact c57, ⟨fl, fm, u1, u2, u3, u4⟩, hL.skip hnl, hST.skip hnl, hm, fs, c60, fun k hk => c6 k (by rw [cn_ld_skip hnl] at hk; exact hk)⟩)
  · rintro L' M4 ⟨lb, mem, st, rfl, b1, c57, ⟨fl, fm, u1, u2, u3, u4⟩, hL, hST, hm, fs, c60, c6⟩
    have hcp : cn 1000 (ldB g) ≤ 1000 := cn_le _ _
    refine q_pa (j := cn 1000 (ldB g)) (pA_fA (k := 2) (pA_lA rfl) c57 rfl) (pI_fI (pA_lA rfl) c57 rfl) (pI_lI rfl) c60 (by decide) (by omega) (by decide) (Or.inl rfl) (wS_retV ⟨rfl, rfl, b1.set (by decide), lb, mem, st, hL, (get_ne (by decide)).trans c57, ⟨fl, fm, (get_ne (by decide)).trans u1, (get_ne (by decide)).trans u2, u3, u4⟩, hST, by rw [hm]; exact cn_le _ _, _, get_at, fun k hk => ?_⟩)
    unfold upd
    by_cases q : k = cn 1000 (ldB g)
    · rw [if_pos q, q, hST.1]
    · rw [if_neg q]; exact c6 k (by omega)
end PFd
section PFe
variable {L : Nat} {xs : Nat → Int32} {M : Mm} {a : AS}
theorem CSt.wr5 {M' : Mm} (h : CSt L xs a M) (hb : But [57, 58, 59, 60] M M') (h57 : ∃ v, LMP M' v) (h58 : ∃ f, M'.2.2 58 = aI 0 1000 f) (h59 : ∃ f, M'.2.2 59 = aI 0 1000 f) (h60 : ∃ f, M'.2.2 60 = aI 0 1001 f) : CSt L xs a M' := by
  refine ⟨h.1.scr hb (by decide), ?_⟩
  obtain ⟨⟨v1, q1⟩, ⟨v2, q2⟩, -, ⟨v4, q4⟩, q5, -⟩ := h.2
  have s : ∀ b, b ∉ [57, 58, 59, 60] → M'.2.2 b = M.2.2 b := hb.2.2
  refine ⟨⟨v1, (s _ (by decide)).trans q1⟩, ⟨v2, (s _ (by decide)).trans q2⟩, h57, ⟨v4, (s _ (by decide)).trans q4⟩, fun b hb => ?_, h60⟩
  by_cases e : b = 58
  · rw [e]; exact h58
  · by_cases e2 : b = 59
    · rw [e2]; exact h59
    · obtain ⟨k, hk⟩ := q5 b hb
      have all : ∀ b ∈ [52, 53, 55, 56, 58, 59, 61, 63, 65, 66], b = 58 ∨ b = 59 ∨ b ∉ [57, 58, 59, 60] := by decide
      rcases all b hb with t | t | t
      · exact absurd t e
      · exact absurd t e2
      · exact ⟨k, (s b t).trans hk⟩
theorem pA_lumps {Lc : Lv} (h : CCo L xs a M) (h0 : lkp Lc 0 = some (.ref 5)) : pA (fA 10 8 (lA 0)) Lc M (some 57) := pA_fA (pA_lA h0) h.o5 rfl
theorem sp_findPartsC (h : CSt L xs a M) {y : Nat} (hy : y < 4) : wF F_X11_findParts [.ref 5, .int (nI y)] M fun v M' => v = none ∧ CSt L xs a M' ∧ But [51, 52, 53, 57, 58, 59, 60] M M' ∧ GrC M' 51 (cdA (zab a) y) (bls (cdA (zab a) y) 1000) ∧ ∃ lb mem st, LB (cdA (zab a) y) 1000 lb ∧ PSC (cdA (zab a) y) lb mem st M' := by
  obtain ⟨v0, o1, -, -⟩ := h.scr
  refine wF_b rfl (Nat.le_of_ble_eq_true rfl) (q_ex (wV_Vw (pR_A (pA_grid h.1 rfl) (pR_A (pA_yard h.1.1 h.1.o5 hy rfl rfl) pR_0)) o1 ((sp_readC h hy).mono ?_)))
  rintro v M1 ⟨rfl, h1, h2, h3⟩
  obtain ⟨w, hw⟩ := h1.2.2.2.1
  refine ⟨rfl, q_ex (wV_Vw (pR_A (pA_lumps h1.1 rfl) (pR_A (pA_grid h1.1 rfl) pR_0)) hw ((sp_find h3 hw (h1.2.2.2.2.2.1 58 (by decide)) (h1.2.2.2.2.2.1 59 (by decide)) h1.2.2.2.2.2.2).mono ?_))⟩
  rintro v M2 ⟨rfl, k1, lb, mem, st, k2, k3⟩
  obtain ⟨l1, ⟨fl, fm, l2, l3, -⟩, -, -, fs, l4, -⟩ := id k3
  exact ⟨rfl, wS_retV ⟨rfl, rfl, h1.wr5 k1 ⟨_, l1⟩ ⟨_, l2⟩ ⟨_, l3⟩ ⟨_, l4⟩, (h2.mono (by decide)).tr (k1.mono (by decide)), h3.b57 k1, lb, mem, st, k2, k3⟩⟩
end PFe
noncomputable def pnV (y : Int32) (a : AS) : Int32 := if isY y = true then nI (cn 1000 (ldB (cdA (zab a) y.toNatClampNeg))) else -1
theorem ok2_parts (L : Nat) (xs : Nat → Int32) (y : Int32) : OK2 (Inv2 L xs) F_X11_parts F_X12_parts [.int y] := by
  refine ok2_rd (pnV y) (fun a M hO hb h => ?_) (fun a M hO hb h => wF_b rfl (Nat.le_of_ble_eq_true rfl) (r_st h rfl fun M0 h0 s0 => ?_))
  · unfold pnV
    refine wF_b rfl (Nat.le_of_ble_eq_true rfl) (q_if (pC_not (pC_nz (pI_vS (pR_I (pI_lI rfl) pR_0) (sp_isYardC _ _)))) (fun hb1 => ?_) (fun hb1 => ?_))
    · rw [Bool.not_eq_true'] at hb1
      rw [if_neg (by rw [hb1]; decide)]
      exact q_ret pI_cI ⟨rfl, rfl, h, COn.rf⟩
    · rw [Bool.not_eq_false'] at hb1
      rw [if_pos hb1]
      obtain ⟨yn, hy, rfl⟩ := isY_nat hb1
      rw [nI_clamp (by omega)]
      refine q_ex (wV_Vw (pR_A (pA_lA rfl) (pR_I (pI_lI rfl) pR_0)) h.1.o5 ((sp_findPartsC h hy).mono ?_))
      rintro v M1 ⟨rfl, h1, h2, h3, lb, mem, st, k2, k3⟩
      exact ⟨rfl, l_ret (pI_fI (pA_lumps h1.1 rfl) k3.1 rfl) ⟨rfl, rfl, h1, h2.con (by decide)⟩⟩
  · obtain ⟨th, pm, bm, h69⟩ := id h0.2.2
    unfold pnV
    refine q_if (pC_not (pC_nz (pI_vS (pR_I (pI_lI rfl) pR_0) (sp_isYardR _ _)))) (fun hb1 => ?_) (fun hb1 => ?_)
    · rw [Bool.not_eq_true'] at hb1
      rw [if_neg (by rw [hb1]; decide)]
      exact q_ret pI_cI ⟨rfl, rfl, h0, s0⟩
    · rw [Bool.not_eq_false'] at hb1
      rw [if_pos hb1]
      obtain ⟨yn, hy, rfl⟩ := isY_nat hb1
      rw [nI_clamp (by omega)]
      refine q_ex (wV_Vw (pR_A (pA_lA rfl) (pR_I (pI_lI rfl) pR_0)) h69 ((sp_findPartsR h0 hO hy).mono ?_))
      rintro v M1 ⟨rfl, h1, s1, lb, k2, th1, bm1, fl, ff, k3, -⟩
      exact ⟨rfl, l_ret (pI_fI (pA_lA rfl) k3 rfl) ⟨rfl, rfl, h1, s0.tr s1⟩⟩
