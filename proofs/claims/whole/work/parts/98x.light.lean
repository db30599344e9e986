/-! light and dark: the class's side -/
/-- levels above l, and those of l before p, have been spread -/
def LvD (s : Nat → Nat) (P : Nat → Prop) (V : Nat → Nat) (l p : Nat) : Prop := ∀ c e, adj c e → P c → P e → (l < V c ∨ (V c = l ∧ c < p)) → V c ≤ V e + s e
theorem le_max {x y : Nat} (hx : x < 1000) (hy : y < 1000) : (if nI x < nI y then nI y else nI x) = nI (if x < y then y else x) := by
  by_cases e : x < y
  · rw [if_pos e, if_pos (of_decide_eq_true ((oLt_nI (a := x) (b := y) (by omega) (by omega)).trans (decide_eq_true e)))]
  · rw [if_neg e, if_neg (of_decide_eq_false ((oLt_nI (a := x) (b := y) (by omega) (by omega)).trans (decide_eq_false e)))]
/-- max of a level and another less a loss -/
theorem sub_max {x y l : Nat} (hx : x < 1000) (hy : y < 1000) (hl : l < 1000) : (if nI x < nI y - nI l then nI y - nI l else nI x) = nI (if x + l < y then y - l else x) := by
  have h := gt_sub (x := y) (y := x) (l := l) hy hx hl
  by_cases e : x + l < y
  · rw [if_pos e, if_pos (of_decide_eq_true (h.trans (decide_eq_true e))), nI_sub (by omega) (by omega)]
  · rw [if_neg e, if_neg (of_decide_eq_false (h.trans (decide_eq_false e)))]
section LCl
variable {L : Nat} {xs : Nat → Int32} {M : Mm} {a : AS} {g : Nat → Int32} {bs : List Nat}
theorem sp_lossOf (h : CCo L xs a M) (hO : OkA a) {c : Nat} (hc : cOK (zkn a) (g c)) (hp : prs g c) : F_X2_lossOf [.ref 7, .int (kd (g c))] M = some (some (.int (nI (lsO a g c))), M) := by
  by_cases q : blk g c = true
  · obtain ⟨e1, e2, e3, -, e4, -⟩ := lt_ok hO hc q
    have h9 := pI_gI (t := 0) (M := M) (L := mkL 2 [.ref 7, .int (kd (g c))]) (pA_fA (k := 3) (pA_lA (i := 0) rfl) h.k7 rfl) (pI_eq (pI_lI (i := 1) rfl) e2) h.2.1.2.2.2.2.1 (inb_nI e1 (by decide))
    rw [nI_clamp (by omega), e4] at h9
    refine wF_eq (wF_b rfl (Nat.le_of_ble_eq_true rfl) (l_ret (pI_eq (pI_tI (b := true) (pC_eq (pC_nz (pI_vV (pR_A (pA_lA rfl) (pR_I (pI_lI rfl) pR_0)) h.k7 (sp_isKindC h.k7 _))) e3) h9 pI_cI) (if_pos rfl)) ⟨rfl, rfl, rfl⟩))
  · have hz : g c = 0 := by
      rcases kR_cs hc with ⟨e, -⟩ | ⟨e, -⟩ | ⟨e, -⟩
      · exact absurd e hp
      · exact e
      · exact absurd (decide_eq_true (Int32.lt_iff_toInt_lt.mpr (show (0 : Int32).toInt < (g c).toInt from e))) q
    have hl : lsO a g c = 1 := if_pos (decide_eq_true hz)
    rw [hl, hz]
    exact wF_eq (wF_b rfl (Nat.le_of_ble_eq_true rfl) (l_ret (pI_tD (b := false) (x := 0) (y := 1) (pC_eq (pC_nz (pI_vV (pR_A (pA_lA rfl) (pR_I (pI_lI rfl) pR_0)) h.k7 (sp_isKindC h.k7 _))) rfl) (fun q => absurd q (by decide)) (fun _ => pI_cI)) ⟨rfl, rfl, rfl⟩))
theorem sp_lightOf (h : CCo L xs a M) (hO : OkA a) {c : Nat} (hc : cOK (zkn a) (g c)) (q : blk g c = true) : F_X2_lightOf [.ref 7, .int (kd (g c))] M = some (some (.int (nI (ltO a g c))), M) := by
  obtain ⟨e1, e2, e3, e4, -⟩ := lt_ok hO hc q
  have h9 := pI_gI (t := 0) (M := M) (L := mkL 2 [.ref 7, .int (kd (g c))]) (pA_fA (k := 2) (pA_lA (i := 0) rfl) h.k7 rfl) (pI_eq (pI_lI (i := 1) rfl) e2) h.2.1.2.2.2.1 (inb_nI e1 (by decide))
  rw [nI_clamp (by omega), e4] at h9
  exact wF_eq (wF_b rfl (Nat.le_of_ble_eq_true rfl) (l_ret (pI_eq (pI_tI (b := true) (pC_eq (pC_nz (pI_vV (pR_A (pA_lA rfl) (pR_I (pI_lI rfl) pR_0)) h.k7 (sp_isKindC h.k7 _))) e3) h9 pI_cI) (if_pos rfl)) ⟨rfl, rfl, rfl⟩))
theorem CCo.b63 {M' : Mm} (h : CCo L xs a M) (hb : But [63] M M') : CCo L xs a M' := h.scr hb (by decide)
theorem GrC.b63 {M' : Mm} (h : GrC M 51 g bs) (hb : But [63] M M') : GrC M' 51 g bs := h.fr (hb.2.2 _ (by decide)) (hb.2.2 _ (by decide)) (hb.2.2 _ (by decide))
theorem sp_spread (h : CCo L xs a M) (hO : OkA a) (hg : GrC M 51 g bs) (hcd : ∀ c, c < 1000 → cOK (zkn a) (g c)) {c l : Nat} (hc : c < 1000) (hpc : prs g c) (hl2 : 1 ≤ l) {V : Nat → Nat} {fg : Nat → Int32} (h63 : M.2.2 63 = aI 0 1000 fg) (hfg : ∀ c, c < 1000 → fg c = nI (V c)) (hS : LvS (ltO a g) (lsO a g) (prs g) V) (hV : V c = l) (hD : LvD (lsO a g) (prs g) V l c) (hm : ∀ c, c < 1000 → V c ≤ 15) :
    wF F_X3_spread [.ref 62, .int (nI c), .ref 51, .ref 7] M fun r M' => r = none ∧ But [63] M M' ∧ ∃ W fg, M'.2.2 63 = aI 0 1000 fg ∧ (∀ c, c < 1000 → fg c = nI (W c)) ∧ LvS (ltO a g) (lsO a g) (prs g) W ∧ LvD (lsO a g) (prs g) W l (c + 1) := by
  have h62 : M.2.2 62 = .inr (3, [.ref 63]) := h.1.2.2.2.2.2.2
  have ho15 := lt_15 hO hcd
  refine wF_b rfl (Nat.le_of_ble_eq_true rfl) ?_
  refine q_for 6 (fun d L' M1 => L' = [some (.ref 62), some (.int (nI c)), some (.ref 51), some (.ref 7), some (.int (nI d)), none, none] ∧ But [63] M M1 ∧ ∃ W fg, M1.2.2 63 = aI 0 1000 fg ∧ (∀ c, c < 1000 → fg c = nI (W c)) ∧ LvS (ltO a g) (lsO a g) (prs g) W ∧ W c = l ∧ LvD (lsO a g) (prs g) W l c ∧ ∀ d' e, d' < d → nbO c d' = some e → prs g e → W c ≤ W e + lsO a g e) rfl (a := 0) rfl rfl (by decide) (by decide) ⟨rfl, But.rf, V, fg, h63, hfg, hS, hV, hD, fun d' e hd => absurd hd (Nat.not_lt_zero d')⟩ ?_ ?_ ?_
  · rintro d L' M1 ⟨rfl, -⟩
    rfl
  · rintro d L' M1 hd ⟨rfl, b1, W, fh, b2, b3, b4, b5, b6, b7⟩
    have g1 := hg.b63 b1
    have h1 := h.b63 b1
    have h621 : M1.2.2 62 = .inr (3, [.ref 63]) := (b1.2.2 62 (by decide)).trans h62
    refine l_scp (q_I rfl (pI_vS (pR_I (pI_lI rfl) (pR_I (pI_lI rfl) pR_0)) (sp_beside hc hd M1)) ?_)
    cases hs : nbO c d with
    | none =>
      refine q_I rfl (pI_vV (pR_A (pA_lA rfl) (pR_I (pI_lI rfl) pR_0)) g1.1 (sp_code g1 _)) (l_if (v := false) (pC_eq (pC_kI (pI_lI rfl) pI_cI) rfl) (fun q => absurd q (by decide)) (fun _ => wS_nop (Or.inr ⟨by decide, by decide, rfl, rfl, rfl, b1, W, fh, b2, b3, b4, b5, b6, fun d' e hx q2 he => ?_⟩)))
      by_cases q3 : d' = d
      · rw [q3, hs] at q2; cases q2
      · exact b7 d' e (by omega) q2 he
    | some e =>
      have he := nbO_lt hc hs
      refine q_I rfl (pI_eq (pI_vV (pR_A (pA_lA rfl) (pR_I (pI_lI rfl) pR_0)) g1.1 (sp_code g1 _)) (gAt_nI g he)) (l_if (pC_eq (pC_kI (pI_lI rfl) pI_cI) (oNe_not _ _)) (fun hq => ?_) (fun hq => ?_))
      · rw [Bool.not_eq_true'] at hq
        have hpe : prs g e := of_decide_eq_false hq
        obtain ⟨ls1, ls2⟩ := ls_ok hO (hcd e he) hpe
        have we := b4.le ho15 he
        have wc := b4.le ho15 hc
        have pg : ∀ (Lx : Lv) (q j : Nat), j < 1000 → lkp Lx 0 = some (.ref 62) → lkp Lx q = some (.int (nI j)) → pI (gI 0 (fA 3 0 (lA 0)) (lI q)) Lx M1 (nI (W j)) := fun Lx q j hj q0 q9 => by
          have h9 := pI_gI (t := 0) (L := Lx) (pA_fA (k := 0) (pA_lA q0) h621 rfl) (pI_lI q9) b2 (inb_nI hj (by decide))
          rw [nI_clamp (by omega), b3 j hj] at h9
          exact h9
        refine l_pa (j := e) (pA_fA (k := 0) (pA_lA rfl) h621 rfl) (pI_lI rfl) (pI_eq (pI_max (pg _ 5 e he rfl rfl) (pI_sub (pg _ 1 c hc rfl rfl) (pI_vV (pR_A (pA_lA rfl) (pR_I (pI_vS (pR_I (pI_lI rfl) pR_0) (sp_kindOf _ _)) pR_0)) h1.k7 (sp_lossOf h1 hO (hcd e he) hpe)))) (sub_max (by omega) (by omega) (by omega))) b2 (by decide) he (by decide) (Or.inl rfl) ?_
        refine Or.inr ⟨by decide, by decide, rfl, rfl, rfl, b1.set (by decide), upN W e (if W e + lsO a g e < W c then W c - lsO a g e else W e), _, get_at, fun x hx => ?_, ?_⟩
        · unfold upd upN
          by_cases q : x = e
          · rw [if_pos q, if_pos q]
          · rw [if_neg q, if_neg q]; exact b3 x hx
        · have had : adj c e := ⟨hc, he, d, hd, hs⟩
          by_cases q : W e + lsO a g e < W c
          · rw [if_pos q]
            have hup := b4.up (v := W c - lsO a g e) had hpc hpe (by omega) (by omega)
            have hce : c ≠ e := fun q2 => by rw [← q2] at q; omega
            have u1 : upN W e (W c - lsO a g e) c = W c := if_neg hce
            have ule : ∀ x, W x ≤ upN W e (W c - lsO a g e) x := fun x => by
              unfold upN
              by_cases q2 : x = e
              · rw [if_pos q2, q2]; omega
              · rw [if_neg q2]; exact Nat.le_refl _
            refine ⟨hup, u1.trans b5, fun x e' ha hx he' hx2 => ?_, fun d' e' hx q2 he' => ?_⟩
            · by_cases q2 : x = e
              · have u2 : upN W e (W c - lsO a g e) x = W c - lsO a g e := if_pos q2
                rw [u2] at hx2
                omega
              · have u2 : upN W e (W c - lsO a g e) x = W x := if_neg q2
                rw [u2] at hx2 ⊢
                have := b6 x e' ha hx he' hx2
                have := ule e'
                omega
            · rw [u1]
              by_cases q3 : d' = d
              · rw [q3, hs] at q2
                cases q2
                have u2 : upN W e (W c - lsO a g e) e = W c - lsO a g e := if_pos rfl
                rw [u2]
                omega
              · have := b7 d' e' (by omega) q2 he'
                have := ule e'
                omega
          · rw [if_neg q]
            have u0 : upN W e (W e) = W := funext fun x => by
              unfold upN
              by_cases q2 : x = e
              · rw [if_pos q2, q2]
              · rw [if_neg q2]
            rw [u0]
            refine ⟨b4, b5, b6, fun d' e' hx q2 he' => ?_⟩
            by_cases q3 : d' = d
            · rw [q3, hs] at q2
              cases q2
              omega
            · exact b7 d' e' (by omega) q2 he'
      · rw [Bool.not_eq_false'] at hq
        refine wS_nop (Or.inr ⟨by decide, by decide, rfl, rfl, rfl, b1, W, fh, b2, b3, b4, b5, b6, fun d' e' hx q2 he' => ?_⟩)
        by_cases q3 : d' = d
        · rw [q3, hs] at q2
          cases q2
          exact absurd (of_decide_eq_true hq) he'
        · exact b7 d' e' (by omega) q2 he'
  · rintro L' M1 ⟨rfl, b1, W, fh, b2, b3, b4, b5, b6, b7⟩
    refine wS_retV ⟨rfl, rfl, b1, W, fh, b2, b3, b4, fun x e ha hx he hx2 => ?_⟩
    by_cases q : x = c
    · rw [q] at ha ⊢
      obtain ⟨-, -, d, hd, h9⟩ := ha
      exact b7 d e hd h9 he
    · exact b6 x e ha hx he (by omega)
end LCl
