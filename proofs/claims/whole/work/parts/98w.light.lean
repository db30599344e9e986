/-! light and dark: the reference's side -/
theorem gt_sub {x y l : Nat} (hx : x < 1000) (hy : y < 1000) (hl : l < 1000) : oGt (nI x - nI l) (nI y) = decide (y + l < x) := by
  unfold oGt
  rw [decide_eq_decide, Int32.lt_iff_toInt_lt, Int32.toInt_sub, nI_toInt (by omega), nI_toInt (by omega), nI_toInt (by omega), Int.bmod_eq_of_le (by omega) (by omega)]
  omega
theorem sw_lt {d : Nat} (h : d < 6) : sw d < 6 := by
  unfold sw
  split <;> omega
section LR
variable {L : Nat} {xs : Nat → Int32} {M : Mm} {a : AS}
theorem oGt_bz (v : Int32) (h : v = 0 ∨ v = 1) : oNe v 0 = oEq v 1 := by rcases h with rfl | rfl <;> rfl
theorem sp_shines (h : RSt L xs a M) (hO : OkA a) {y : Nat} (hy : y < 4) : wF F_X12_shines [.ref 69, .int (nI y)] M fun v M' => v = none ∧ RSt L xs a M' ∧ ROn M M' ∧ RdR M' (cdA (zab a) y) ∧ ∃ fg, M'.2.2 93 = aI 0 1000 fg ∧ ∀ c, c < 1000 → fg c = nI (lvO (ltO a (cdA (zab a) y)) (lsO a (cdA (zab a) y)) (prs (cdA (zab a) y)) c) := by
  have hbig : big = 1000000 := rfl
  obtain ⟨th, pm, bm, h69⟩ := id h.2.2
  refine wF_b rfl (Nat.le_of_ble_eq_true rfl) (q_ex (wV_Vw (pR_A (pA_lA rfl) (pR_I (pI_lI rfl) pR_0)) h69 ((sp_reads h hO.av hy).mono ?_)))
  rintro v M2 ⟨rfl, k1, fk, ft, k2, k3, k4⟩
  have h2 := h.ka k1 (by decide)
  have s2 : ROn M M2 := k1.ron (by decide)
  refine ⟨rfl, ?_⟩
  have hRd : RdR M2 (cdA (zab a) y) := ⟨fk, ft, k2, k3, k4⟩
  obtain ⟨g, hg⟩ : ∃ g, g = cdA (zab a) y := ⟨_, rfl⟩
  rw [← hg] at hRd k4 ⊢
  have hcd : ∀ c, c < 1000 → cOK (zkn a) (g c) := fun c hc => by rw [hg]; exact hO.av.cd (by omega) hc
  have hfk : ∀ c, c < 1000 → fk c = kR (g c) := fun c hc => (k4 c hc).1
  have ho15 := lt_15 hO hcd
  -- reads of what never changes
  have pk : ∀ (Mx : Mm) (Lx : Lv) (q j : Nat), KA [93] M2 Mx → j < 1000 → lkp Lx 0 = some (.ref 69) → lkp Lx q = some (.int (nI j)) → pI (gI 0 (fA 11 19 (lA 0)) (lI q)) Lx Mx (kR (g j)) := fun Mx Lx q j hk hj q0 q9 => by
    obtain ⟨t1, t2, t3, t4⟩ := (h2.ka hk (by decide)).2.2
    have h9 := pI_gI (t := 0) (L := Lx) (pA_fA (k := 19) (pA_lA q0) t4 rfl) (pI_lI q9) ((hk.but.2.2 85 (by decide)).trans k2) (inb_nI hj (by decide))
    rw [nI_clamp (by omega), hfk j hj] at h9
    exact h9
  have p72 : ∀ Mx, KA [93] M2 Mx → Mx.2.2 72 = aI 0 31 (zK a 2) ∧ Mx.2.2 73 = aI 0 31 (zK a 3) := fun Mx hk => ⟨(hk.but.2.2 72 (by decide)).trans h2.1.2.1.2.2.1, (hk.but.2.2 73 (by decide)).trans h2.1.2.1.2.2.2.1⟩
  obtain ⟨f0, h93⟩ := h2.2.1.1 93 (by decide)
  refine q_for 1000 (fun j L' M3 => L' = [some (.ref 69), some (.int (nI y)), some (.int (nI j)), none, none, none, none] ∧ KA [93] M2 M3 ∧ ∃ fg, M3.2.2 93 = aI 0 1000 fg ∧ ∀ c, c < j → fg c = nI (ltO a g c)) rfl (a := 0) rfl rfl (by decide) (by decide) ⟨rfl, KA.rf, f0, h93, fun c hc => absurd hc (Nat.not_lt_zero c)⟩ ?_ ?_ ?_
  · rintro j L' M3 ⟨rfl, -⟩
    rfl
  · rintro j L' M3 hj ⟨rfl, b1, fg, b2, b3⟩
    have h3 := h2.ka b1 (by decide)
    obtain ⟨th3, pm3, bm3, h693⟩ := id h3.2.2
    refine l_pa (j := j) (x := nI (ltO a g j)) (pA_fA (k := 29) (pA_lA rfl) h693 rfl) (pI_lI rfl) (pI_eq (pI_tD (b := blk g j) (x := nI (ltO a g j)) (y := 0) (pC_eq (pC_kI (pk M3 _ 2 j b1 hj rfl rfl) pI_cI) (kR_gt (hcd j hj))) (fun hb => ?_) (fun _ => pI_cI)) ?_) b2 (by decide) hj (by decide) (Or.inl rfl) (Or.inr ⟨by decide, by decide, rfl, rfl, rfl, b1.set (by decide) b2, _, get_at, fun c hc => ?_⟩)
    · obtain ⟨e1, e2, -, e3, -⟩ := lt_ok hO (hcd j hj) hb
      obtain ⟨-, -, e4, -⟩ := blk_facts hO.1 (hcd j hj) hb
      have h9 := pI_gI (t := 0) (L := [some (.ref 69), some (.int (nI y)), some (.int (nI j)), none, none, none, none]) (pA_fA (k := 4) (pA_lA (i := 0) rfl) h693 rfl) (pI_eq (pk M3 _ 2 j b1 hj rfl rfl) (e4.trans e2)) (p72 M3 b1).1 (inb_nI e1 (by decide))
      rw [nI_clamp (by omega), e3] at h9
      exact h9
    · by_cases q : blk g j = true
      · rw [if_pos q]
      · rw [if_neg q, show ltO a g j = 0 from if_neg q]; rfl
    · unfold upd
      by_cases e : c = j
      · rw [if_pos e, e]
      · rw [if_neg e]; exact b3 c (by omega)
  rintro L' M3 ⟨rfl, b1, fg, b2, b3⟩
  refine q_I rfl pI_cI ?_
  have V0 : LvS (ltO a g) (lsO a g) (prs g) (ltO a g) := fun c _ => ⟨Nat.le_refl _, 0, rfl⟩
  refine wS_seq (wS.mono (Q := fun L1 M4 c1 v => c1 = 0 ∧ KA [93] M2 M4 ∧ ∃ V fg, M4.2.2 93 = aI 0 1000 fg ∧ (∀ c, c < 1000 → fg c = nI (V c)) ∧ LvS (ltO a g) (lsO a g) (prs g) V ∧ LvC (lsO a g) (prs g) V) ?_ ?_)
  · refine wS_wh (I := fun m L' M4 => ∃ (b : Nat) (V : Nat → Nat), L' = [some (.ref 69), some (.int (nI y)), some (.int (nI b)), none, none, none, none] ∧ (b = 0 ∨ b = 1) ∧ KA [93] M2 M4 ∧ (∃ fg, M4.2.2 93 = aI 0 1000 fg ∧ ∀ c, c < 1000 → fg c = nI (V c)) ∧ LvS (ltO a g) (lsO a g) (prs g) V ∧ (b = 0 → LvC (lsO a g) (prs g) V ∧ m = 0) ∧ (b = 1 → m + sm 1000 V = 15001)) ?_ (15001 - sm 1000 (ltO a g)) _ _ ⟨1, ltO a g, rfl, Or.inr rfl, b1, ⟨fg, b2, b3⟩, V0, fun q => absurd q (by decide), fun _ => by have := sm_le15 1000 ho15; omega⟩ (by omega)
    rintro m L' M4 ⟨b, V, rfl, hb, c1, ⟨fg, c2, c3⟩, c4, c5, c6⟩
    refine wC_p (pC_eq (pC_kI (pI_lI rfl) pI_cI) (show oNe (nI b) 0 = decide (b = 1) by rcases hb with rfl | rfl <;> rfl)) ⟨fun hr => ?_, fun hr => ?_⟩
    · have hb0 : b = 0 := by have := of_decide_eq_false hr; omega
      exact ⟨rfl, c1, V, fg, c2, c3, c4, (c5 hb0).1⟩
    · have hb1 := of_decide_eq_true hr
      have c6 := c6 hb1
      have hsm := sm_le15 (V := V) 1000 fun c hc => c4.le ho15 hc
      refine q_I rfl pI_cI ?_
      refine l_for 1000 (fun c L' M5 => ∃ (b : Nat) (W : Nat → Nat), L' = [some (.ref 69), some (.int (nI y)), some (.int (nI b)), some (.int (nI c)), none, none, none] ∧ (b = 0 ∨ b = 1) ∧ KA [93] M2 M5 ∧ (∃ fg, M5.2.2 93 = aI 0 1000 fg ∧ ∀ c, c < 1000 → fg c = nI (W c)) ∧ LvS (ltO a g) (lsO a g) (prs g) W ∧ (b = 0 → sm 1000 W = sm 1000 V ∧ ∀ x e, x < c → adj e x → prs g e → prs g x → W e ≤ W x + lsO a g x) ∧ (b = 1 → sm 1000 V < sm 1000 W)) rfl (a := 0) rfl rfl (by decide) (by decide) ⟨0, V, rfl, Or.inl rfl, c1, ⟨fg, c2, c3⟩, c4, fun _ => ⟨rfl, fun x e hx => absurd hx (Nat.not_lt_zero x)⟩, fun q => absurd q (by decide)⟩ ?_ ?_ ?_
      · rintro c L' M5 ⟨b, W, rfl, -⟩
        rfl
      · rintro c L' M5 hc ⟨b, W, rfl, hb, d1, d2, d3, d4, d5⟩
        refine q_if (pC_eq (pC_kI (pk M5 _ 3 c d1 hc rfl rfl) pI_cI) (kR_no (hcd c hc))) (fun hp => ?_) (fun hp => ?_)
        · refine q_cnt (Or.inr ⟨by decide, by decide, rfl, rfl, b, W, rfl, hb, d1, d2, d3, fun q => ⟨(d4 q).1, fun x e hx ha he hx2 => ?_⟩, d5⟩)
          by_cases q2 : x = c
          · rw [q2] at hx2
            exact absurd (of_decide_eq_true hp) hx2
          · exact (d4 q).2 x e (by omega) ha he hx2
        · have hpc : prs g c := of_decide_eq_false hp
          obtain ⟨ls1, ls2⟩ := ls_ok hO (hcd c hc) hpc
          refine l_for 6 (fun d L' M6 => ∃ (b : Nat) (W : Nat → Nat), L' = [some (.ref 69), some (.int (nI y)), some (.int (nI b)), some (.int (nI c)), some (.int (nI d)), none, none] ∧ (b = 0 ∨ b = 1) ∧ KA [93] M2 M6 ∧ (∃ fg, M6.2.2 93 = aI 0 1000 fg ∧ ∀ c, c < 1000 → fg c = nI (W c)) ∧ LvS (ltO a g) (lsO a g) (prs g) W ∧ (b = 0 → sm 1000 W = sm 1000 V ∧ (∀ x e, x < c → adj e x → prs g e → prs g x → W e ≤ W x + lsO a g x) ∧ ∀ d' e, d' < d → nbO c (sw d') = some e → prs g e → W e ≤ W c + lsO a g c) ∧ (b = 1 → sm 1000 V < sm 1000 W)) rfl (a := 0) rfl rfl (by decide) (by decide) ⟨b, W, rfl, hb, d1, d2, d3, fun q => ⟨(d4 q).1, (d4 q).2, fun d' e hx => absurd hx (Nat.not_lt_zero d')⟩, d5⟩ ?_ ?_ ?_
          · rintro d L' M6 ⟨b, W, rfl, -⟩
            rfl
          · rintro d L' M6 hd ⟨b, W, rfl, hb, d1, ⟨fh, d2, d2'⟩, d3, d4, d5⟩
            have h6 := h2.ka d1 (by decide)
            obtain ⟨th6, pm6, bm6, h696⟩ := id h6.2.2
            refine l_scp (q_I rfl (pI_vS (pR_I (pI_lI rfl) (pR_I (pI_lI rfl) pR_0)) (sp_next hc hd M6)) ?_)
            cases hs : nbO c (sw d) with
            | none =>
              refine q_if (v := true) (pC_orT (pC_eq (pC_kI (pI_lI rfl) pI_cI) rfl)) (fun _ => ?_) (fun q => absurd q (by decide))
              refine q_cnt (Or.inr ⟨by decide, by decide, rfl, rfl, b, W, rfl, hb, d1, ⟨fh, d2, d2'⟩, d3, fun q => ⟨(d4 q).1, (d4 q).2.1, fun d' e hx q2 he => ?_⟩, d5⟩)
              by_cases q3 : d' = d
              · rw [q3, hs] at q2; cases q2
              · exact (d4 q).2.2 d' e (by omega) q2 he
            | some e =>
              have he := nbO_lt hc hs
              refine q_if (v := false || oEq (g e) (-1)) (pC_or (pC_eq (pC_kI (pI_lI rfl) pI_cI) (by
                have := oI_isS (some e) fun k q => by cases q; omega
                rw [oNe_not] at this
                have this : (!(oEq (oI (some e)) (-1))) = true := this
                rw [Bool.not_eq_true'] at this
                exact this)) (pC_eq (pC_kI (pk M6 _ 5 e d1 he rfl rfl) pI_cI) (kR_no (hcd e he)))) (fun hq => ?_) (fun hq => ?_)
              · rw [Bool.false_or] at hq
                refine q_cnt (Or.inr ⟨by decide, by decide, rfl, rfl, b, W, rfl, hb, d1, ⟨fh, d2, d2'⟩, d3, fun q => ⟨(d4 q).1, (d4 q).2.1, fun d' e' hx q2 he' => ?_⟩, d5⟩)
                by_cases q3 : d' = d
                · rw [q3, hs] at q2
                  cases q2
                  exact absurd (of_decide_eq_true hq) he'
                · exact (d4 q).2.2 d' e' (by omega) q2 he'
              · rw [Bool.false_or] at hq
                have hpe : prs g e := of_decide_eq_false hq
                have we := d3.le ho15 he
                have wc := d3.le ho15 hc
                have pg : ∀ (Lx : Lv) (q j : Nat), j < 1000 → lkp Lx 0 = some (.ref 69) → lkp Lx q = some (.int (nI j)) → pI (gI 0 (fA 11 29 (lA 0)) (lI q)) Lx M6 (nI (W j)) := fun Lx q j hj q0 q9 => by
                  have h9 := pI_gI (t := 0) (L := Lx) (pA_fA (k := 29) (pA_lA q0) h696 rfl) (pI_lI q9) d2 (inb_nI hj (by decide))
                  rw [nI_clamp (by omega), d2' j hj] at h9
                  exact h9
                have pls : ∀ Lx : Lv, lkp Lx 0 = some (.ref 69) → lkp Lx 3 = some (.int (nI c)) → pI (tI (kI oEq (gI 0 (fA 11 19 (lA 0)) (lI 3)) (cI 0)) (cI 1) (gI 0 (fA 11 5 (lA 0)) (gI 0 (fA 11 19 (lA 0)) (lI 3)))) Lx M6 (nI (lsO a g c)) := fun Lx q0 q3 => by
                  refine pI_eq (pI_tD (b := oEq (g c) 0) (x := 1) (y := nI (lsO a g c)) (pC_eq (pC_kI (pk M6 Lx 3 c d1 hc q0 q3) pI_cI) (kR_0 (hcd c hc))) (fun _ => pI_cI) (fun hz => ?_)) ?_
                  · have hbl : blk g c = true := by
                      rcases kR_cs (hcd c hc) with ⟨e1, -⟩ | ⟨e1, -⟩ | ⟨e1, -⟩
                      · exact absurd e1 hpc
                      · exact absurd e1 (of_decide_eq_false hz)
                      · exact decide_eq_true (Int32.lt_iff_toInt_lt.mpr (show (0 : Int32).toInt < (g c).toInt from e1))
                    obtain ⟨e1, e2, -, -, e3, -⟩ := lt_ok hO (hcd c hc) hbl
                    obtain ⟨-, -, e4, -⟩ := blk_facts hO.1 (hcd c hc) hbl
                    have h9 := pI_gI (t := 0) (L := Lx) (pA_fA (k := 5) (pA_lA q0) h696 rfl) (pI_eq (pk M6 Lx 3 c d1 hc q0 q3) (e4.trans e2)) (p72 M6 d1).2 (inb_nI e1 (by decide))
                    rw [nI_clamp (by omega), e3] at h9
                    exact h9
                  · by_cases q : oEq (g c) 0 = true
                    · rw [if_pos q, show lsO a g c = 1 from if_pos q]; rfl
                    · rw [if_neg q]
                refine q_I rfl (pI_sub (pg _ 5 e he rfl rfl) (pls _ rfl rfl)) (l_if (pC_eq (pC_kI (pI_lI rfl) (pg _ 3 c hc rfl rfl)) (gt_sub (by omega) (by omega) (by omega))) (fun hgt => ?_) (fun hgt => ?_))
                · have hgt := of_decide_eq_true hgt
                  refine q_pa (j := c) (pA_fA (k := 29) (pA_lA rfl) h696 rfl) (pI_lI rfl) (pI_eq (pI_lI rfl) (nI_sub (by omega) (by omega))) d2 (by decide) hc (by decide) (Or.inl rfl) ?_
                  have had : adj e c := ⟨he, hc, d, hd, by rw [← sw_sw (d := d)]; exact nbO_sym (sw_lt hd) hs⟩
                  have hup := d3.up (v := W e - lsO a g c) had hpe hpc (by omega) (by omega)
                  have hsu := sm_up (V := W) (c := c) (v := W e - lsO a g c) hc (by omega)
                  refine l_I rfl pI_cI (Or.inr ⟨by decide, by decide, rfl, rfl, 1, upN W c (W e - lsO a g c), rfl, Or.inr rfl, d1.set (by decide) d2, ⟨_, get_at, fun x hx => ?_⟩, hup, fun q => absurd q (by decide), fun _ => ?_⟩)
                  · unfold upd upN
                    by_cases q : x = c
                    · rw [if_pos q, if_pos q]
                    · rw [if_neg q, if_neg q]; exact d2' x hx
                  · rcases hb with rfl | rfl
                    · rw [← (d4 rfl).1]; exact hsu
                    · exact Nat.lt_trans (d5 rfl) hsu
                · have hgt := of_decide_eq_false hgt
                  refine wS_nop (Or.inr ⟨by decide, by decide, rfl, rfl, b, W, rfl, hb, d1, ⟨fh, d2, d2'⟩, d3, fun q => ⟨(d4 q).1, (d4 q).2.1, fun d' e' hx q2 he' => ?_⟩, d5⟩)
                  by_cases q3 : d' = d
                  · rw [q3, hs] at q2
                    cases q2
                    omega
                  · exact (d4 q).2.2 d' e' (by omega) q2 he'
          · rintro L' M6 ⟨b, W, rfl, hb, d1, d2, d3, d4, d5⟩
            refine Or.inr ⟨by decide, by decide, rfl, rfl, b, W, rfl, hb, d1, d2, d3, fun q => ⟨(d4 q).1, fun x e hx ha he hx2 => ?_⟩, d5⟩
            by_cases q2 : x = c
            · subst q2
              obtain ⟨-, -, d', hd', h9⟩ := ha
              exact (d4 q).2.2 d' e hd' (nbO_sym hd' h9) he
            · exact (d4 q).2.1 x e (by omega) ha he hx2
      · rintro L' M5 ⟨b, W, rfl, hb, d1, d2, d3, d4, d5⟩
        have hsw := sm_le15 (V := W) 1000 fun c hc => d3.le ho15 hc
        refine ⟨fun q => absurd q (by decide), fun q => absurd q (by decide), fun _ _ => wS_nop ⟨rfl, ?_⟩⟩
        rcases hb with rfl | rfl
        · exact ⟨0, by omega, 0, W, rfl, Or.inl rfl, d1, d2, d3, fun _ => ⟨fun e c ha he hc => (d4 rfl).2 c e ha.2.1 ha he hc, rfl⟩, fun q => absurd q (by decide)⟩
        · have := d5 rfl
          exact ⟨15001 - sm 1000 W, by omega, 1, W, rfl, Or.inr rfl, d1, d2, d3, fun q => absurd q (by decide), fun _ => by omega⟩
  · rintro L1 M4 c1 v ⟨rfl, d1, V, fg, d2, d3, d4, d5⟩
    refine ⟨fun _ => wS_retV ⟨rfl, rfl, h2.ka d1 (by decide), s2.tr (d1.ron (by decide)), ?_, fg, d2, fun c hc => ?_⟩, fun q => absurd rfl q⟩
    · exact ⟨fk, ft, (d1.but.2.2 85 (by decide)).trans k2, (d1.but.2.2 86 (by decide)).trans k3, k4⟩
    · rw [d3 c hc, lvO_eq d4 d5 hc]
end LR
