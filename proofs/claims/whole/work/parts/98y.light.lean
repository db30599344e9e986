section LCm
variable {L : Nat} {xs : Nat → Int32} {M : Mm} {a : AS} {g : Nat → Int32} {bs : List Nat}
theorem rz_np {o s : Nat → Nat} {P : Nat → Prop} {c : Nat} (h : ¬ P c) : ∀ k n, rz o s P k c n → n = o c := by
  intro k
  induction k with
  | zero => exact fun n q => q
  | succ k ih =>
    intro n q
    rcases q with q | ⟨e, -, -, q, -⟩
    · exact ih n q
    · exact absurd q h
theorem sp_shine (h : CCo L xs a M) (hO : OkA a) (hg : GrC M 51 g bs) (hcd : ∀ c, c < 1000 → cOK (zkn a) (g c)) (h63 : ∃ f, M.2.2 63 = aI 0 1000 f) :
    wF F_X3_shine [.ref 62, .ref 51, .ref 7] M fun r M' => r = none ∧ But [63] M M' ∧ ∃ fg, M'.2.2 63 = aI 0 1000 fg ∧ ∀ c, c < 1000 → fg c = nI (lvO (ltO a g) (lsO a g) (prs g) c) := by
  have hbig : big = 1000000 := rfl
  have h62 : M.2.2 62 = .inr (3, [.ref 63]) := h.1.2.2.2.2.2.2
  have ho15 := lt_15 hO hcd
  obtain ⟨f0, h63⟩ := h63
  refine wF_b rfl (Nat.le_of_ble_eq_true rfl) (q_I rfl pI_cI ?_)
  refine q_for 1000 (fun j L' M1 => ∃ mx, mx ≤ 15 ∧ L' = [some (.ref 62), some (.ref 51), some (.ref 7), some (.int (nI mx)), some (.int (nI j)), none] ∧ But [63] M M1 ∧ (∃ fg, M1.2.2 63 = aI 0 1000 fg ∧ ∀ c, c < j → fg c = nI (ltO a g c)) ∧ ∀ c, c < j → ltO a g c ≤ mx) rfl (a := 0) rfl rfl (by decide) (by decide) ⟨0, by decide, rfl, But.rf, ⟨f0, h63, fun c hc => absurd hc (Nat.not_lt_zero c)⟩, fun c hc => absurd hc (Nat.not_lt_zero c)⟩ ?_ ?_ ?_
  · rintro j L' M1 ⟨mx, -, rfl, -⟩
    rfl
  · rintro j L' M1 hj ⟨mx, hm, rfl, b1, ⟨fg, b2, b3⟩, b4⟩
    have g1 := hg.b63 b1
    have h1 := h.b63 b1
    have h621 : M1.2.2 62 = .inr (3, [.ref 63]) := (b1.2.2 62 (by decide)).trans h62
    have hl := ho15 j hj
    have pc : ∀ Lx : Lv, lkp Lx 1 = some (.ref 51) → lkp Lx 4 = some (.int (nI j)) → pI (vI (ivV 1 F_X1_code (rA (lA 1) (rI (lI 4) (r0))))) Lx M1 (g j) := fun Lx q1 q4 => pI_eq (pI_vV (pR_A (pA_lA q1) (pR_I (pI_lI q4) pR_0)) g1.1 (sp_code g1 _)) (gAt_nI g hj)
    refine q_pa (j := j) (x := nI (ltO a g j)) (pA_fA (k := 0) (pA_lA rfl) h621 rfl) (pI_lI rfl) (pI_eq (pI_tD (b := blk g j) (x := nI (ltO a g j)) (y := 0) (pC_nz (pI_eq (pI_vV (pR_A (pA_lA rfl) (pR_I (pI_lI rfl) pR_0)) g1.1 (sp_isBlock g1 _)) (show bz (oGt (gAt g (nI j)) 0) = bz (blk g j) by rw [gAt_nI g hj]; rfl))) (fun hb => pI_vV (pR_A (pA_lA rfl) (pR_I (pI_vS (pR_I (pc _ rfl rfl) pR_0) (sp_kindOf _ _)) pR_0)) h1.k7 (sp_lightOf h1 hO (hcd j hj) hb)) (fun _ => pI_cI)) ?_) b2 (by decide) hj (by decide) (Or.inl rfl) ?_
    · by_cases q : blk g j = true
      · rw [if_pos q]
      · rw [if_neg q, show ltO a g j = 0 from if_neg q]; rfl
    · have h622 : (setC M1 63 (aI 0 1000 (upd fg j (nI (ltO a g j))))).2.2 62 = .inr (3, [.ref 63]) := (get_ne (by decide)).trans h621
      have h9 := pI_gI (t := 0) (L := [some (.ref 62), some (.ref 51), some (.ref 7), some (.int (nI mx)), some (.int (nI j)), none]) (pA_fA (k := 0) (pA_lA (i := 0) rfl) h622 rfl) (pI_lI (i := 4) rfl) get_at (inb_nI hj (by decide))
      rw [nI_clamp (by omega), show upd fg j (nI (ltO a g j)) j = nI (ltO a g j) from if_pos rfl] at h9
      refine l_I rfl (pI_eq (pI_max (pI_lI rfl) h9) (le_max (by omega) (by omega))) (Or.inr ⟨by decide, by decide, rfl, rfl, if mx < ltO a g j then ltO a g j else mx, ?_, rfl, b1.set (by decide), ⟨_, get_at, fun c hc => ?_⟩, fun c hc => ?_⟩)
      · split <;> omega
      · unfold upd
        by_cases e : c = j
        · rw [if_pos e, e]
        · rw [if_neg e]; exact b3 c (by omega)
      · by_cases e : c = j
        · rw [e]; split <;> omega
        · have := b4 c (by omega)
          split <;> omega
  rintro L' M1 ⟨mx, hm, rfl, b1, ⟨fg, b2, b3⟩, b4⟩
  refine q_scp (q_I rfl (pI_lI rfl) (wS_wh (I := fun l L' M2 => ∃ V fg, L' = [some (.ref 62), some (.ref 51), some (.ref 7), some (.int (nI mx)), some (.int (nI l)), none] ∧ But [63] M M2 ∧ M2.2.2 63 = aI 0 1000 fg ∧ (∀ c, c < 1000 → fg c = nI (V c)) ∧ LvS (ltO a g) (lsO a g) (prs g) V ∧ LvD (lsO a g) (prs g) V l 0 ∧ l ≤ 15) ?_ mx _ _ ⟨ltO a g, fg, rfl, b1, b2, b3, fun c _ => ⟨Nat.le_refl _, 0, rfl⟩, fun c e ha _ _ q => ?_, hm⟩ (by omega)))
  rotate_left
  · have := b4 c ha.1
    omega
  rintro l L' M2 ⟨V, fh, rfl, c1, c2, c3, c4, c5, hl15⟩
  refine wC_p (pC_eq (pC_kI (pI_lI rfl) pI_cI) (oGt_nI (a := l) (b := 1) (by omega) (by decide))) ⟨fun hr => ⟨fun _ => ?_, fun q => absurd rfl q⟩, fun hr => ?_⟩
  · have hl := of_decide_eq_false hr
    have hLC : LvC (lsO a g) (prs g) V := fun e c ha he hc => by
      by_cases q : l < V e
      · exact c5 e c ha he hc (Or.inl q)
      · have := (ls_ok hO (hcd c ha.2.1) hc).1
        omega
    exact wS_retV ⟨rfl, rfl, c1, fh, c2, fun c hc => by rw [c3 c hc, lvO_eq c4 hLC hc]⟩
  · have hl := of_decide_eq_true hr
    refine l_for 1000 (fun j L' M3 => L' = [some (.ref 62), some (.ref 51), some (.ref 7), some (.int (nI mx)), some (.int (nI l)), some (.int (nI j))] ∧ But [63] M M3 ∧ ∃ V fg, M3.2.2 63 = aI 0 1000 fg ∧ (∀ c, c < 1000 → fg c = nI (V c)) ∧ LvS (ltO a g) (lsO a g) (prs g) V ∧ LvD (lsO a g) (prs g) V l j) rfl (a := 0) rfl rfl (by decide) (by decide) ⟨rfl, c1, V, fh, c2, c3, c4, c5⟩ ?_ ?_ ?_
    · rintro j L' M3 ⟨rfl, -⟩
      rfl
    · rintro j L' M3 hj ⟨rfl, d1, W, fi, d2, d3, d4, d5⟩
      have g3 := hg.b63 d1
      have h3 := h.b63 d1
      have h623 : M3.2.2 62 = .inr (3, [.ref 63]) := (d1.2.2 62 (by decide)).trans h62
      have h9 := pI_gI (t := 0) (L := [some (.ref 62), some (.ref 51), some (.ref 7), some (.int (nI mx)), some (.int (nI l)), some (.int (nI j))]) (pA_fA (k := 0) (pA_lA (i := 0) rfl) h623 rfl) (pI_lI (i := 5) rfl) d2 (inb_nI hj (by decide))
      rw [nI_clamp (by omega), d3 j hj] at h9
      have wj := d4.le ho15 hj
      refine l_if (pC_eq (pC_kI h9 (pI_lI rfl)) (oEq_nI (by omega) (by omega))) (fun hq => ?_) (fun hq => ?_)
      · have hq := of_decide_eq_true hq
        have hp : prs g j := fun q => by
          obtain ⟨k, q2⟩ := (d4 j hj).2
          have := rz_np (c := j) (fun (q3 : prs g j) => q3 q) k _ q2
          have e0 : ltO a g j = 0 := if_neg (by
            unfold blk
            rw [q]
            decide)
          omega
        refine wS_exV (wV_Vw (pR_A (pA_lA rfl) (pR_I (pI_lI rfl) (pR_A (pA_lA rfl) (pR_A (pA_lA rfl) pR_0)))) h623 ((sp_spread h3 hO g3 hcd hj hp (by omega) d2 d3 d4 hq d5 (fun c hc => d4.le ho15 hc)).mono ?_))
        rintro r M4 ⟨rfl, e1, W', fj, e2, e3, e4, e5⟩
        exact ⟨rfl, Or.inr ⟨by decide, by decide, rfl, rfl, rfl, d1.tr e1, W', fj, e2, e3, e4, e5⟩⟩
      · have hq := of_decide_eq_false hq
        refine wS_nop (Or.inr ⟨by decide, by decide, rfl, rfl, rfl, d1, W, fi, d2, d3, d4, fun x e ha hx he hx2 => ?_⟩)
        refine d5 x e ha hx he ?_
        rcases hx2 with q | ⟨q1, q2⟩
        · exact Or.inl q
        · by_cases q3 : x = j
          · rw [q3] at q1; exact absurd q1 hq
          · exact Or.inr ⟨q1, by omega⟩
    · rintro L' M3 ⟨rfl, d1, W, fi, d2, d3, d4, d5⟩
      refine ⟨fun q => absurd q (by decide), fun q => absurd q (by decide), fun _ _ => wS_inc rfl rfl ⟨rfl, l - 1, by omega, W, fi, ?_, d1, d2, d3, d4, fun x e ha hx he hx2 => d5 x e ha hx he ?_, by omega⟩⟩
      · rw [show nI l + -1 = nI (l - 1) by rw [← Int32.sub_eq_add_neg]; exact nI_sub (b := 1) (by omega) (by omega)]
        rfl
      · have := ha.1
        omega
theorem CSt.wr4 {M' : Mm} (h : CSt L xs a M) (hb : But [63] M M') (h63 : ∃ f, M'.2.2 63 = aI 0 1000 f) : CSt L xs a M' := by
  refine ⟨h.1.scr hb (by decide), ?_⟩
  obtain ⟨⟨v1, q1⟩, ⟨v2, q2⟩, ⟨v3, q3⟩, ⟨v4, q4⟩, q5, ⟨f6, q6⟩⟩ := h.2
  have s : ∀ b, b ∉ [63] → M'.2.2 b = M.2.2 b := hb.2.2
  refine ⟨⟨v1, (s _ (by decide)).trans q1⟩, ⟨v2, (s _ (by decide)).trans q2⟩, ⟨v3, (s _ (by decide)).trans q3⟩, ⟨v4, (s _ (by decide)).trans q4⟩, fun b hb => ?_, ⟨f6, (s _ (by decide)).trans q6⟩⟩
  by_cases e : b = 63
  · rw [e]; exact h63
  · obtain ⟨k, hk⟩ := q5 b hb
    have all : ∀ b ∈ [52, 53, 55, 56, 58, 59, 61, 63, 65, 66], b = 63 ∨ b ∉ [63] := by decide
    rcases all b hb with t | t
    · exact absurd t e
    · exact ⟨k, (s b t).trans hk⟩
theorem pA_lamps {Lc : Lv} (h : CCo L xs a M) (h0 : lkp Lc 0 = some (.ref 5)) : pA (fA 10 9 (lA 0)) Lc M (some 62) := pA_fA (pA_lA h0) h.o5 rfl
end LCm
noncomputable def lvA (a : AS) (y c : Nat) : Nat := lvO (ltO a (cdA (zab a) y)) (lsO a (cdA (zab a) y)) (prs (cdA (zab a) y)) c
noncomputable def liV (y z x w : Int32) (a : AS) : Int32 := if oEq (thV (zab a) y z x w) 0 = true then nI (lvA a y.toNatClampNeg (cNat z x w)) else -1
theorem inV_thV {a : AS} (y z x w : Int32) : oEq (inV (zab a) y z x w) (-1) = !(oEq (thV (zab a) y z x w) 0) := by
  by_cases q : thV (zab a) y z x w = 0
  · obtain ⟨yn, zn, xn, wn, hy, hz, hx, hw, rfl, rfl, rfl, rfl, hne, e1, e2, e3⟩ := thV_yes q
    have q2 := q
    unfold thV at q2
    rw [if_pos (isY_nI hy), nI_clamp (by omega)] at q2
    rw [inV_yes hy hz hx hw q2, q]
    exact decide_eq_false hne
  · rw [inV_no q, show oEq (thV (zab a) y z x w) 0 = false from decide_eq_false q]
    rfl
theorem ok2_light (L : Nat) (xs : Nat → Int32) (y z x w : Int32) : OK2 (Inv2 L xs) F_X11_light F_X12_light [.int y, .int z, .int x, .int w] := by
  refine ok2_rd (liV y z x w) (fun a M hO hb h => ?_) (fun a M hO hb h => wF_b rfl (Nat.le_of_ble_eq_true rfl) (r_st h rfl fun M0 h0 s0 => ?_))
  · unfold liV
    refine wF_b rfl (Nat.le_of_ble_eq_true rfl) (q_if (pC_eq (pC_kI (pI_vV (pR_A (pA_lA rfl) (pR_I (pI_lI rfl) (pR_I (pI_lI rfl) (pR_I (pI_lI rfl) (pR_I (pI_lI rfl) pR_0))))) h.1.o5 (sp_codeIn h.1 y z x w)) pI_cI) (inV_thV y z x w)) (fun hb1 => ?_) (fun hb1 => ?_))
    · rw [Bool.not_eq_true'] at hb1
      rw [if_neg (by rw [hb1]; decide)]
      exact q_ret pI_cI ⟨rfl, rfl, h, COn.rf⟩
    · rw [Bool.not_eq_false'] at hb1
      rw [if_pos hb1]
      obtain ⟨yn, zn, xn, wn, hy, hz, hx, hw, rfl, rfl, rfl, rfl, hne, e1, e2, e3⟩ := thV_yes (of_decide_eq_true hb1)
      rw [e1, e2]
      have hc : 100 * zn + 10 * xn + wn < 1000 := by omega
      obtain ⟨v0, o1, -, -⟩ := h.scr
      refine q_ex (wV_Vw (pR_A (pA_grid h.1 rfl) (pR_A (pA_yard h.1.1 h.1.o5 hy rfl rfl) pR_0)) o1 ((sp_readC h hy).mono ?_))
      rintro v M1 ⟨rfl, h1, h2, h3⟩
      refine ⟨rfl, q_ex (wV_Vw (pR_A (pA_lamps h1.1 rfl) (pR_A (pA_grid h1.1 rfl) (pR_A (pA_kinds h1.1 rfl) pR_0))) h1.1.1.2.2.2.2.2.2 ((sp_shine h1.1 hO h3 (fun e he => hO.av.cd (by omega) he) (h1.2.2.2.2.2.1 63 (by decide))).mono ?_))⟩
      rintro v M2 ⟨rfl, k1, fg, k2, k3⟩
      have h4 := h1.wr4 k1 ⟨fg, k2⟩
      have h9 := pI_gI (t := 0) (pA_fA (k := 0) (pA_lamps (Lc := [some (.ref 5), some (.int (nI yn)), some (.int (nI zn)), some (.int (nI xn)), some (.int (nI wn))]) h4.1 rfl) h4.1.1.2.2.2.2.2.2 rfl) (pI_vS (pR_I (pI_lI (i := 2) rfl) (pR_I (pI_lI (i := 3) rfl) (pR_I (pI_lI (i := 4) rfl) pR_0))) (sp_cellOf zn xn wn M2)) k2 (inb_nI hc (by decide))
      rw [nI_clamp (by omega), k3 _ hc] at h9
      exact ⟨rfl, l_ret h9 ⟨rfl, rfl, h4, (h2.con (by decide)).tr (k1.con (by decide))⟩⟩
  · obtain ⟨th, pm, bm, h69⟩ := id h0.2.2
    unfold liV
    refine q_if (v := !(oEq (thV (zab a) y z x w) 0)) (pC_eq (pC_orD (y := !(oEq (thV (zab a) y z x w) 0)) (pC_not (pC_nz (pI_vS (pR_I (pI_lI rfl) pR_0) (sp_isYardR _ _)))) fun hb1 => ?_) ?_) (fun hb1 => ?_) (fun hb1 => ?_)
    · rw [Bool.not_eq_false'] at hb1
      obtain ⟨yn, hy, rfl⟩ := isY_nat hb1
      refine pC_eq (pC_kI (pI_vV (pR_A (pA_lA rfl) (pR_I (pI_lI rfl) (pR_I (pI_lI rfl) (pR_I (pI_lI rfl) (pR_I (pI_lI rfl) pR_0))))) h69 (sp_thereR h0.1 h0.2.2 (by omega) z x w)) pI_cI) ?_
      rw [oNe_not]
      unfold thV
      rw [if_pos (isY_nI hy), nI_clamp (by omega)]
    · by_cases q : isY y = true
      · rw [q]; exact Bool.false_or _
      · have : thV (zab a) y z x w = -1 := by unfold thV; rw [if_neg q]
        rw [this, Bool.eq_false_iff.mpr q]; rfl
    · rw [Bool.not_eq_true'] at hb1
      rw [if_neg (by rw [hb1]; decide)]
      exact q_ret pI_cI ⟨rfl, rfl, h0, s0⟩
    · rw [Bool.not_eq_false'] at hb1
      rw [if_pos hb1]
      obtain ⟨yn, zn, xn, wn, hy, hz, hx, hw, rfl, rfl, rfl, rfl, hne, e1, e2, e3⟩ := thV_yes (of_decide_eq_true hb1)
      rw [e1, e2]
      have hc : 100 * zn + 10 * xn + wn < 1000 := by omega
      have ec : (100 : Int32) * nI zn + 10 * nI xn + nI wn = nI (100 * zn + 10 * xn + wn) := by
        rw [← nI_add, ← nI_add, ← nI_mul (c := 100) rfl, ← nI_mul (c := 10) rfl]
      refine q_ex (wV_Vw (pR_A (pA_lA rfl) (pR_I (pI_lI rfl) pR_0)) h69 ((sp_shines h0 hO hy).mono ?_))
      rintro v M1 ⟨rfl, h1, s1, -, fg, k2, k3⟩
      obtain ⟨th1, pm1, bm1, h691⟩ := id h1.2.2
      have h9 := pI_gI (t := 0) (L := [some (.ref 69), some (.int (nI yn)), some (.int (nI zn)), some (.int (nI xn)), some (.int (nI wn))]) (pA_fA (k := 29) (pA_lA (i := 0) rfl) h691 rfl) (pI_eq (pI_add (pI_add (pI_mul pI_cI (pI_lI (i := 2) rfl)) (pI_mul pI_cI (pI_lI (i := 3) rfl))) (pI_lI (i := 4) rfl)) ec) k2 (inb_nI hc (by decide))
      rw [nI_clamp (by omega), k3 _ hc] at h9
      exact ⟨rfl, l_ret h9 ⟨rfl, rfl, h1, s0.tr s1⟩⟩
noncomputable def daP (a : AS) (y : Nat) (w : Int32) (c : Nat) : Bool := oEq (cdA (zab a) y c) 0 && oLt (nI (lvA a y c)) w
noncomputable def daV (y w : Int32) (a : AS) : Int32 := if isY y = true then nI (cn 1000 (daP a y.toNatClampNeg w)) else -1
theorem ok2_dark (L : Nat) (xs : Nat → Int32) (y w : Int32) : OK2 (Inv2 L xs) F_X11_dark F_X12_dark [.int y, .int w] := by
  refine ok2_rd (daV y w) (fun a M hO hb h => ?_) (fun a M hO hb h => wF_b rfl (Nat.le_of_ble_eq_true rfl) (r_st h rfl fun M0 h0 s0 => ?_))
  · unfold daV
    refine wF_b rfl (Nat.le_of_ble_eq_true rfl) (q_if (pC_not (pC_nz (pI_vS (pR_I (pI_lI rfl) pR_0) (sp_isYardC _ _)))) (fun hb1 => ?_) (fun hb1 => ?_))
    · rw [Bool.not_eq_true'] at hb1
      rw [if_neg (by rw [hb1]; decide)]
      exact q_ret pI_cI ⟨rfl, rfl, h, COn.rf⟩
    · rw [Bool.not_eq_false'] at hb1
      rw [if_pos hb1]
      obtain ⟨yn, hy, rfl⟩ := isY_nat hb1
      rw [nI_clamp (by omega)]
      obtain ⟨v0, o1, -, -⟩ := h.scr
      refine q_ex (wV_Vw (pR_A (pA_grid h.1 rfl) (pR_A (pA_yard h.1.1 h.1.o5 hy rfl rfl) pR_0)) o1 ((sp_readC h hy).mono ?_))
      rintro v M1 ⟨rfl, h1, h2, h3⟩
      refine ⟨rfl, q_ex (wV_Vw (pR_A (pA_lamps h1.1 rfl) (pR_A (pA_grid h1.1 rfl) (pR_A (pA_kinds h1.1 rfl) pR_0))) h1.1.1.2.2.2.2.2.2 ((sp_shine h1.1 hO h3 (fun e he => hO.av.cd (by omega) he) (h1.2.2.2.2.2.1 63 (by decide))).mono ?_))⟩
      rintro v M2 ⟨rfl, k1, fg, k2, k3⟩
      have h4 := h1.wr4 k1 ⟨fg, k2⟩
      have g4 := h3.b63 k1
      refine ⟨rfl, q_I rfl pI_cI ?_⟩
      refine q_for 1000 (fun j L' M3 => L' = [some (.ref 5), some (.int (nI yn)), some (.int w), some (.int (nI (cn j (daP a yn w)))), some (.int (nI j))] ∧ M3 = M2) rfl (a := 0) rfl rfl (by decide) (by decide) ⟨rfl, rfl⟩ ?_ ?_ ?_
      · rintro j L' M3 ⟨rfl, -⟩
        rfl
      · rintro j L' M3 hj ⟨rfl, rfl⟩
        have h9 := pI_gI (t := 0) (pA_fA (k := 0) (pA_lamps (Lc := [some (.ref 5), some (.int (nI yn)), some (.int w), some (.int (nI (cn j (daP a yn w)))), some (.int (nI j))]) h4.1 rfl) h4.1.1.2.2.2.2.2.2 rfl) (pI_lI (i := 4) rfl) k2 (inb_nI hj (by decide))
        rw [nI_clamp (by omega), k3 _ hj] at h9
        refine l_if (v := daP a yn w j) (pC_and (pC_kI (pI_eq (pI_vV (pR_A (pA_grid h4.1 rfl) (pR_I (pI_lI rfl) pR_0)) g4.1 (sp_code g4 _)) (gAt_nI _ hj)) pI_cI) (pC_kI h9 (pI_lI rfl))) (fun hq => ?_) (fun hq => ?_)
        · have e : cn (j + 1) (daP a yn w) = cn j (daP a yn w) + 1 := by show cn j (daP a yn w) + _ = _; rw [hq]; rfl
          refine wS_inc rfl rfl (Or.inr ⟨by decide, by decide, rfl, rfl, ?_, rfl⟩)
          rw [e, nI_1]; rfl
        · have e : cn (j + 1) (daP a yn w) = cn j (daP a yn w) := by show cn j (daP a yn w) + _ = _; rw [hq]; rfl
          refine wS_nop (Or.inr ⟨by decide, by decide, rfl, rfl, ?_, rfl⟩)
          rw [e]; rfl
      · rintro L' M3 ⟨rfl, rfl⟩
        exact l_ret (pI_lI rfl) ⟨rfl, rfl, h4, (h2.con (by decide)).tr (k1.con (by decide))⟩
  · obtain ⟨th, pm, bm, h69⟩ := id h0.2.2
    unfold daV
    refine q_if (pC_not (pC_nz (pI_vS (pR_I (pI_lI rfl) pR_0) (sp_isYardR _ _)))) (fun hb1 => ?_) (fun hb1 => ?_)
    · rw [Bool.not_eq_true'] at hb1
      rw [if_neg (by rw [hb1]; decide)]
      exact q_ret pI_cI ⟨rfl, rfl, h0, s0⟩
    · rw [Bool.not_eq_false'] at hb1
      rw [if_pos hb1]
      obtain ⟨yn, hy, rfl⟩ := isY_nat hb1
      rw [nI_clamp (by omega)]
      refine q_ex (wV_Vw (pR_A (pA_lA rfl) (pR_I (pI_lI rfl) pR_0)) h69 ((sp_shines h0 hO hy).mono ?_))
      rintro v M1 ⟨rfl, h1, s1, ⟨fk, ft, k2, -, k4⟩, fg, k5, k6⟩
      obtain ⟨th1, pm1, bm1, h691⟩ := id h1.2.2
      refine ⟨rfl, q_I rfl pI_cI ?_⟩
      refine q_for 1000 (fun j L' M3 => L' = [some (.ref 69), some (.int (nI yn)), some (.int w), some (.int (nI (cn j (daP a yn w)))), some (.int (nI j))] ∧ M3 = M1) rfl (a := 0) rfl rfl (by decide) (by decide) ⟨rfl, rfl⟩ ?_ ?_ ?_
      · rintro j L' M3 ⟨rfl, -⟩
        rfl
      · rintro j L' M3 hj ⟨rfl, rfl⟩
        have hcj := hO.av.cd (y := yn) (by omega) hj
        have h8 := pI_gI (t := 0) (L := [some (.ref 69), some (.int (nI yn)), some (.int w), some (.int (nI (cn j (daP a yn w)))), some (.int (nI j))]) (pA_fA (k := 19) (pA_lA (i := 0) rfl) h691 rfl) (pI_lI (i := 4) rfl) k2 (inb_nI hj (by decide))
        rw [nI_clamp (by omega), (k4 j hj).1] at h8
        have h9 := pI_gI (t := 0) (L := [some (.ref 69), some (.int (nI yn)), some (.int w), some (.int (nI (cn j (daP a yn w)))), some (.int (nI j))]) (pA_fA (k := 29) (pA_lA (i := 0) rfl) h691 rfl) (pI_lI (i := 4) rfl) k5 (inb_nI hj (by decide))
        rw [nI_clamp (by omega), k6 _ hj] at h9
        refine l_I rfl (pI_add (pI_lI rfl) (pI_tI (b := daP a yn w j) (pC_and (pC_eq (pC_kI h8 pI_cI) (kR_0 hcj)) (pC_kI h9 (pI_lI rfl))) pI_cI pI_cI)) (Or.inr ⟨by decide, by decide, rfl, rfl, ?_, rfl⟩)
        rw [← cn_add]
        rfl
      · rintro L' M3 ⟨rfl, rfl⟩
        exact l_ret (pI_lI rfl) ⟨rfl, rfl, h1, s0.tr s1⟩
