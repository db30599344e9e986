/-! settle: the class's lower -/
theorem sp_lowerC {L : Nat} {xs : Nat → Int32} {M : Mm} {a0 b : AS} {bs : List Nat} {lb : Nat → Option Nat} {mem : List Nat} {st : Nat → Nat} {y k s : Nat} (h : CSt L xs b M) (hy : y < 4) (hF : From2 y y a0 b) (hbd : znl a0 + znr a0 ≤ 256000) (hg : GrC M 51 (cdA (zab b) y) bs) (hL : LB (cdA (zab b) y) 1000 lb) (hP : PSC (cdA (zab b) y) lb mem st M) (hk : k < cn 1000 (ldB (cdA (zab b) y))) (hs : s < 10)
    (ht : ∀ c, c ∈ psL (cdA (zab b) y) k → 100 * s ≤ c ∧ ¬ cdA (zab b) y (c - 100 * s) = -1) :
    wF F_X6_lower [.ref 57, .int (nI k), .int (nI s), .ref 51, .ref (17 + 2 * y)] M fun v M' => v = none ∧ CSt L xs (loA y s (cdA (zab b) y) b (psL (cdA (zab b) y) k)) M' ∧ COn M M' ∧ GrC M' 51 (cdA (zab (loA y s (cdA (zab b) y) b (psL (cdA (zab b) y) k))) y) bs := by
  have hbig : big = 1000000 := rfl
  obtain ⟨g, hgg⟩ : ∃ g, g = cdA (zab b) y := ⟨_, rfl⟩
  rw [← hgg] at hg hL hP hk ht ⊢
  have hperm := psL_perm hL hP.2.2.1 hk
  obtain ⟨sE, hE, hA⟩ := h.1.rep
  have hEq := hA.eqv
  have hy16 : y < 16 := by omega
  obtain ⟨l1, ⟨fl, fm, l2, l3, l4, l5⟩, hS, hml, fs, l6, l7⟩ := hP
  obtain ⟨f, hf, hld, efk⟩ := ld_of 1000 hk
  obtain ⟨s1, s2, s3, s4, s5, s6⟩ := hS.2 f hld hf
  rw [efk] at s1 s2 s3 s4 s5 s6
  have hcn := cn_le 1000 (ldB g)
  obtain ⟨N, hN⟩ : ∃ N, N = st (k + 1) - st k := ⟨_, rfl⟩
  rw [← hN] at hperm
  obtain ⟨B, hB⟩ : ∃ B, B = st k := ⟨_, rfl⟩
  have hB1 : st (k + 1) = B + N := by omega
  rw [← hB] at hperm
  have hnd : (qL mem B N).Nodup := (List.Perm.nodup hperm (psL_nd g k))
  have hq : ∀ c, c ∈ qL mem B N → c ∈ psL g k := fun c hc => hperm.mem_iff.mpr hc
  have hqm : ∀ i, i < N → mem.getD (B + i) 0 ∈ psL g k := fun i hi => hq _ (List.mem_map.mpr ⟨i, List.mem_range.mpr hi, rfl⟩)
  have hsub : ∀ j, j ≤ N → ∀ c, c ∈ qL mem B j → c ∈ psL g k := fun j hj c hc => by
    obtain ⟨i, i1, i2⟩ := qL_mem hc
    rw [← i2]
    exact hqm i (by omega)
  have hlt : ∀ c, c ∈ psL g k → c < 1000 := fun c hc => (psL_mem.mp hc).1
  have pst : ∀ (Lx : Lv) (Mx : Mm), (∀ b, 57 ≤ b → b ≤ 60 → Mx.2.2 b = M.2.2 b) → lkp Lx 0 = some (.ref 57) → lkp Lx 1 = some (.int (nI k)) → pI (gI 0 (fA 6 2 (lA 0)) (lI 1)) Lx Mx (nI B) := fun Lx Mx e q0 q1 => by
    have h9 := pI_gI (t := 0) (L := Lx) (pA_fA (k := 2) (pA_lA q0) ((e 57 (by decide) (by decide)).trans l1) rfl) (pI_lI q1) ((e 60 (by decide) (by decide)).trans l6) (inb_nI (show k < 1001 by omega) (by decide))
    rw [nI_clamp (by omega), l7 k (by omega), ← hB] at h9
    exact h9
  have pst1 : ∀ (Lx : Lv) (Mx : Mm), (∀ b, 57 ≤ b → b ≤ 60 → Mx.2.2 b = M.2.2 b) → lkp Lx 0 = some (.ref 57) → lkp Lx 1 = some (.int (nI k)) → pI (gI 0 (fA 6 2 (lA 0)) (bI oAdd (lI 1) (cI 1))) Lx Mx (nI (B + N)) := fun Lx Mx e q0 q1 => by
    have h9 := pI_gI (t := 0) (L := Lx) (pA_fA (k := 2) (pA_lA q0) ((e 57 (by decide) (by decide)).trans l1) rfl) (pI_eq (pI_add (pI_lI q1) pI_cI) (nI_1 k)) ((e 60 (by decide) (by decide)).trans l6) (inb_nI (show k + 1 < 1001 by omega) (by decide))
    rw [nI_clamp (by omega), l7 (k + 1) (by omega), hB1] at h9
    exact h9
  have pm : ∀ (Lx : Lv) (Mx : Mm) (i : Nat), i < N → (∀ b, 57 ≤ b → b ≤ 60 → Mx.2.2 b = M.2.2 b) → lkp Lx 0 = some (.ref 57) → lkp Lx 5 = some (.int (nI (B + i))) → pI (gI 0 (fA 6 1 (lA 0)) (lI 5)) Lx Mx (nI (mem.getD (B + i) 0)) := fun Lx Mx i hi e q0 q1 => by
    have h9 := pI_gI (t := 0) (L := Lx) (pA_fA (k := 1) (pA_lA q0) ((e 57 (by decide) (by decide)).trans l1) rfl) (pI_lI q1) ((e 59 (by decide) (by decide)).trans l3) (inb_nI (show B + i < 1000 by omega) (by decide))
    rw [nI_clamp (by omega), l5 (B + i) (by omega)] at h9
    exact h9
  have kfr : ∀ M1 M2 : Mm, FrH y M1 M2 → (∀ b, 57 ≤ b → b ≤ 60 → M1.2.2 b = M.2.2 b) → ∀ b, 57 ≤ b → b ≤ 60 → M2.2.2 b = M.2.2 b := fun M1 M2 e q b b1 b2 => (e b (by omega) (by omega) (by unfold LA; split <;> omega)).trans (q b b1 b2)
  refine wF_b rfl (Nat.le_of_ble_eq_true rfl) ?_
  -- all open
  refine q_forC (B + N) (fun j L' M2 => ∃ i, j = B + i ∧ L' = [some (.ref 57), some (.int (nI k)), some (.int (nI s)), some (.ref 51), some (.ref (17 + 2 * y)), some (.int (nI j)), none] ∧ CSt L xs (mvG y (fun c => c) (fun _ => 0) b (qL mem B i)) M2 ∧ (∀ b, 57 ≤ b → b ≤ 60 → M2.2.2 b = M.2.2 b) ∧ COn M M2 ∧ GrC M2 51 (cdA (zab (mvG y (fun c => c) (fun _ => 0) b (qL mem B i))) y) bs ∧ ∃ fc, M2.2.2 61 = aI 0 1000 fc ∧ ∀ e, e < i → fc (B + e) = g (mem.getD (B + e) 0)) rfl (a := B) (pst _ _ (fun _ _ _ => rfl) rfl rfl) (by omega) (by omega) ?_ ?_ ?_ ?_
  · obtain ⟨fc, hfc⟩ := h.2.2.2.2.2.1 61 (by decide)
    refine ⟨0, rfl, rfl, h, fun _ _ _ => rfl, COn.rf, ?_, fc, hfc, fun e he => absurd he (Nat.not_lt_zero e)⟩
    show GrC M 51 (cdA (zab b) y) bs
    rw [← hgg]
    exact hg
  · rintro j L' M2 hj ⟨i, rfl, rfl, c1, c2, -⟩
    exact pC_eq (pC_kI (pI_lI rfl) (pst1 _ _ c2 rfl rfl)) (oLt_nI (by omega) (by omega))
  · rintro j L' M2 hj ⟨i, rfl, rfl, c1, c2, c3, c4, fc, c5, c6⟩
    have hi : i < N := by omega
    obtain ⟨c, ec⟩ : ∃ c, c = mem.getD (B + i) 0 := ⟨_, rfl⟩
    have hcp : c ∈ psL g k := by rw [ec]; exact hqm i hi
    have hc := hlt c hcp
    have hno : c ∉ qL mem B i := by rw [ec]; exact qL_nd hnd hi
    have eg : cdA (zab (mvG y (fun c => c) (fun _ => 0) b (qL mem B i))) y c = g c := by
      rw [cdA_mvG_no hy16 hc _ _ (fun e he => hlt e (hsub i (by omega) e he)) (fun e he q => hno (by rw [← q]; exact he)), hgg]
    have hfr : From2 y y a0 (mvG y (fun c => c) (fun _ => 0) b (qL mem B i)) := fl_cut hF hy16 _ fun e he => hlt e (hsub i (by omega) e he)
    have hle := hfr.le
    have hnc : ¬ cdA (zab (mvG y (fun c => c) (fun _ => 0) b (qL mem B i))) y c = -1 := by
      rw [eg]
      exact blk_ne (psL_blk hcp)
    have pc : ∀ (Mx : Mm), (∀ b, 57 ≤ b → b ≤ 60 → Mx.2.2 b = M.2.2 b) → pI (gI 0 (fA 6 1 (lA 0)) (lI 5)) [some (.ref 57), some (.int (nI k)), some (.int (nI s)), some (.ref 51), some (.ref (17 + 2 * y)), some (.int (nI (B + i))), none] Mx (nI c) := fun Mx e => by
      rw [ec]
      exact pm _ Mx i hi e rfl rfl
    refine q_pa (j := B + i) (pA_fA (k := 3) (pA_lA rfl) ((c2 57 (by decide) (by decide)).trans l1) rfl) (pI_lI rfl) (pI_eq (pI_vV (pR_A (pA_lA rfl) (pR_I (pc M2 c2) pR_0)) c4.1 (sp_code c4 _)) ((gAt_nI _ hc).trans eg)) c5 (by decide) (by omega) (by decide) (Or.inl rfl) ?_
    obtain ⟨M3, hM3⟩ : ∃ M3, M3 = setC M2 61 (aI 0 1000 (upd fc (B + i) (g c))) := ⟨_, rfl⟩
    rw [← hM3]
    have b3 : But [61] M2 M3 := by rw [hM3]; exact But.rf.set (by decide)
    have d61 : M3.2.2 61 = aI 0 1000 (upd fc (B + i) (g c)) := by rw [hM3]; exact get_at
    have d1 := c1.wr6 b3 ⟨_, d61⟩
    have d2 : ∀ b, 57 ≤ b → b ≤ 60 → M3.2.2 b = M.2.2 b := fun b b1 b2 => (b3.2.2 b (by simp; omega)).trans (c2 b b1 b2)
    have d4 : GrC M3 51 _ bs := c4.fr (b3.2.2 51 (by decide)) (b3.2.2 52 (by decide)) (b3.2.2 53 (by decide))
    refine q_ex (wV_Vw (pR_A (pA_lA rfl) (pR_I (pc M3 d2) (pR_I pI_cI pR_0))) d4.1 ((sp_write d4 (by decide) hc).mono ?_))
    rintro v M4 ⟨rfl, b4, e4⟩
    have b4' : But [51, 52, 53] M3 M4 := b4.mono (by decide)
    have e1 := d1.wr b4' e4
    have e2 : ∀ b, 57 ≤ b → b ≤ 60 → M4.2.2 b = M.2.2 b := fun b b1 b2 => (b4.2.2 b (by simp; omega)).trans (d2 b b1 b2)
    refine ⟨rfl, wS_exP (wV_Vw (pR_A (pA_lA rfl) (pR_I (pc M4 e2) (pR_I pI_cI pR_0))) (e1.1.y hy) ((sp_changeC e1 hy hc (v := 0) ⟨by decide, by decide⟩ (by omega)).mono ?_))⟩
    rintro r M5 ⟨rfl, r1, r2⟩
    have eq1 : mvG y (fun c => c) (fun _ => 0) b (qL mem B (i + 1)) = zch y c 0 (mvG y (fun c => c) (fun _ => 0) b (qL mem B i)) := by rw [qL_succ, mvG_app, ec]
    refine ⟨_, rfl, Or.inr ⟨by decide, by decide, rfl, rfl, i + 1, rfl, rfl, ?_, kfr _ _ r2 e2, ((c3.tr (b3.con (by decide))).tr (b4.con (by decide))).tr (r2.con hy16), ?_, upd fc (B + i) (g c), ?_, fun e he => ?_⟩⟩
    · rw [eq1]; exact r1
    · rw [eq1]
      refine (r2.grid hy16 e4).cg fun e he => ?_
      rw [cdA_zch hy16 hy16 hc he]
      by_cases q : e = c
      · rw [if_pos q, if_pos ⟨rfl, q, hnc⟩]
      · rw [if_neg q, if_neg (fun t => q t.2.1)]
    · exact (r2 61 (by decide) (by decide) (by unfold LA; split <;> omega)).trans ((b4.2.2 61 (by decide)).trans d61)
    · unfold upd
      by_cases q : e = i
      · rw [q, if_pos rfl, ec]
      · rw [if_neg (by omega)]
        exact c6 e (by omega)
  rintro L' M2 ⟨i, ei, rfl, c1, c2, c3, c4, fc, c5, c6⟩
  have ei : i = N := by omega
  subst ei
  obtain ⟨b1, hb1⟩ : ∃ b1, b1 = mvG y (fun c => c) (fun _ => 0) b (qL mem B i) := ⟨_, rfl⟩
  rw [← hb1] at c1 c4
  have hF1 : From2 y y a0 b1 := by rw [hb1]; exact fl_cut hF hy16 _ fun e he => hlt e (hq e he)
  have hres : mvG y (fun c => c - 100 * s) g b1 (qL mem B i) = loA y s g b (psL g k) := by
    unfold loA
    have p1 : mvG y (fun c => c) (fun _ => 0) b (psL g k) = b1 := by
      rw [hb1]
      exact mvG_perm hperm hy16 b hEq hlt fun c d _ _ e => e
    rw [p1]
    refine (mvG_perm hperm hy16 b1 ?_ (fun c hc => by have := hlt c hc; omega) fun c d hc hd e => ?_).symm
    · rw [hb1]; exact mvG_eqv _ _ hEq
    · have h1 := (ht c hc).1
      have h2 := (ht d hd).1
      omega
  -- then they come lower
  refine q_forC (B + i) (fun j L' M3 => ∃ e, j = B + e ∧ L' = [some (.ref 57), some (.int (nI k)), some (.int (nI s)), some (.ref 51), some (.ref (17 + 2 * y)), some (.int (nI j)), none] ∧ CSt L xs (mvG y (fun c => c - 100 * s) g b1 (qL mem B e)) M3 ∧ (∀ b, 57 ≤ b → b ≤ 60 → M3.2.2 b = M.2.2 b) ∧ COn M M3 ∧ GrC M3 51 (cdA (zab (mvG y (fun c => c - 100 * s) g b1 (qL mem B e))) y) bs ∧ M3.2.2 61 = aI 0 1000 fc) rfl (a := B) (pst _ _ c2 rfl rfl) (by omega) (by omega) ⟨0, rfl, rfl, c1, c2, c3, c4, c5⟩ ?_ ?_ ?_
  · rintro j L' M3 hj ⟨e, rfl, rfl, d1, d2, -⟩
    exact pC_eq (pC_kI (pI_lI rfl) (pst1 _ _ d2 rfl rfl)) (oLt_nI (by omega) (by omega))
  · rintro j L' M3 hj ⟨e, rfl, rfl, d1, d2, d3, d4, d5⟩
    have he : e < i := by omega
    obtain ⟨c, ec⟩ : ∃ c, c = mem.getD (B + e) 0 := ⟨_, rfl⟩
    have hcp : c ∈ psL g k := by rw [ec]; exact hqm e he
    have hc := hlt c hcp
    obtain ⟨t1, t2⟩ := ht c hcp
    have hto : c - 100 * s < 1000 := by omega
    have hbl := psL_blk hcp
    have hck : cOK (zkn b) (g c) := by rw [hgg]; exact hF.1.av.cd hy16 hc
    have hbf := blk_facts hF.1.1 hck hbl
    have hfr : From2 y y a0 (mvG y (fun c => c - 100 * s) g b1 (qL mem B e)) := fl_put hF1 hy16 _ fun d hd => by
      have hdp := hsub e (by omega) d hd
      have hd1 := hlt d hdp
      refine ⟨by omega, ?_, blk_ne (psL_blk hdp)⟩
      rw [← hF.2.1, hgg]
      exact hF.1.av.cd hy16 hd1
    have hle := hfr.le
    have hne : ¬ cdA (zab (mvG y (fun c => c - 100 * s) g b1 (qL mem B e))) y (c - 100 * s) = -1 := fun q => t2 (by
      rw [hgg]
      exact (hF.2.2.2.2.1 _ hto).mpr ((hfr.2.2.2.2.1 _ hto).mp q))
    have e100 : nI c - 100 * nI s = nI (c - 100 * s) := by
      rw [nI_mul (c := 100) (m := 100) rfl, nI_sub t1 (by omega)]
    have pc : pI (gI 0 (fA 6 1 (lA 0)) (lI 5)) [some (.ref 57), some (.int (nI k)), some (.int (nI s)), some (.ref 51), some (.ref (17 + 2 * y)), some (.int (nI (B + e))), none] M3 (nI c) := by
      rw [ec]
      exact pm _ M3 e he d2 rfl rfl
    have pv : ∀ Mx : Mm, (∀ b, 57 ≤ b → b ≤ 60 → Mx.2.2 b = M.2.2 b) → Mx.2.2 61 = aI 0 1000 fc → pI (gI 0 (fA 6 3 (lA 0)) (lI 5)) [some (.ref 57), some (.int (nI k)), some (.int (nI s)), some (.ref 51), some (.ref (17 + 2 * y)), some (.int (nI (B + e))), some (.int (nI (c - 100 * s)))] Mx (g c) := fun Mx m1 m2 => by
      have h9 := pI_gI (t := 0) (L := [some (.ref 57), some (.int (nI k)), some (.int (nI s)), some (.ref 51), some (.ref (17 + 2 * y)), some (.int (nI (B + e))), some (.int (nI (c - 100 * s)))]) (pA_fA (k := 3) (pA_lA (i := 0) rfl) ((m1 57 (by decide) (by decide)).trans l1) rfl) (pI_lI (i := 5) rfl) m2 (inb_nI (show B + e < 1000 by omega) (by decide))
      rw [nI_clamp (by omega), c6 e he, ← ec] at h9
      exact h9
    refine l_scp (q_I rfl (pI_eq (pI_sub pc (pI_mul pI_cI (pI_lI rfl))) e100) ?_)
    refine q_ex (wV_Vw (pR_A (pA_lA rfl) (pR_I (pI_lI rfl) (pR_I (pv M3 d2 d5) pR_0))) d4.1 ((sp_write d4 (by decide) hto).mono ?_))
    rintro v M4 ⟨rfl, b4, e4⟩
    have b4' : But [51, 52, 53] M3 M4 := b4.mono (by decide)
    have e1 := d1.wr b4' e4
    have e2 : ∀ b, 57 ≤ b → b ≤ 60 → M4.2.2 b = M.2.2 b := fun b b1 b2 => (b4.2.2 b (by simp; omega)).trans (d2 b b1 b2)
    have e61 := (b4.2.2 61 (by decide)).trans d5
    refine ⟨rfl, wS_exP (wV_Vw (pR_A (pA_lA rfl) (pR_I (pI_lI rfl) (pR_I (pv M4 e2 e61) pR_0))) (e1.1.y hy) ((sp_changeC e1 hy hto (v := g c) hbf.2.1 (by omega)).mono ?_))⟩
    rintro r M5 ⟨rfl, r1, r2⟩
    have eq1 : mvG y (fun c => c - 100 * s) g b1 (qL mem B (e + 1)) = zch y (c - 100 * s) (g c) (mvG y (fun c => c - 100 * s) g b1 (qL mem B e)) := by rw [qL_succ, mvG_app, ec]
    refine ⟨_, rfl, Or.inr ⟨by decide, by decide, rfl, rfl, e + 1, rfl, rfl, ?_, kfr _ _ r2 e2, (d3.tr (b4.con (by decide))).tr (r2.con hy16), ?_, ?_⟩⟩
    · rw [eq1]; exact r1
    · rw [eq1]
      refine (r2.grid hy16 e4).cg fun e he => ?_
      rw [cdA_zch hy16 hy16 hto he]
      by_cases q : e = c - 100 * s
      · rw [if_pos q, if_pos ⟨rfl, q, hne⟩]
      · rw [if_neg q, if_neg (fun t => q t.2.1)]
    · exact (r2 61 (by decide) (by decide) (by unfold LA; split <;> omega)).trans e61
  · rintro L' M3 ⟨e, ee, rfl, d1, d2, d3, d4, d5⟩
    have ee : e = i := by omega
    subst ee
    rw [hres] at d1 d4
    exact wS_retV ⟨rfl, rfl, d1, d3, d4⟩
