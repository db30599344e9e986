/-! settle: the reference's side -/
def psF (lb : Nat → Option Nat) (k n : Nat) : List Nat := (List.range n).filter fun c => decide (lb c = some k)
theorem psF_ins {lb : Nat → Option Nat} {k n : Nat} (h : lb n = some k) : psF lb k (n + 1) = psF lb k n ++ [n] := by
  unfold psF
  rw [List.range_succ, List.filter_append, List.filter_cons, List.filter_nil, if_pos (decide_eq_true h)]
theorem psF_skip {lb : Nat → Option Nat} {k n : Nat} (h : ¬ lb n = some k) : psF lb k (n + 1) = psF lb k n := by
  unfold psF
  rw [List.range_succ, List.filter_append, List.filter_cons, List.filter_nil, if_neg (fun q => h (of_decide_eq_true q)), List.append_nil]
theorem psF_mem {g : Nat → Int32} {k n c : Nat} (hn : n ≤ 1000) (h : c ∈ psF (lbS g) k n) : c ∈ psL g k := by
  obtain ⟨h1, h2⟩ := List.mem_filter.mp h
  exact psL_mem.mpr ⟨by have := List.mem_range.mp h1; omega, of_decide_eq_true h2⟩
section SR
variable {L : Nat} {xs : Nat → Int32} {M : Mm} {a : AS}
theorem RSt.fe {M' : Mm} {n : Nat} {f : Nat → Nat → Int32} {th pm bm : Int32} (h : RSt L xs a M) (hb : But [69, 91, 92] M M') (h69 : M'.2.2 69 = .inr (11, fsRv th (zkn a) (znl a) (znr a) pm n bm)) (h91 : M'.2.2 91 = aI 0 60 (f 0)) (h92 : M'.2.2 92 = aI 0 60 (f 1)) : RSt L xs (zFe a n f) M' := by
  obtain ⟨⟨a1, ⟨k0, k1, k2, k3, k4⟩, ⟨b0, b1⟩, c, -, ⟨sr, e1, e2⟩⟩, ⟨h2, ⟨f3, h3⟩, ⟨f4, h4⟩, ⟨f5, h5⟩⟩, -⟩ := h
  have s := hb.2.2
  refine ⟨⟨fun b hb => (s b ?_).trans (a1 b hb), ⟨(s _ (by decide)).trans k0, (s _ (by decide)).trans k1, (s _ (by decide)).trans k2, (s _ (by decide)).trans k3, (s _ (by decide)).trans k4⟩, ⟨(s _ (by decide)).trans b0, (s _ (by decide)).trans b1⟩, (s _ (by decide)).trans c, ⟨h91, h92⟩, ⟨sr, RRep.fr (M := M) (sm_but hb (by decide)) e1, e2⟩⟩, ⟨fun b hb => ?_, ⟨f3, (s _ (by decide)).trans h3⟩, ⟨f4, (s _ (by decide)).trans h4⟩, ⟨f5, (s _ (by decide)).trans h5⟩⟩, ⟨th, pm, bm, h69⟩⟩
  · simp only [List.mem_cons, List.not_mem_nil, or_false]
    omega
  · obtain ⟨g, hg⟩ := h2 b hb
    have all : ∀ b ∈ [85, 86, 88, 89, 90, 93, 94, 95], b ∉ [69, 91, 92] := by decide
    exact ⟨g, (s b (all b hb)).trans hg⟩
theorem sp_nextR (h : RSt L xs a M) (hO : OkA a) {y : Nat} (hy : y < 4) {lb : Nat → Option Nat} (hL : LB (cdA (zab a) y) 1000 lb) (hP : PSR a (cdA (zab a) y) 1000 1000 lb M) : F_X12_nextToFall [.ref 69, .int (nI y)] M = some (some (.int (oI (nxF a (cdA (zab a) y)))), M) := by
  have hbig : big = 1000000 := rfl
  obtain ⟨th, bm, fl, ff, p1, p2, p3, p4, p5⟩ := id hP
  obtain ⟨g, hg⟩ : ∃ g, g = cdA (zab a) y := ⟨_, rfl⟩
  rw [← hg] at hL hP p1 p5 ⊢
  have hcn := cn_le 1000 (ldB g)
  refine wF_eq (wF_b rfl (Nat.le_of_ble_eq_true rfl) (q_I rfl pI_cI ?_))
  refine q_forC (cn 1000 (ldB g)) (fun j L' M2 => L' = [some (.ref 69), some (.int (nI y)), some (.int (oI (nxP a g j))), some (.int (nI j))] ∧ M2 = M) rfl (a := 0) pI_cI (by omega) (Nat.zero_le _) ⟨rfl, rfl⟩ ?_ ?_ ?_
  · rintro j L' M2 hj ⟨rfl, rfl⟩
    exact pC_eq (pC_kI (pI_lI rfl) (pI_fI (pA_lA rfl) p1 rfl)) (oLt_nI (by omega) (by omega))
  · rintro j L' M2 hj ⟨rfl, rfl⟩
    have hst := stO_lt g j
    have hff : ∀ i, i < cn 1000 (ldB g) → ∃ f, f < 1000 ∧ lead g f ∧ cn f (ldB g) = i ∧ ff i = nI f := fun i hi => by
      obtain ⟨f, f1, f2, f3⟩ := ld_of 1000 hi
      exact ⟨f, f1, f2, f3, by rw [← f3]; exact p5 f f2 f1⟩
    cases q : nxP a g j with
    | some b =>
      obtain ⟨q1, -⟩ := nxP_some q
      obtain ⟨fj, j1, j2, j3, j4⟩ := hff j hj
      obtain ⟨fb, b1, b2, b3, b4⟩ := hff b (by omega)
      have hle : fb ≤ fj := Classical.byContradiction fun t => by
        have := cn_mono (ldB g) (show fj ≤ fb by omega)
        omega
      have h9 := pI_gI (t := 0) (L := [some (.ref 69), some (.int (nI y)), some (.int (nI b)), some (.int (nI j))]) (pA_fA (k := 23) (pA_lA (i := 0) rfl) p1 rfl) (pI_lI (i := 3) rfl) p3 (inb_nI (show j < 1000 by omega) (by decide))
      rw [nI_clamp (by omega), j4] at h9
      have h8 := pI_gI (t := 0) (L := [some (.ref 69), some (.int (nI y)), some (.int (nI b)), some (.int (nI j))]) (pA_fA (k := 23) (pA_lA (i := 0) rfl) p1 rfl) (pI_lI (i := 2) rfl) p3 (inb_nI (show b < 1000 by omega) (by decide))
      rw [nI_clamp (by omega), b4] at h8
      refine q_if (v := true) (pC_eq (pC_and (pC_eq (pC_kI (pI_lI rfl) pI_cI) (oI_isS (some b) fun k' t => by cases t; omega)) (pC_eq (pC_kI (pI_eq (pI_div h9 pI_cI (by decide)) (nI_div (m := 100) rfl (by omega) (by decide) (by decide))) (pI_eq (pI_div h8 pI_cI (by decide)) (nI_div (m := 100) rfl (by omega) (by decide) (by decide)))) ((oGe_nI (by omega) (by omega)).trans (decide_eq_true (Nat.div_le_div_right hle))))) rfl) (fun _ => ?_) (fun t => by cases t)
      refine q_cnt (Or.inr ⟨by decide, by decide, rfl, rfl, ?_, rfl⟩)
      rw [nxP_succ, q]
      rfl
    | none =>
      refine q_if (v := false) (pC_andF (pC_eq (pC_kI (pI_lI rfl) pI_cI) rfl)) (fun t => by cases t) (fun _ => ?_)
      have hloo : F_X12_isLoose [.ref 69, .int (nI y), .int (nI j)] M2 = some (some (.int (bz (lsB a g j))), M2) := by
        rw [hg] at hL hP ⊢
        exact sp_isLooseR h hO hy hL hP (by rw [hg] at hj hcn; omega)
      have hfal : F_X12_falls [.ref 69, .int (nI y), .int (nI j)] M2 = some (some (.int (nI (stO g j))), M2) := by
        rw [hg] at hL hP hj ⊢
        exact sp_fallsR h hO hy hL hP hj
      refine l_if (v := cnF a g j) (pC_andD (pC_nz (pI_vV (pR_A (pA_lA rfl) (pR_I (pI_lI rfl) (pR_I (pI_lI rfl) pR_0))) p1 hloo)) fun _ => pC_eq (pC_kI (pI_vV (pR_A (pA_lA rfl) (pR_I (pI_lI rfl) (pR_I (pI_lI rfl) pR_0))) p1 hfal) pI_cI) (oGt_nI (b := 0) (by omega) (by decide))) (fun hq => ?_) (fun hq => ?_)
      · refine l_I rfl (pI_lI rfl) (Or.inr ⟨by decide, by decide, rfl, rfl, ?_, rfl⟩)
        rw [nxP_succ, q, if_pos hq]
        rfl
      · refine wS_nop (Or.inr ⟨by decide, by decide, rfl, rfl, ?_, rfl⟩)
        rw [nxP_succ, q, if_neg (by rw [hq]; decide)]
        rfl
  · rintro L' M2 ⟨rfl, rfl⟩
    exact l_ret (pI_lI rfl) ⟨rfl, rfl, rfl⟩
theorem sp_fallR (h : RSt L xs a M) {a0 : AS} {y k : Nat} (hy : y < 4) (hF : From2 y y a0 a) (hz : zfe a < 10000) {lb : Nat → Option Nat} (hL : LB (cdA (zab a) y) 1000 lb) (hP : PSR a (cdA (zab a) y) 1000 1000 lb M) (hk : k < cn 1000 (ldB (cdA (zab a) y))) (hs : 0 < stO (cdA (zab a) y) k) : wF F_X12_fall [.ref 69, .int (nI y), .int (nI k), .int (nI (stO (cdA (zab a) y) k))] M fun v M' => v = none ∧ RSt L xs (flS y a k) M' ∧ ROn M M' := by
  have hbig : big = 1000000 := rfl
  have hy16 : y < 16 := by omega
  obtain ⟨th, bm, fl, ff, p1, p2, p3, p4, p5⟩ := hP
  obtain ⟨f, f1, f2, f3⟩ := ld_of 1000 hk
  have efs := fsO_eq hL f1 f2
  rw [f3] at efs
  have hff := p5 f f2 f1
  rw [f3] at hff
  have hcn := cn_le 1000 (ldB (cdA (zab a) y))
  obtain ⟨h91, h92⟩ := h.1.2.2.2.2.1
  have e26 : ∀ pm : Int32, (fsRv th (zkn a) (znl a) (znr a) pm (zfe a) bm)[26]? = some (.int (nI (zfe a))) := fun _ => rfl
  -- what is noted
  have key : ∀ (Q : Lv → Mm → Nat → Option Value → Prop) (b : DS), (∀ M3, RSt L xs (ntF (fsO (cdA (zab a) y) k) (stO (cdA (zab a) y) k) a) M3 → But [69, 91, 92] M M3 → wS b [some (.ref 69), some (.int (nI y)), some (.int (nI k)), some (.int (nI (stO (cdA (zab a) y) k))), none, none] M3 Q) → wS (seqS (ifS (kI oLt (fI 11 26 (lA 0)) (cI 60)) (seqS (paI 0 (fA 11 27 (lA 0)) (fI 11 26 (lA 0)) (gI 0 (fA 11 23 (lA 0)) (lI 2))) (paI 0 (fA 11 28 (lA 0)) (fI 11 26 (lA 0)) (lI 3))) nop) (seqS (upF 11 26 (lA 0) oAdd (cI 1)) b)) [some (.ref 69), some (.int (nI y)), some (.int (nI k)), some (.int (nI (stO (cdA (zab a) y) k))), none, none] M Q := fun Q b hb => by
    refine q_if (v := decide (zfe a < 60)) (pC_eq (pC_kI (pI_fI (pA_lA rfl) p1 (e26 _)) pI_cI) (oLt_nI (b := 60) (by omega) (by decide))) (fun hb1 => ?_) (fun hb1 => ?_)
    · have hlt := of_decide_eq_true hb1
      have h9 := pI_gI (t := 0) (L := [some (.ref 69), some (.int (nI y)), some (.int (nI k)), some (.int (nI (stO (cdA (zab a) y) k))), none, none]) (pA_fA (k := 23) (pA_lA (i := 0) rfl) p1 rfl) (pI_lI (i := 2) rfl) p3 (inb_nI (show k < 1000 by omega) (by decide))
      rw [nI_clamp (by omega), hff] at h9
      refine q_assoc (q_pa (j := zfe a) (pA_fA (k := 27) (pA_lA rfl) p1 rfl) (pI_fI (pA_lA rfl) p1 (e26 _)) h9 h91 (by decide) hlt (by decide) (Or.inl rfl) ?_)
      have p1' : (setC M 91 (aI 0 60 (upd (zfl a 0) (zfe a) (nI f)))).2.2 69 = _ := (get_ne (by decide)).trans p1
      refine q_pa (j := zfe a) (pA_fA (k := 28) (pA_lA rfl) p1' rfl) (pI_fI (pA_lA rfl) p1' (e26 _)) (pI_lI rfl) ((get_ne (by decide)).trans h92) (by decide) hlt (by decide) (Or.inl rfl) ?_
      refine q_up (pA_lA rfl) pI_cI ((get_ne (by decide)).trans p1') (e26 _) (Nat.le_of_ble_eq_true rfl) (hb _ ?_ (((But.rf.set (by decide)).set (by decide)).set (by decide)))
      unfold ntF
      rw [if_pos hlt, efs]
      refine h.fe (th := th) (pm := nI (cn 1000 (ldB (cdA (zab a) y)))) (bm := bm) (((But.rf.set (by decide)).set (by decide)).set (by decide)) (get_at.trans ?_) ((get_ne (by decide)).trans ((get_ne (by decide)).trans get_at)) ((get_ne (by decide)).trans get_at)
      rw [nI_1]
      rfl
    · have hge := of_decide_eq_false hb1
      refine q_up (pA_lA rfl) pI_cI p1 (e26 _) (Nat.le_of_ble_eq_true rfl) (hb _ ?_ (But.rf.set (by decide)))
      unfold ntF
      rw [if_neg hge]
      refine h.fe (th := th) (pm := nI (cn 1000 (ldB (cdA (zab a) y)))) (bm := bm) (But.rf.set (by decide)) (get_at.trans ?_) ((get_ne (by decide)).trans h91) ((get_ne (by decide)).trans h92)
      rw [nI_1]
      rfl
  refine wF_b rfl (Nat.le_of_ble_eq_true rfl) (key _ _ fun M3 h3 b3 => ?_)
  obtain ⟨a1, ha1⟩ : ∃ a1, a1 = ntF (fsO (cdA (zab a) y) k) (stO (cdA (zab a) y) k) a := ⟨_, rfl⟩
  have hF1 : From2 y y a0 a1 := by rw [ha1]; exact hF.nt hz
  have hab : zab a1 = zab a := by rw [ha1]; rfl
  have hfin : flS y a k = loA y (stO (cdA (zab a) y) k) (cdA (zab a) y) a1 (psF (lbS (cdA (zab a) y)) k 1000) := by rw [ha1]; rfl
  rw [hfin]
  rw [← ha1] at h3
  obtain ⟨g, hg⟩ : ∃ g, g = cdA (zab a) y := ⟨_, rfl⟩
  obtain ⟨s, hse⟩ : ∃ s, s = stO (cdA (zab a) y) k := ⟨_, rfl⟩
  have ht : ∀ c, c ∈ psL (cdA (zab a) y) k → 100 * s ≤ c ∧ ¬ cdA (zab a) y (c - 100 * s) = -1 := fun c hc => by rw [hse]; exact stO_tgt hs hc
  have hgcd : ∀ c, c < 1000 → cOK (zkn a0) (cdA (zab a) y c) := fun c hc => by rw [← hF.2.1]; exact hF.1.av.cd hy16 hc
  rw [← hse, ← hg]
  rw [← hg] at hL hk hcn ht hgcd
  obtain ⟨th3, pm3, bm3, h69⟩ := id h3.2.2
  refine q_ex (wV_Vw (pR_A (pA_lA rfl) (pR_I (pI_lI rfl) pR_0)) h69 ((sp_reads h3 hF1.1.av hy).mono ?_))
  rintro v M4 ⟨rfl, k4, fk, ft, r1, r2, r3⟩
  rw [hab, ← hg] at r3
  have h4 := h3.ka k4 (by decide)
  have p24 : M4.2.2 88 = aI 0 1000 fl := (k4.but.2.2 88 (by decide)).trans ((b3.2.2 88 (by decide)).trans p2)
  refine ⟨rfl, ?_⟩
  have hlt : ∀ j, j < 1000 → ∀ k', lb j = some k' → k' < 1000 := fun j hj k' q => by
    have := lb_lt hL hj q
    omega
  have hcond : ∀ (Mx : Mm) (bx : AS) (j : Nat), RO bx Mx → Mx.2.2 88 = aI 0 1000 fl → j < 1000 → pC (kI oEq (gI 0 (fA 11 22 (lA 0)) (lI 4)) (lI 2)) [some (.ref 69), some (.int (nI y)), some (.int (nI k)), some (.int (nI s)), some (.int (nI j)), none] Mx (decide (lbS g j = some k)) := fun Mx bx j ho m1 hj => by
    obtain ⟨t1, t2, t3, t4⟩ := ho
    have h9 := pI_gI (t := 0) (L := [some (.ref 69), some (.int (nI y)), some (.int (nI k)), some (.int (nI s)), some (.int (nI j)), none]) (pA_fA (k := 22) (pA_lA (i := 0) rfl) t4 rfl) (pI_lI (i := 4) rfl) m1 (inb_nI hj (by decide))
    rw [nI_clamp (by omega), p4 j hj] at h9
    exact pC_eq (pC_kI h9 (pI_lI rfl)) (by rw [lb_eqk (hlt j hj) (by omega), lbS_eq hL hj])
  -- all open
  refine q_for 1000 (fun j L' M5 => L' = [some (.ref 69), some (.int (nI y)), some (.int (nI k)), some (.int (nI s)), some (.int (nI j)), none] ∧ RSt L xs (mvG y (fun c => c) (fun _ => 0) a1 (psF (lbS g) k j)) M5 ∧ But [69, 75, 77, 78, 79, 80, 81, 82] M4 M5) rfl (a := 0) rfl rfl (by decide) (by decide) ⟨rfl, h4, But.rf⟩ ?_ ?_ ?_
  · rintro j L' M5 ⟨rfl, -⟩
    rfl
  · rintro j L' M5 hj ⟨rfl, d1, d2⟩
    refine l_if (hcond M5 _ j d1.2.2 ((d2.2.2 88 (by decide)).trans p24) hj) (fun hq => ?_) (fun hq => ?_)
    · have hq := of_decide_eq_true hq
      have hjp : j ∈ psL g k := psL_mem.mpr ⟨hj, hq⟩
      have hfr : From2 y y a0 (mvG y (fun c => c) (fun _ => 0) a1 (psF (lbS g) k j)) := fl_cut hF1 hy16 _ fun e he => (psL_mem.mp (psF_mem (by omega) he)).1
      have hne : ¬ cdA (zab (mvG y (fun c => c) (fun _ => 0) a1 (psF (lbS g) k j))) y j = -1 := fun q => blk_ne (psL_blk hjp) (by
        rw [hg]
        exact (hF.2.2.2.2.1 _ hj).mpr ((hfr.2.2.2.2.1 _ hj).mp q))
      obtain ⟨t1, t2, t3, t4⟩ := id d1.2.2
      have key := sp_changeAt d1 hy hj hne (k0 := 0) (t0 := 0) (by decide) (by decide) (by decide) (by decide)
      rw [show cdf 0 0 = 0 from rfl] at key
      refine l_scp (wS_setK rfl (wI_vVw (pR_A (pA_lA rfl) (pR_I (pI_lI rfl) (pR_I (pI_lI rfl) (pR_I pI_cI (pR_I pI_cI pR_0))))) t4 (key.mono ?_)))
      rintro r M6 ⟨rfl, e1, e2⟩
      refine ⟨_, rfl, Or.inr ⟨by decide, by decide, rfl, rfl, rfl, ?_, d2.tr e2⟩⟩
      rw [psF_ins hq, mvG_app]
      exact e1
    · refine wS_nop (Or.inr ⟨by decide, by decide, rfl, rfl, rfl, ?_, d2⟩)
      rw [psF_skip (of_decide_eq_false hq)]
      exact d1
  rintro L' M5 ⟨rfl, d1, d2⟩
  obtain ⟨b1, hb1⟩ : ∃ b1, b1 = mvG y (fun c => c) (fun _ => 0) a1 (psF (lbS g) k 1000) := ⟨_, rfl⟩
  have hfin2 : loA y s g a1 (psF (lbS g) k 1000) = mvG y (fun c => c - 100 * s) g b1 (psF (lbS g) k 1000) := by rw [hb1]; rfl
  rw [hfin2]
  rw [← hb1] at d1
  have hF2 : From2 y y a0 b1 := by rw [hb1]; exact fl_cut hF1 hy16 _ fun e he => (psL_mem.mp (psF_mem (Nat.le_refl _) he)).1
  refine q_for 1000 (fun j L' M6 => L' = [some (.ref 69), some (.int (nI y)), some (.int (nI k)), some (.int (nI s)), some (.int (nI j)), none] ∧ RSt L xs (mvG y (fun c => c - 100 * s) g b1 (psF (lbS g) k j)) M6 ∧ But [69, 75, 77, 78, 79, 80, 81, 82] M4 M6) rfl (a := 0) rfl rfl (by decide) (by decide) ⟨rfl, d1, d2⟩ ?_ ?_ ?_
  · rintro j L' M5 ⟨rfl, -⟩
    rfl
  · rintro j L' M6 hj ⟨rfl, e1, e2⟩
    refine l_if (hcond M6 _ j e1.2.2 ((e2.2.2 88 (by decide)).trans p24) hj) (fun hq => ?_) (fun hq => ?_)
    · have hq := of_decide_eq_true hq
      have hjp : j ∈ psL g k := psL_mem.mpr ⟨hj, hq⟩
      obtain ⟨u1, u2⟩ := ht j hjp
      have hto : j - 100 * s < 1000 := by omega
      have hbl := psL_blk hjp
      have hbf := blk_facts (hF.2.1 ▸ hF.1.1) (hgcd j hj) hbl
      obtain ⟨m1, m2, m3, m4, m5, m6, m7, m8⟩ := hbf
      have hfr : From2 y y a0 (mvG y (fun c => c - 100 * s) g b1 (psF (lbS g) k j)) := fl_put hF2 hy16 _ fun d hd => by
        have hdp := psF_mem (show j ≤ 1000 by omega) hd
        have hd1 := (psL_mem.mp hdp).1
        exact ⟨by omega, hgcd d hd1, blk_ne (psL_blk hdp)⟩
      have hne : ¬ cdA (zab (mvG y (fun c => c - 100 * s) g b1 (psF (lbS g) k j))) y (j - 100 * s) = -1 := fun q => u2 (by
        rw [hg]
        exact (hF.2.2.2.2.1 _ hto).mpr ((hfr.2.2.2.2.1 _ hto).mp q))
      obtain ⟨t1, t2, t3, t4⟩ := id e1.2.2
      have e100 : nI j - 100 * nI s = nI (j - 100 * s) := by
        rw [nI_mul (c := 100) (m := 100) rfl, nI_sub u1 (by omega)]
      have v85 : M6.2.2 85 = aI 0 1000 fk := (e2.2.2 85 (by decide)).trans r1
      have v86 : M6.2.2 86 = aI 0 1000 ft := (e2.2.2 86 (by decide)).trans r2
      have h9 := pI_gI (t := 0) (L := [some (.ref 69), some (.int (nI y)), some (.int (nI k)), some (.int (nI s)), some (.int (nI j)), none]) (pA_fA (k := 19) (pA_lA (i := 0) rfl) t4 rfl) (pI_lI (i := 4) rfl) v85 (inb_nI hj (by decide))
      rw [nI_clamp (by omega), (r3 j hj).1, m3] at h9
      have h8 := pI_gI (t := 0) (L := [some (.ref 69), some (.int (nI y)), some (.int (nI k)), some (.int (nI s)), some (.int (nI j)), none]) (pA_fA (k := 20) (pA_lA (i := 0) rfl) t4 rfl) (pI_lI (i := 4) rfl) v86 (inb_nI hj (by decide))
      rw [nI_clamp (by omega), (r3 j hj).2, kR_no (hgcd j hj), if_neg (show ¬ oEq (g j) (-1) = true from fun q => m1 (of_decide_eq_true q))] at h8
      have key := sp_changeAt e1 hy hto hne m4 m5 m6 m7
      rw [m8] at key
      refine l_scp (wS_setK rfl (wI_vVw (pR_A (pA_lA rfl) (pR_I (pI_lI rfl) (pR_I (pI_eq (pI_sub (pI_lI rfl) (pI_mul pI_cI (pI_lI rfl))) e100) (pR_I h9 (pR_I h8 pR_0))))) t4 (key.mono ?_)))
      rintro r M7 ⟨rfl, w1, w2⟩
      refine ⟨_, rfl, Or.inr ⟨by decide, by decide, rfl, rfl, rfl, ?_, e2.tr w2⟩⟩
      rw [psF_ins hq, mvG_app]
      exact w1
    · refine wS_nop (Or.inr ⟨by decide, by decide, rfl, rfl, rfl, ?_, e2⟩)
      rw [psF_skip (of_decide_eq_false hq)]
      exact e1
  · rintro L' M6 ⟨rfl, e1, e2⟩
    exact wS_retV ⟨rfl, rfl, e1, (b3.ron (by decide)).tr ((k4.ron (by decide)).tr (e2.ron (by decide)))⟩
end SR
