/-! partOf: how far a part falls -/
noncomputable def goS (g : Nat → Int32) (k s c : Nat) : Bool := decide (100 * (s + 1) ≤ c) && (oEq (g (c - 100 * (s + 1))) 0 || decide (lbS g (c - 100 * (s + 1)) = some k))
noncomputable def stO (g : Nat → Int32) (k : Nat) : Nat := ((List.range 10).find? fun s => (List.range 1000).any fun c => decide (lbS g c = some k) && !(goS g k s c)).getD 0
theorem stO_eq {g : Nat → Int32} {k S : Nat} (hS : S < 10) (h1 : ∀ s, s < S → ∀ c, c < 1000 → lbS g c = some k → goS g k s c = true) (h2 : ∃ c, c < 1000 ∧ lbS g c = some k ∧ goS g k S c = false) : stO g k = S := by
  obtain ⟨c, c1, c2, c3⟩ := h2
  unfold stO
  have e : (List.range 10).find? (fun s => (List.range 1000).any fun c => decide (lbS g c = some k) && !(goS g k s c)) = some S := by
    refine List.find?_range_eq_some.mpr ⟨List.any_eq_true.mpr ⟨c, List.mem_range.mpr c1, by rw [c2, c3, decide_eq_true rfl]; rfl⟩, List.mem_range.mpr hS, fun s hs => ?_⟩
    rw [Bool.not_eq_true']
    refine Bool.eq_false_iff.mpr fun q => ?_
    obtain ⟨x, x1, x2⟩ := List.any_eq_true.mp q
    obtain ⟨x3, x4⟩ := Bool.and_eq_true_iff.mp x2
    rw [h1 s hs x (List.mem_range.mp x1) (of_decide_eq_true x3)] at x4
    cases x4
  rw [e]
  rfl
theorem goS_9 {g : Nat → Int32} {k s c : Nat} (hc : c < 1000) (hs : 9 ≤ s) : goS g k s c = false := by
  unfold goS
  rw [decide_eq_false (by omega)]
  rfl
section ST9
variable {L : Nat} {xs : Nat → Int32} {M : Mm} {a : AS} {g : Nat → Int32} {bs : List Nat}
theorem lb_eqk {lb : Nat → Option Nat} {j k : Nat} (hlt : ∀ k', lb j = some k' → k' < 1000) (hk : k < 1000) : oEq (oI (lb j)) (nI k) = decide (lb j = some k) := by
  cases q : lb j with
  | none =>
    rw [show decide ((none : Option Nat) = some k) = false from decide_eq_false (fun q => by cases q)]
    refine decide_eq_false fun q2 => ?_
    have q3 : (-1 : Int32) = nI k := q2
    have := congrArg Int32.toInt q3
    rw [nI_toInt (by omega), show (-1 : Int32).toInt = -1 from rfl] at this
    omega
  | some k' =>
    have := hlt k' q
    exact (oEq_nI (a := k') (b := k) (by omega) (by omega)).trans (decide_eq_decide.mpr ⟨fun q => by rw [q], fun q => by injection q⟩)
theorem sp_freeBelow (hg : GrC M 51 g bs) {lb : Nat → Option Nat} {v0 : Int32} (hL : LB g 1000 lb) (l1 : LMP M v0) {fl : Nat → Int32} (l2 : M.2.2 58 = aI 0 1000 fl) (l4 : ∀ c, c < 1000 → fl c = oI (lb c)) {k c : Nat} (hk : k < 1000) (hc : c < 1000) : ∃ F, F ≤ 9 ∧ F_X6_freeBelow [.ref 57, .int (nI c), .int (nI k), .ref 51] M = some (some (.int (nI F)), M) ∧ (∀ s, s < F → goS g k s c = true) ∧ goS g k F c = false := by
  suffices hs : wF F_X6_freeBelow [.ref 57, .int (nI c), .int (nI k), .ref 51] M fun v M' => M' = M ∧ ∃ F, F ≤ 9 ∧ v = some (.int (nI F)) ∧ (∀ s, s < F → goS g k s c = true) ∧ goS g k F c = false by
    obtain ⟨v, M', e, rfl, F, h1, rfl, h2⟩ := hs
    exact ⟨F, h1, e, h2⟩
  have hbig : big = 1000000 := rfl
  have hlt : ∀ j, j < 1000 → ∀ k', lb j = some k' → k' < 1000 := fun j hj k' q => by
    have := lb_lt hL hj q
    have := cn_le 1000 (ldB g)
    omega
  refine wF_b rfl (Nat.le_of_ble_eq_true rfl) (q_I rfl pI_cI ?_)
  refine q_scp (q_I rfl (pI_sub (pI_lI rfl) pI_cI) (wS_wh (I := fun m L' M2 => ∃ s v, m + s = 10 ∧ L' = [some (.ref 57), some (.int (nI c)), some (.int (nI k)), some (.ref 51), some (.int (nI s)), some (.int v)] ∧ M2 = M ∧ v.toInt = (c : Int) - 100 * (s + 1) ∧ s ≤ 9 ∧ ∀ s', s' < s → goS g k s' c = true) ?_ 10 _ _ ⟨0, _, rfl, rfl, rfl, ?_, by decide, fun s' h => absurd h (Nat.not_lt_zero s')⟩ (by omega)))
  rotate_left
  · have e : (100 : Int32).toInt = 100 := rfl
    rw [Int32.toInt_sub, nI_toInt (by omega), e, Int.bmod_eq_of_le (by omega) (by omega)]
    omega
  rintro m L' M2 ⟨s, v, hms, rfl, rfl, hv, hs9, h1⟩
  refine wC_p (pC_eq (pC_kI (pI_lI rfl) pI_cI) (show oGe v 0 = decide (100 * (s + 1) ≤ c) by
    unfold oGe
    rw [decide_eq_decide, Int32.le_iff_toInt_le, hv, show (0 : Int32).toInt = 0 from rfl]
    omega)) ⟨fun hr => ⟨fun _ => ?_, fun q => absurd rfl q⟩, fun hr => ?_⟩
  · refine l_ret (pI_lI rfl) ⟨rfl, rfl, s, hs9, rfl, h1, ?_⟩
    unfold goS
    rw [hr]
    rfl
  · have hle := of_decide_eq_true hr
    obtain ⟨e, ee⟩ : ∃ e, e = c - 100 * (s + 1) := ⟨_, rfl⟩
    have he : e < 1000 := by omega
    have ev : v = nI e := by
      apply Int32.toInt_inj.mp
      rw [hv, nI_toInt (by omega)]
      omega
    subst ev
    have h8 := pI_gI (t := 0) (L := [some (.ref 57), some (.int (nI c)), some (.int (nI k)), some (.ref 51), some (.int (nI s)), some (.int (nI e))]) (pA_fA (k := 0) (pA_lA (i := 0) rfl) l1 rfl) (pI_lI (i := 5) rfl) l2 (inb_nI he (by decide))
    rw [nI_clamp (by omega), l4 e he] at h8
    have ego : goS g k s c = (oEq (g e) 0 || decide (lbS g e = some k)) := by
      unfold goS
      rw [decide_eq_true hle, Bool.true_and, ← ee]
    have ecd : (oNe (g e) 0 && oNe (oI (lb e)) (nI k)) = !(goS g k s c) := by
      rw [oNe_not, oNe_not, lb_eqk (hlt e he) hk, ego, lbS_eq hL he, Bool.not_or]
    refine q_if (pC_eq (pC_and (pC_kI (pI_eq (pI_vV (pR_A (pA_lA rfl) (pR_I (pI_lI rfl) pR_0)) hg.1 (sp_code hg _)) (gAt_nI g he)) pI_cI) (pC_kI h8 (pI_lI rfl))) ecd) (fun hq => ?_) (fun hq => ?_)
    · rw [Bool.not_eq_true'] at hq
      refine q_brk ⟨fun _ => ⟨fun _ => l_ret (pI_lI rfl) ⟨rfl, rfl, s, hs9, rfl, h1, hq⟩, fun q => absurd rfl q⟩, fun q => absurd q (by decide), fun q => absurd rfl q⟩
    · rw [Bool.not_eq_false'] at hq
      refine l_inc rfl rfl ⟨fun q => absurd q (by decide), fun q => absurd q (by decide), fun _ _ => wS_inc rfl rfl ⟨rfl, m - 1, by omega, s + 1, nI e + -100, by omega, by rw [← nI_1]; rfl, rfl, ?_, by omega, fun s' hs' => ?_⟩⟩
      · have e2 : (-100 : Int32).toInt = -100 := rfl
        rw [Int32.toInt_add, hv, e2, Int.bmod_eq_of_le (by omega) (by omega)]
        omega
      · by_cases q : s' = s
        · rw [q]; exact hq
        · exact h1 s' (by omega)
theorem sp_stepsC (hg : GrC M 51 g bs) {lb : Nat → Option Nat} {mem : List Nat} {st : Nat → Nat} (hL : LB g 1000 lb) (hP : PSC g lb mem st M) {k : Nat} (hk : k < cn 1000 (ldB g)) : F_X6_stepsOf [.ref 57, .int (nI k), .ref 51] M = some (some (.int (nI (stO g k))), M) := by
  have hbig : big = 1000000 := rfl
  obtain ⟨l1, ⟨fl, fm, l2, l3, l4, l5⟩, hS, hml, fs, l6, l7⟩ := hP
  obtain ⟨f, hf, hld, efk⟩ := ld_of 1000 hk
  obtain ⟨s1, s2, s3, s4, s5, s6⟩ := hS.2 f hld hf
  have hcn := cn_le 1000 (ldB g)
  rw [efk] at s1 s2 s3 s4 s5 s6
  have hf2 : lbS g f = some k := by
    rw [← lbS_eq hL hf]
    exact (s5 f hf).mpr ⟨st k, Nat.le_refl _, s2, s1⟩
  have pst : ∀ (Lx : Lv), lkp Lx 0 = some (.ref 57) → lkp Lx 1 = some (.int (nI k)) → pI (gI 0 (fA 6 2 (lA 0)) (lI 1)) Lx M (nI (st k)) := fun Lx q0 q1 => by
    have h9 := pI_gI (t := 0) (L := Lx) (pA_fA (k := 2) (pA_lA q0) l1 rfl) (pI_lI q1) l6 (inb_nI (show k < 1001 by omega) (by decide))
    rw [nI_clamp (by omega), l7 k (by omega)] at h9
    exact h9
  have pst1 : ∀ (Lx : Lv), lkp Lx 0 = some (.ref 57) → lkp Lx 1 = some (.int (nI k)) → pI (gI 0 (fA 6 2 (lA 0)) (bI oAdd (lI 1) (cI 1))) Lx M (nI (st (k + 1))) := fun Lx q0 q1 => by
    have h9 := pI_gI (t := 0) (L := Lx) (pA_fA (k := 2) (pA_lA q0) l1 rfl) (pI_eq (pI_add (pI_lI q1) pI_cI) (nI_1 k)) l6 (inb_nI (show k + 1 < 1001 by omega) (by decide))
    rw [nI_clamp (by omega), l7 (k + 1) (by omega)] at h9
    exact h9
  refine wF_eq (wF_b rfl (Nat.le_of_ble_eq_true rfl) (q_I rfl pI_cI ?_))
  refine q_scp (q_I rfl (pst _ rfl rfl) (wS_wh (I := fun m L' M2 => ∃ j v, m + j = st (k + 1) ∧ L' = [some (.ref 57), some (.int (nI k)), some (.ref 51), some (.int (nI v)), some (.int (nI j))] ∧ M2 = M ∧ v ≤ 9 ∧ st k ≤ j ∧ (∀ s, s < v → ∀ i, st k ≤ i → i < j → goS g k s (mem.getD i 0) = true) ∧ (v = 9 ∨ ∃ c, c < 1000 ∧ lbS g c = some k ∧ goS g k v c = false)) ?_ (st (k + 1) - st k) _ _ ⟨st k, 9, by omega, rfl, rfl, Nat.le_refl _, Nat.le_refl _, fun s _ i i1 i2 => absurd i2 (by omega), Or.inl rfl⟩ (by omega)))
  rintro m L' M2 ⟨j, v, hmj, rfl, rfl, hv, hj, h1, h2⟩
  refine wC_p (pC_and (pC_eq (pC_kI (pI_lI rfl) (pst1 _ rfl rfl)) (oLt_nI (by omega) (by omega))) (pC_eq (pC_kI (pI_lI rfl) pI_cI) (oGt_nI (b := 0) (by omega) (by decide)))) ⟨fun hr => ⟨fun _ => ?_, fun q => absurd rfl q⟩, fun hr => ?_⟩
  · refine l_ret (pI_lI rfl) ⟨rfl, ?_, rfl⟩
    rw [← Bool.decide_and] at hr
    have hr := of_decide_eq_false hr
    have e : stO g k = v := stO_eq (by omega) (fun s hs c hc hck => by
      rw [← lbS_eq hL hc] at hck
      obtain ⟨i, i1, i2, i3⟩ := (s5 c hc).mp hck
      rw [← i3]
      exact h1 s hs i i1 (by omega)) (by
      rcases h2 with rfl | h2
      · exact ⟨f, hf, hf2, goS_9 hf (Nat.le_refl _)⟩
      · exact h2)
    rw [e]
  · obtain ⟨hr1, hr2⟩ := Bool.and_eq_true_iff.mp hr
    have hjl := of_decide_eq_true hr1
    obtain ⟨c, ec⟩ : ∃ c, c = mem.getD j 0 := ⟨_, rfl⟩
    have hc : c < 1000 := by rw [ec]; exact s6 j hj hjl
    have hck : lbS g c = some k := by rw [← lbS_eq hL hc]; exact (s5 c hc).mpr ⟨j, hj, hjl, ec.symm⟩
    have h9 := pI_gI (t := 0) (L := [some (.ref 57), some (.int (nI k)), some (.ref 51), some (.int (nI v)), some (.int (nI j))]) (pA_fA (k := 1) (pA_lA (i := 0) rfl) l1 rfl) (pI_lI (i := 4) rfl) l3 (inb_nI (show j < 1000 by omega) (by decide))
    rw [nI_clamp (by omega), l5 j (by omega), ← ec] at h9
    obtain ⟨F, hF, e1, e2, e3⟩ := sp_freeBelow hg hL l1 l2 l4 (k := k) (by omega) hc
    refine l_I rfl (pI_eq (pI_min (pI_lI rfl) (pI_vV (pR_A (pA_lA rfl) (pR_I h9 (pR_I (pI_lI rfl) (pR_A (pA_lA rfl) pR_0)))) l1 e1)) (show (if nI F < nI v then nI F else nI v) = nI (if F < v then F else v) by
      by_cases q : F < v
      · rw [if_pos q, if_pos (of_decide_eq_true ((oLt_nI (a := F) (b := v) (by omega) (by omega)).trans (decide_eq_true q)))]
      · rw [if_neg q, if_neg (of_decide_eq_false ((oLt_nI (a := F) (b := v) (by omega) (by omega)).trans (decide_eq_false q)))])) ⟨fun q => absurd q (by decide), fun q => absurd q (by decide), fun _ _ => wS_inc rfl rfl ⟨rfl, m - 1, by omega, j + 1, if F < v then F else v, by omega, by rw [← nI_1]; rfl, rfl, by split <;> omega, by omega, fun s hs i i1 i2 => ?_, ?_⟩⟩
    · by_cases q : i = j
      · rw [q, ← ec]
        exact e2 s (by split at hs <;> omega)
      · exact h1 s (by split at hs <;> omega) i i1 (by omega)
    · split
      · exact Or.inr ⟨c, hc, hck, e3⟩
      · exact h2
theorem sp_fallsR (h : RSt L xs a M) (hO : OkA a) {y : Nat} (hy : y < 4) {lb : Nat → Option Nat} (hL : LB (cdA (zab a) y) 1000 lb) (hP : PSR a (cdA (zab a) y) 1000 1000 lb M) {k : Nat} (hk : k < cn 1000 (ldB (cdA (zab a) y))) : F_X12_falls [.ref 69, .int (nI y), .int (nI k)] M = some (some (.int (nI (stO (cdA (zab a) y) k))), M) := by
  have hbig : big = 1000000 := rfl
  obtain ⟨th, bm, fl, ff, p1, p2, p3, p4, p5⟩ := hP
  obtain ⟨g, hg⟩ : ∃ g, g = cdA (zab a) y := ⟨_, rfl⟩
  have hkd := fun (c : Nat) (hc : c < 1000) => sp_kindR2 h.1 h.2.2 (y := y) (by omega) hc
  rw [← hg] at hL hk hkd ⊢
  have hcd : ∀ c, c < 1000 → cOK (zkn a) (g c) := fun c hc => by rw [hg]; exact hO.av.cd (by omega) hc
  have hcn := cn_le 1000 (ldB g)
  obtain ⟨f, hf, hld, efk⟩ := ld_of 1000 hk
  have hf2 : lbS g f = some k := by
    rw [← lbS_eq hL hf]
    exact (hL f hf k).mpr ⟨f, hld, hf, con_rf f, efk.symm⟩
  have hlt : ∀ j, j < 1000 → ∀ k', lb j = some k' → k' < 1000 := fun j hj k' q => by
    have := lb_lt hL hj q
    omega
  refine wF_eq (wF_b rfl (Nat.le_of_ble_eq_true rfl) (q_I rfl pI_cI (q_I rfl pI_cI ?_)))
  refine wS_seq (wS_wh (I := fun m L' M2 => ∃ s b, L' = [some (.ref 69), some (.int (nI y)), some (.int (nI k)), some (.int (nI s)), some (.int (nI b)), none, none] ∧ M2 = M ∧ (b = 0 ∨ b = 1) ∧ s ≤ 10 ∧ (b = 1 → m + s = 11) ∧ (∀ s', s' < s → ∀ c, c < 1000 → lbS g c = some k → goS g k s' c = true) ∧ (b = 0 → m = 0 ∧ ∃ c, c < 1000 ∧ lbS g c = some k ∧ goS g k s c = false)) ?_ 11 _ _ ⟨0, 1, rfl, rfl, Or.inr rfl, by omega, fun _ => rfl, fun s' hs' => absurd hs' (Nat.not_lt_zero s'), fun q => absurd q (by decide)⟩ (by omega))
  rintro m L' M2 ⟨s, b, rfl, rfl, hb, hs10, hm, h1, h2⟩
  have hs9 : s ≤ 9 := by
    refine Classical.byContradiction fun q => ?_
    have := h1 9 (by omega) f hf hf2
    rw [goS_9 hf (Nat.le_refl _)] at this
    cases this
  refine wC_p (pC_eq (pC_kI (pI_lI rfl) pI_cI) (show oNe (nI b) 0 = decide (b = 1) by rcases hb with rfl | rfl <;> rfl)) ⟨fun hr => ⟨fun _ => ?_, fun q => absurd rfl q⟩, fun hr => ?_⟩
  · have hb0 : b = 0 := by have := of_decide_eq_false hr; omega
    refine l_ret (pI_lI rfl) ⟨rfl, ?_, rfl⟩
    have e : stO g k = s := stO_eq (by omega) h1 (h2 hb0).2
    rw [e]
  · have hb1 := of_decide_eq_true hr
    subst hb1
    have hm := hm rfl
    refine q_scp (q_I rfl pI_cI (wS_wh (I := fun n L' M3 => ∃ j b, n + j = 1000 ∧ L' = [some (.ref 69), some (.int (nI y)), some (.int (nI k)), some (.int (nI s)), some (.int (nI b)), some (.int (nI j)), none] ∧ M3 = M2 ∧ (b = 0 ∨ b = 1) ∧ (b = 1 → ∀ c, c < j → lbS g c = some k → goS g k s c = true) ∧ (b = 0 → ∃ c, c < 1000 ∧ lbS g c = some k ∧ goS g k s c = false)) ?_ 1000 _ _ ⟨0, 1, rfl, rfl, rfl, Or.inr rfl, fun _ c hc => absurd hc (Nat.not_lt_zero c), fun q => absurd q (by decide)⟩ (by omega)))
    rintro n L' M3 ⟨j, b, hnj, rfl, rfl, hb, i1, i2⟩
    refine wC_p (pC_and (pC_eq (pC_kI (pI_lI rfl) pI_cI) (oLt_nI (b := 1000) (by omega) (by decide))) (pC_eq (pC_kI (pI_lI rfl) pI_cI) (show oNe (nI b) 0 = decide (b = 1) by rcases hb with rfl | rfl <;> rfl))) ⟨fun hr => ⟨fun _ => ?_, fun q => absurd rfl q⟩, fun hr => ?_⟩
    · refine l_I rfl (pI_add (pI_lI rfl) (pI_tI (pC_eq (pC_kI (pI_lI rfl) pI_cI) (show oNe (nI b) 0 = decide (b = 1) by rcases hb with rfl | rfl <;> rfl)) pI_cI pI_cI)) ⟨fun q => absurd q (by decide), fun q => absurd q (by decide), fun _ _ => wS_nop ⟨rfl, ?_⟩⟩
      rw [← Bool.decide_and] at hr
      have hr := of_decide_eq_false hr
      rcases hb with rfl | rfl
      · refine ⟨0, by omega, s, 0, ?_, rfl, Or.inl rfl, hs10, fun q => absurd q (by decide), h1, fun _ => ⟨rfl, i2 rfl⟩⟩
        rw [if_neg (by decide), Int32.add_zero]
        rfl
      · refine ⟨m - 1, by omega, s + 1, 1, ?_, rfl, Or.inr rfl, by omega, fun _ => by omega, fun s' hs' c hc hck => ?_, fun q => absurd q (by decide)⟩
        · rw [if_pos (by decide), nI_1]
          rfl
        · by_cases q : s' = s
          · rw [q]; exact i1 rfl c (by omega) hck
          · exact h1 s' (by omega) c hc hck
    · obtain ⟨hr1, hr2⟩ := Bool.and_eq_true_iff.mp hr
      have hj := of_decide_eq_true hr1
      have hb1 := of_decide_eq_true hr2
      subst hb1
      have i1 := i1 rfl
      have h9 := pI_gI (t := 0) (L := [some (.ref 69), some (.int (nI y)), some (.int (nI k)), some (.int (nI s)), some (.int (nI 1)), some (.int (nI j)), none]) (pA_fA (k := 22) (pA_lA (i := 0) rfl) p1 rfl) (pI_lI (i := 5) rfl) p2 (inb_nI hj (by decide))
      rw [nI_clamp (by omega), p4 j hj] at h9
      refine l_scp (q_if (v := !(decide (lb j = some k))) (pC_eq (pC_kI h9 (pI_lI rfl)) (by rw [oNe_not, lb_eqk (hlt j hj) (by omega)])) (fun hq => ?_) (fun hq => ?_))
      · rw [Bool.not_eq_true'] at hq
        refine q_cnt ⟨fun q => absurd q (by decide), fun q => absurd q (by decide), fun _ _ => wS_inc rfl rfl ⟨rfl, n - 1, by omega, j + 1, 1, by omega, by rw [← nI_1 j]; rfl, rfl, Or.inr rfl, fun _ c hc hck => ?_, fun q => absurd q (by decide)⟩⟩
        by_cases q : c = j
        · rw [q, ← lbS_eq hL hj] at hck
          exact absurd hck (of_decide_eq_false hq)
        · exact i1 c (by omega) hck
      · rw [Bool.not_eq_false'] at hq
        have hck : lbS g j = some k := by rw [← lbS_eq hL hj]; exact of_decide_eq_true hq
        have e100 : (100 : Int32) * (nI s + 1) = nI (100 * (s + 1)) := by rw [nI_1, nI_mul (c := 100) (m := 100) rfl]
        have hv : (nI j - nI (100 * (s + 1))).toInt = (j : Int) - 100 * (s + 1) := by
          rw [Int32.toInt_sub, nI_toInt (by omega), nI_toInt (by omega), Int.bmod_eq_of_le (by omega) (by omega)]
          omega
        refine q_I rfl (pI_eq (pI_sub (pI_lI rfl) (pI_mul pI_cI (pI_add (pI_lI rfl) pI_cI))) (by rw [e100])) ?_
        have hgo : pI (zI (andC (kI oGe (lI 6) (cI 0)) (orC (kI oEq (vI (ivV 11 F_X12_kindOf (rA (lA 0) (rI (lI 1) (rI (lI 6) (r0)))))) (cI 0)) (kI oEq (gI 0 (fA 11 22 (lA 0)) (lI 6)) (lI 2))))) [some (.ref 69), some (.int (nI y)), some (.int (nI k)), some (.int (nI s)), some (.int (nI 1)), some (.int (nI j)), some (.int (nI j - nI (100 * (s + 1))))] M3 (bz (goS g k s j)) := by
          refine pI_zI (pC_andD (pC_eq (pC_kI (pI_lI rfl) pI_cI) (show oGe (nI j - nI (100 * (s + 1))) 0 = decide (100 * (s + 1) ≤ j) by
            unfold oGe
            rw [decide_eq_decide, Int32.le_iff_toInt_le, hv, show (0 : Int32).toInt = 0 from rfl]
            omega)) fun hle => ?_)
          have hle := of_decide_eq_true hle
          obtain ⟨e, ee⟩ : ∃ e, e = j - 100 * (s + 1) := ⟨_, rfl⟩
          have he : e < 1000 := by omega
          have ev : nI j - nI (100 * (s + 1)) = nI e := by rw [nI_sub hle (by omega), ee]
          rw [ev, ← ee]
          have h8 := pI_gI (t := 0) (L := [some (.ref 69), some (.int (nI y)), some (.int (nI k)), some (.int (nI s)), some (.int (nI 1)), some (.int (nI j)), some (.int (nI e))]) (pA_fA (k := 22) (pA_lA (i := 0) rfl) p1 rfl) (pI_lI (i := 6) rfl) p2 (inb_nI he (by decide))
          rw [nI_clamp (by omega), p4 e he] at h8
          exact pC_or (pC_eq (pC_kI (pI_vV (pR_A (pA_lA rfl) (pR_I (pI_lI rfl) (pR_I (pI_lI rfl) pR_0))) p1 (hkd e he)) pI_cI) (kR_0 (hcd e he))) (pC_eq (pC_kI h8 (pI_lI rfl)) (by rw [lb_eqk (hlt e he) (by omega), lbS_eq hL he]))
        refine l_I rfl hgo ⟨fun q => absurd q (by decide), fun q => absurd q (by decide), fun _ _ => wS_inc rfl rfl ⟨rfl, n - 1, by omega, j + 1, if goS g k s j = true then 1 else 0, by omega, ?_, rfl, ?_, fun q c hc hck2 => ?_, fun q => ?_⟩⟩
        · rw [← nI_1 j]
          cases goS g k s j <;> rfl
        · split
          · exact Or.inr rfl
          · exact Or.inl rfl
        · by_cases q2 : c = j
          · rw [q2]
            exact Classical.byContradiction fun q3 => by rw [if_neg q3] at q; cases q
          · exact i1 c (by omega) hck2
        · refine ⟨j, hj, hck, ?_⟩
          cases q2 : goS g k s j with
          | false => rfl
          | true => rw [q2, if_pos rfl] at q; cases q
end ST9
