/-! settle: the class's pieces -/
theorem GrC.cg {M : Mm} {q : Nat} {g g' : Nat → Int32} {bs : List Nat} (h : GrC M q g bs) (e : ∀ c, c < 1000 → g c = g' c) : GrC M q g' bs := by
  obtain ⟨h1, ⟨f, h2, h3⟩, h4⟩ := h
  exact ⟨h1, ⟨f, h2, fun c hc => (h3 c hc).trans (e c hc)⟩, h4⟩
theorem sp_write {M : Mm} {q c : Nat} {v : Int32} {g : Nat → Int32} {bs : List Nat} (h : GrC M q g bs) (h5 : 5 ≤ q) (hc : c < 1000) : wF F_X1_write [.ref q, .int (nI c), .int v] M fun r M' => r = none ∧ But [q + 1] M M' ∧ GrC M' q (fun e => if e = c then v else g e) bs := by
  obtain ⟨h1, ⟨f, h2, h3⟩, ls, h4, h6⟩ := h
  refine wF_b rfl (Nat.le_of_ble_eq_true rfl) (q_if (v := true) (pC_eq (pC_nz (pI_vS (pR_I (pI_lI rfl) pR_0) (sp_isCell _ _))) (isCell_nI hc)) (fun _ => ?_) (fun q => by cases q))
  refine q_pa (j := c) (pA_fA (k := 0) (pA_lA rfl) h1 rfl) (pI_lI rfl) (pI_lI rfl) h2 (by omega) hc (by decide) (Or.inl rfl) (wS_retV ⟨rfl, rfl, But.rf.set (by simp), (get_ne (by omega)).trans h1, ⟨_, get_at, fun e he => ?_⟩, ls, (get_ne (by omega)).trans h4, h6⟩)
  show (if e = c then v else f e) = if e = c then v else g e
  by_cases q : e = c
  · rw [if_pos q, if_pos q]
  · rw [if_neg q, if_neg q]; exact h3 e he
theorem stO_lt (g : Nat → Int32) (k : Nat) : stO g k < 10 := by
  unfold stO
  cases q : (List.range 10).find? fun s => (List.range 1000).any fun c => decide (lbS g c = some k) && !(goS g k s c) with
  | none => exact Nat.zero_lt_succ 9
  | some S =>
    obtain ⟨-, h2, -⟩ := List.find?_range_eq_some.mp q
    exact List.mem_range.mp h2
theorem PSC.fr {g : Nat → Int32} {lb : Nat → Option Nat} {mem : List Nat} {st : Nat → Nat} {M M' : Mm} (h : PSC g lb mem st M) (e : ∀ b, 57 ≤ b → b ≤ 60 → M'.2.2 b = M.2.2 b) : PSC g lb mem st M' := by
  obtain ⟨l1, ⟨fl, fm, l2, l3, l4⟩, hS, hm, fs, l5, l6⟩ := h
  exact ⟨(e 57 (by decide) (by decide)).trans l1, ⟨fl, fm, (e 58 (by decide) (by decide)).trans l2, (e 59 (by decide) (by decide)).trans l3, l4⟩, hS, hm, fs, (e 60 (by decide) (by decide)).trans l5, l6⟩
section LW
variable {L : Nat} {xs : Nat → Int32} {M : Mm} {a : AS} {g : Nat → Int32} {bs : List Nat} {lb : Nat → Option Nat} {mem : List Nat} {st : Nat → Nat}
theorem sp_nextC (h : CCo L xs a M) (hO : OkA a) (hg : GrC M 51 g bs) (hcd : ∀ c, c < 1000 → cOK (zkn a) (g c)) (hL : LB g 1000 lb) (hP : PSC g lb mem st M) : F_X6_nextToFall [.ref 57, .ref 51, .ref 7] M = some (some (.int (oI (nxF a g))), M) := by
  have hbig : big = 1000000 := rfl
  have hcn := cn_le 1000 (ldB g)
  refine wF_eq (wF_b rfl (Nat.le_of_ble_eq_true rfl) ?_)
  refine q_forC (cn 1000 (ldB g)) (fun j L' M2 => L' = [some (.ref 57), some (.ref 51), some (.ref 7), some (.int (nI j))] ∧ M2 = M ∧ ∀ i, i < j → cnF a g i = false) rfl (a := 0) pI_cI (by omega) (Nat.zero_le _) ⟨rfl, rfl, fun i hi => absurd hi (Nat.not_lt_zero i)⟩ ?_ ?_ ?_
  · rintro j L' M2 hj ⟨rfl, rfl, -⟩
    exact pC_eq (pC_kI (pI_lI rfl) (pI_fI (pA_lA rfl) hP.1 rfl)) (oLt_nI (by omega) (by omega))
  · rintro j L' M2 hj ⟨rfl, rfl, j2⟩
    have hst := stO_lt g j
    refine l_if (v := cnF a g j) (pC_andD (pC_nz (pI_vV (pR_A (pA_lA rfl) (pR_I (pI_lI rfl) (pR_A (pA_lA rfl) (pR_A (pA_lA rfl) pR_0)))) hP.1 (sp_isLooseC h hO hg hcd hL hP hj))) fun _ => pC_eq (pC_kI (pI_vV (pR_A (pA_lA rfl) (pR_I (pI_lI rfl) (pR_A (pA_lA rfl) pR_0))) hP.1 (sp_stepsC hg hL hP hj)) pI_cI) (oGt_nI (b := 0) (by omega) (by decide))) (fun hq => ?_) (fun hq => ?_)
    · refine l_ret (pI_lI rfl) (Or.inl ⟨rfl, rfl, ?_, rfl⟩)
      rw [show nxF a g = some j from nxP_at hj hq j2]
      rfl
    · refine wS_nop (Or.inr ⟨by decide, by decide, rfl, rfl, rfl, rfl, fun i hi => ?_⟩)
      by_cases e : i = j
      · rw [e]; exact hq
      · exact j2 i (by omega)
  · rintro L' M2 ⟨rfl, rfl, j2⟩
    refine l_ret pI_cI ⟨rfl, ?_, rfl⟩
    rw [show nxF a g = none from nxP_none j2]
    rfl
theorem sp_firstC (hL : LB g 1000 lb) (hP : PSC g lb mem st M) {k : Nat} (hk : k < cn 1000 (ldB g)) : F_X6_firstOf [.ref 57, .int (nI k)] M = some (some (.int (nI (fsO g k))), M) := by
  obtain ⟨l1, ⟨fl, fm, l2, l3, l4, l5⟩, hS, hml, fs, l6, l7⟩ := hP
  obtain ⟨f, hf, hld, rfl⟩ := ld_of 1000 hk
  obtain ⟨s1, s2, s3, -⟩ := hS.2 f hld hf
  have hcn := cn_le 1000 (ldB g)
  have efs := fsO_eq hL hf hld
  obtain ⟨k, ek⟩ : ∃ k, k = cn f (ldB g) := ⟨_, rfl⟩
  rw [← ek] at hk s1 s2 s3 efs ⊢
  have h9 := pI_gI (t := 0) (L := mkL 2 [.ref 57, .int (nI k)]) (pA_fA (k := 2) (pA_lA (i := 0) rfl) l1 rfl) (pI_lI (i := 1) rfl) l6 (inb_nI (show k < 1001 by omega) (by decide))
  rw [nI_clamp (by omega), l7 k (by omega)] at h9
  have h8 := pI_gI (t := 0) (L := mkL 2 [.ref 57, .int (nI k)]) (pA_fA (k := 1) (pA_lA (i := 0) rfl) l1 rfl) h9 l3 (inb_nI (show st k < 1000 by omega) (by decide))
  rw [nI_clamp (by omega), l5 _ (by omega), s1] at h8
  refine wF_eq (wF_b rfl (Nat.le_of_ble_eq_true rfl) (l_ret h8 ⟨rfl, ?_, rfl⟩))
  rw [efs]
theorem CSt.fe {M' : Mm} {n : Nat} {f : Nat → Nat → Int32} (h : CSt L xs a M) (hb : But [5, 67, 68] M M') (h5 : M'.2.2 5 = .inr (10, fsCv n)) (h67 : M'.2.2 67 = aI 0 60 (f 0)) (h68 : M'.2.2 68 = aI 0 60 (f 1)) : CSt L xs (zFe a n f) M' := by
  obtain ⟨⟨a1, ⟨k0, k1, k2, k3, k4, k5⟩, ⟨b0, b1⟩, c, -, ⟨sc, e1, e2⟩, g1, g2⟩, ⟨v1, q1⟩, ⟨v2, q2⟩, ⟨v3, q3⟩, ⟨v4, q4⟩, q5, ⟨f6, q6⟩⟩ := h
  have s := hb.2.2
  refine ⟨⟨a1.fr (sm_but hb (by decide)), ⟨(s _ (by decide)).trans k0, (s _ (by decide)).trans k1, (s _ (by decide)).trans k2, (s _ (by decide)).trans k3, (s _ (by decide)).trans k4, (s _ (by decide)).trans k5⟩, ⟨(s _ (by decide)).trans b0, (s _ (by decide)).trans b1⟩, (s _ (by decide)).trans c, ⟨h5, h67, h68⟩, ⟨sc, e1.fr (Nat.le_of_eq hb.1.symm) (sm_but hb (by decide)), e2⟩, hb.1.trans g1, by rw [hb.2.1]; exact g2⟩,
    ⟨v1, (s _ (by decide)).trans q1⟩, ⟨v2, (s _ (by decide)).trans q2⟩, ⟨v3, (s _ (by decide)).trans q3⟩, ⟨v4, (s _ (by decide)).trans q4⟩, fun b hb2 => ?_, ⟨f6, (s _ (by decide)).trans q6⟩⟩
  obtain ⟨k, hk⟩ := q5 b hb2
  have all : ∀ b ∈ [52, 53, 55, 56, 58, 59, 61, 63, 65, 66], b ∉ [5, 67, 68] := by decide
  exact ⟨k, (s b (all b hb2)).trans hk⟩
theorem CSt.wr6 {M' : Mm} (h : CSt L xs a M) (hb : But [61] M M') (h61 : ∃ f, M'.2.2 61 = aI 0 1000 f) : CSt L xs a M' := by
  refine ⟨h.1.scr hb (by decide), ?_⟩
  obtain ⟨⟨v1, q1⟩, ⟨v2, q2⟩, ⟨v3, q3⟩, ⟨v4, q4⟩, q5, ⟨f6, q6⟩⟩ := h.2
  have s : ∀ b, b ∉ [61] → M'.2.2 b = M.2.2 b := hb.2.2
  refine ⟨⟨v1, (s _ (by decide)).trans q1⟩, ⟨v2, (s _ (by decide)).trans q2⟩, ⟨v3, (s _ (by decide)).trans q3⟩, ⟨v4, (s _ (by decide)).trans q4⟩, fun b hb2 => ?_, ⟨f6, (s _ (by decide)).trans q6⟩⟩
  by_cases e : b = 61
  · rw [e]; exact h61
  · obtain ⟨k, hk⟩ := q5 b hb2
    exact ⟨k, (s b (by simpa using e)).trans hk⟩
theorem sp_noteC (h : CSt L xs a M) (hf : zfe a ≤ 10000) (c s : Nat) : wF F_X11_noteFall [.ref 5, .int (nI c), .int (nI s)] M fun v M' => v = none ∧ CSt L xs (ntF c s a) M' ∧ But [5, 67, 68] M M' := by
  obtain ⟨h5, h67, h68⟩ := h.1.2.2.2.2.1
  have e13 : (fsCv (zfe a))[13]? = some (.int (nI (zfe a))) := rfl
  refine wF_b rfl (Nat.le_of_ble_eq_true rfl) (q_if (v := decide (zfe a < 60)) (pC_eq (pC_kI (pI_fI (pA_lA rfl) h5 e13) pI_cI) (oLt_nI (b := 60) (by omega) (by decide))) (fun hb => ?_) (fun hb => ?_))
  · have hlt := of_decide_eq_true hb
    refine q_assoc (q_pa (j := zfe a) (pA_fA (k := 11) (pA_lA rfl) h5 rfl) (pI_fI (pA_lA rfl) h5 e13) (pI_lI rfl) h67 (by decide) hlt (by decide) (Or.inl rfl) ?_)
    have h5' : (setC M 67 (aI 0 60 (upd (zfl a 0) (zfe a) (nI c)))).2.2 5 = .inr (10, fsCv (zfe a)) := (get_ne (by decide)).trans h5
    refine q_pa (j := zfe a) (pA_fA (k := 12) (pA_lA rfl) h5' rfl) (pI_fI (pA_lA rfl) h5' e13) (pI_lI rfl) ((get_ne (by decide)).trans h68) (by decide) hlt (by decide) (Or.inl rfl) ?_
    refine q_up (pA_lA rfl) pI_cI ((get_ne (by decide)).trans h5') e13 (Nat.le_of_ble_eq_true rfl) (wS_retV ⟨rfl, rfl, ?_, ((But.rf.set (by decide)).set (by decide)).set (by decide)⟩)
    unfold ntF
    rw [if_pos hlt]
    refine h.fe (((But.rf.set (by decide)).set (by decide)).set (by decide)) (get_at.trans ?_) ((get_ne (by decide)).trans ((get_ne (by decide)).trans get_at)) ((get_ne (by decide)).trans get_at)
    rw [nI_1]
    rfl
  · have hge := of_decide_eq_false hb
    refine q_up (pA_lA rfl) pI_cI h5 e13 (Nat.le_of_ble_eq_true rfl) (wS_retV ⟨rfl, rfl, ?_, But.rf.set (by decide)⟩)
    unfold ntF
    rw [if_neg hge]
    refine h.fe (But.rf.set (by decide)) (get_at.trans ?_) ((get_ne (by decide)).trans h67) ((get_ne (by decide)).trans h68)
    rw [nI_1]
    rfl
end LW
def qL (mem : List Nat) (b n : Nat) : List Nat := (List.range n).map fun i => mem.getD (b + i) 0
theorem qL_succ (mem : List Nat) (b n : Nat) : qL mem b (n + 1) = qL mem b n ++ [mem.getD (b + n) 0] := by
  unfold qL
  rw [List.range_succ, List.map_append]
  rfl
theorem qL_mem {mem : List Nat} {b n c : Nat} (h : c ∈ qL mem b n) : ∃ i, i < n ∧ mem.getD (b + i) 0 = c := by
  obtain ⟨i, h1, h2⟩ := List.mem_map.mp h
  exact ⟨i, List.mem_range.mp h1, h2⟩
theorem qL_nd {mem : List Nat} {b n i : Nat} (h : (qL mem b n).Nodup) (hi : i < n) : mem.getD (b + i) 0 ∉ qL mem b i := fun q => by
  have h1 : (qL mem b (i + 1)).Nodup := List.Nodup.sublist ((List.range_sublist.mpr (show i + 1 ≤ n by omega)).map _) h
  rw [qL_succ] at h1
  exact (List.nodup_append.mp h1).2.2 _ q _ (List.mem_singleton.mpr rfl) rfl
theorem psL_perm {g : Nat → Int32} {lb : Nat → Option Nat} {mem : List Nat} {st : Nat → Nat} (hL : LB g 1000 lb) (hS : STm g 1000 lb mem st) {k : Nat} (hk : k < cn 1000 (ldB g)) : (psL g k).Perm (qL mem (st k) (st (k + 1) - st k)) := by
  obtain ⟨f, hf, hld, rfl⟩ := ld_of 1000 hk
  obtain ⟨s1, s2, s3, s4, s5, s6⟩ := hS.2 f hld hf
  refine perm_of (psL_nd g _) (fun c hc => ?_) ?_
  · obtain ⟨c1, c2⟩ := psL_mem.mp hc
    rw [← lbS_eq hL c1] at c2
    obtain ⟨j, j1, j2, j3⟩ := (s5 c c1).mp c2
    refine List.mem_map.mpr ⟨j - st (cn f (ldB g)), List.mem_range.mpr (by omega), ?_⟩
    rw [show st (cn f (ldB g)) + (j - st (cn f (ldB g))) = j by omega]
    exact j3
  · have e : cn 1000 (fun c => decide (lb c = some (cn f (ldB g)))) = cn 1000 fun c => decide (lbS g c = some (cn f (ldB g))) := cn_congr fun c hc => by rw [lbS_eq hL hc]
    unfold qL
    rw [List.length_map, List.length_range, psL_len, ← e]
    omega
