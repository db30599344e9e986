/-! path: the reference's side -/
def candT (t : Nat) (g : Nat → Int32) (c s e : Nat) : Prop := (t = 0 ∧ e + 100 = s ∧ blk g s = false) ∨ (t = 1 ∧ e = s) ∨ (t = 2 ∧ e = s + 100 ∧ blkX g (c + 100) = false)
def TD (g : Nat → Int32) (c : Nat) (D : Nat → Nat → Prop) (e : Nat) : Prop := ∃ d t s, nbO c d = some s ∧ candT t g c s e ∧ D d t
theorem cand_T {g : Nat → Int32} {c s e : Nat} (h : cand g c s e) : ∃ t, t < 3 ∧ candT t g c s e := by
  rcases h with h | h | h
  · exact ⟨1, by decide, Or.inr (Or.inl ⟨rfl, h⟩)⟩
  · exact ⟨2, by decide, Or.inr (Or.inr ⟨rfl, h⟩)⟩
  · exact ⟨0, by decide, Or.inl ⟨rfl, h⟩⟩
theorem cand_of {t : Nat} {g : Nat → Int32} {c s e : Nat} (h : candT t g c s e) : cand g c s e := by
  rcases h with ⟨-, h⟩ | ⟨-, h⟩ | ⟨-, h⟩
  · exact Or.inr (Or.inr h)
  · exact Or.inl h
  · exact Or.inr (Or.inl h)
section BS
variable {g : Nat → Int32} {f i : Nat} {ds : Nat → Option Nat} {qs : List Nat} {D : Nat → Nat → Prop}
theorem BI.step2 {c d t s : Nat} (h : BI g f i ds qs (TD g c D)) (hs : nbO c d = some s) {D' : Nat → Nat → Prop} (hD : ∀ d' t', D' d' t' → D d' t' ∨ (d' = d ∧ t' = t)) (hno : ∀ e, candT t g c s e → e < 1000 → stand g e = true → ∃ k, ds e = some k) : BI g f i ds qs (TD g c D') := h.mono fun e ⟨d', t', s', h1, h2, h3⟩ => by
  rcases hD d' t' h3 with q | ⟨rfl, rfl⟩
  · exact Or.inl ⟨d', t', s', h1, h2, q⟩
  · rw [hs] at h1
    cases h1
    right
    by_cases q : wlk g (qs.getD i 0) e
    · exact Or.inr (hno e h2 q.1 q.2.1)
    · exact Or.inl q
theorem BI.step1 {c d t s e k : Nat} (h : BI g f i ds qs (TD g c D)) (hi : i < qs.length) (hc : qs.getD i 0 = c) (hk : ds c = some k) (hd : 2 ≤ d ∧ d < 6) (hs : nbO c d = some s) {D' : Nat → Nat → Prop} (hD : ∀ d' t', D' d' t' → D d' t' ∨ (d' = d ∧ t' = t)) (he : e < 1000) (hst : stand g e = true) (hn : ds e = none) (hce : candT t g c s e) (hu : ∀ e', candT t g c s e' → e' = e) : BI g f i (dsU ds e (k + 1)) (qs ++ [e]) (TD g c D') := by
  subst hc
  refine (h.reach hi hk ⟨he, hst, d, s, hd.1, hd.2, hs, cand_of hce⟩ hn).mono fun e' ⟨d', t', s', h1, h2, h3⟩ => ?_
  rcases hD d' t' h3 with q | ⟨rfl, rfl⟩
  · exact Or.inl (Or.inl ⟨d', t', s', h1, h2, q⟩)
  · rw [hs] at h1
    cases h1
    exact Or.inl (Or.inr (hu e' h2))
end BS
theorem sw_sw {d : Nat} : sw (sw d) = d := by
  unfold sw
  by_cases h : d % 2 = 0
  · rw [if_pos h, if_neg (by omega)]; omega
  · rw [if_neg h, if_pos (by omega)]; omega
theorem sw_in {d : Nat} (h : 2 ≤ d ∧ d < 6) : 2 ≤ sw d ∧ sw d < 6 := by
  unfold sw
  split <;> omega
def dzF (t : Nat) : Int32 := nI (100 * t) - 100
theorem dzF_succ (t : Nat) : dzF t + 100 = dzF (t + 1) := by
  unfold dzF
  rw [Int32.sub_add_cancel, Nat.mul_add, ← nI_add, show nI (100 * 1) = 100 from rfl, Int32.add_sub_cancel]
theorem cand_val {t s c : Nat} {g : Nat → Int32} (ht : t < 3) (hs : s < 1000) : (isIn (nI s + dzF t) 0 999 = false ∧ ∀ e, candT t g c s e → ¬ e < 1000) ∨ (isIn (nI s + dzF t) 0 999 = true ∧ ∃ e, e < 1000 ∧ nI s + dzF t = nI e ∧ (∀ e', candT t g c s e' → e' = e) ∧ e + 100 = s + 100 * t) := by
  have e0 : (dzF t).toInt = 100 * (t : Int) - 100 := by
    have h100 : (100 : Int32).toInt = 100 := rfl
    unfold dzF
    rw [Int32.toInt_sub, nI_toInt (by omega), h100, Int.bmod_eq_of_le (by omega) (by omega)]
    omega
  have e1 : (nI s + dzF t).toInt = (s : Int) + 100 * t - 100 := by
    rw [Int32.toInt_add, nI_toInt (by omega), e0, Int.bmod_eq_of_le (by omega) (by omega)]
    omega
  have z0 : (0 : Int32).toInt = 0 := rfl
  have z9 : (999 : Int32).toInt = 999 := rfl
  have ce : ∀ e, candT t g c s e → e + 100 = s + 100 * t := fun e h => by
    rcases h with ⟨h1, h2, -⟩ | ⟨h1, h2⟩ | ⟨h1, h2, -⟩ <;> omega
  unfold isIn
  rw [← Bool.decide_and]
  by_cases q : (0 : Int32) ≤ nI s + dzF t ∧ nI s + dzF t ≤ 999
  · right
    have q' := q
    rw [Int32.le_iff_toInt_le, Int32.le_iff_toInt_le, e1, z0, z9] at q'
    refine ⟨decide_eq_true q, s + 100 * t - 100, by omega, ?_, fun e' h => by have := ce e' h; omega, by omega⟩
    apply Int32.toInt_inj.mp
    rw [e1, nI_toInt (by omega)]
    omega
  · left
    refine ⟨decide_eq_false q, fun e h he => q ?_⟩
    have := ce e h
    rw [Int32.le_iff_toInt_le, Int32.le_iff_toInt_le, e1, z0, z9]
    omega
def PB (A B : Nat) (M : Mm) (ds : Nat → Option Nat) (qs : List Nat) : Prop := ∃ fs fq, M.2.2 A = aI 0 1000 fs ∧ M.2.2 B = aI 0 1000 fq ∧ (∀ c, c < 1000 → fs c = oI (ds c)) ∧ ∀ j, j < qs.length → fq j = nI (qs.getD j 0)
theorem pb_push {A B c k : Nat} {M : Mm} {ds : Nat → Option Nat} {qs : List Nat} {fs fq : Nat → Int32} (hAB : A ≠ B) (h3 : ∀ c, c < 1000 → fs c = oI (ds c)) (h4 : ∀ j, j < qs.length → fq j = nI (qs.getD j 0)) : PB A B (setC (setC M A (aI 0 1000 (upd fs c (nI k)))) B (aI 0 1000 (upd fq qs.length (nI c)))) (dsU ds c k) (qs ++ [c]) := by
  refine ⟨_, _, (get_ne hAB).trans get_at, get_at, fun x hx => ?_, fun j hj => ?_⟩
  · unfold upd dsU
    by_cases e : x = c
    · rw [if_pos e, if_pos e]; rfl
    · rw [if_neg e, if_neg e]; exact h3 x hx
  · rw [List.length_append] at hj
    have hj : j < qs.length + 1 := hj
    unfold upd
    by_cases e : j = qs.length
    · rw [if_pos e, e, getD_app2]
    · rw [if_neg e, getD_app1 (by omega)]
      exact h4 j (by omega)
/-- a loop whose variable goes by st -/
theorem l_forS {Lc : Lv} {M : Mm} {Q : Lv → Mm → Nat → Option Value → Prop} {i s a : Nat} {e0 : DI} {c : DC} {body : DS} (st : Int32) (f : Nat → Int32) (hf : ∀ j, f j + st = f (j + 1)) (N : Nat) (J : Nat → Lv → Mm → Prop) (hk : kil i Lc = Lc) (ha : pI e0 Lc M (f a)) (hN : N < big) (haN : a ≤ N) (h0 : J a (Lc.set i (some (.int (f a)))) M) (hc : ∀ j L M, j ≤ N → J j L M → pC c L M (decide (j < N)))
    (hb : ∀ j L M, j < N → J j L M → wS body L M (bdV i s j f J Q)) (he : ∀ L M, J N L M → Q (clr s L) M 0 none) : wS (scp s (seqS (setI i e0) (whS c body (incI i st)))) Lc M Q := by
  refine l_scp (q_I hk ha ?_)
  refine wS_wh (I := fun m L M => ∃ j, m + j = N ∧ J j L M) ?_ (N - a) _ M ⟨a, by omega, h0⟩ (by omega)
  rintro m L M ⟨j, hm, hJ⟩
  refine wC_p (hc j L M (by omega) hJ) ⟨fun hr => ?_, fun hr => ?_⟩
  · have e : j = N := by have := of_decide_eq_false hr; omega
    subst e
    exact he _ _ hJ
  · have hl : j < N := of_decide_eq_true hr
    refine (hb j L M hl hJ).mono fun L2 M2 c v h => ?_
    rcases h with ⟨rfl, h⟩ | ⟨h3, h1, h4, h5, h6⟩
    · exact ⟨fun q => absurd q (by decide), fun _ => h, fun _ q => absurd rfl q⟩
    · refine ⟨fun q => absurd q h1, fun q => absurd q h3, fun _ _ => wS_inc h4 rfl ⟨rfl, m - 1, by omega, j + 1, by omega, ?_⟩⟩
      unfold stL
      rw [h5, hf]
      exact h6
section PR
variable {L : Nat} {xs : Nat → Int32} {M : Mm} {a : AS}
theorem sp_isStandR (ho : RO a M) {g : Nat → Int32} {kn : Nat} (hg : ∀ c, c < 1000 → cOK kn (g c)) {fk : Nat → Int32} (h85 : M.2.2 85 = aI 0 1000 fk) (hfk : ∀ c, c < 1000 → fk c = kR (g c)) {c : Nat} (hc : c < 1000) : F_X12_isStand [.ref 69, .int (nI c)] M = some (some (.int (bz (stand g c))), M) := by
  obtain ⟨th, pm, bm, h69⟩ := ho
  have p1 := pI_gI (t := 0) (L := [some (.ref 69), some (.int (nI c))]) (pA_fA (k := 19) (pA_lA (i := 0) rfl) h69 rfl) (pI_lI (i := 1) rfl) h85 (inb_nI hc (by decide))
  rw [nI_clamp (by omega), hfk c hc] at p1
  refine wF_eq (wF_b rfl (Nat.le_of_ble_eq_true rfl) (l_retZ (pI_zI (pC_and (pC_eq (pC_kI p1 pI_cI) (kR_0 (hg c hc))) (pC_orD (pC_eq (pC_kI (pI_lI rfl) pI_cI) (oLt_nI (b := 100) (by omega) (by decide))) (y := blk g (c - 100)) fun hb => ?_))) ⟨rfl, rfl, rfl⟩))
  have h100 : 100 ≤ c := by have := of_decide_eq_false hb; omega
  have p2 := pI_gI (t := 0) (L := [some (.ref 69), some (.int (nI c))]) (pA_fA (k := 19) (pA_lA (i := 0) rfl) h69 rfl) (pI_eq (pI_sub (pI_lI (i := 1) rfl) (pI_cI (v := 100))) (nI_sub (b := 100) h100 (by omega))) h85 (inb_nI (show c - 100 < 1000 by omega) (by decide))
  rw [nI_clamp (by omega), hfk _ (by omega)] at p2
  exact pC_eq (pC_kI p2 pI_cI) (kR_gt (hg _ (by omega)))
theorem sp_isFreeR (ho : RO a M) {g : Nat → Int32} {kn : Nat} (hg : ∀ c, c < 1000 → cOK kn (g c)) {fk : Nat → Int32} (h85 : M.2.2 85 = aI 0 1000 fk) (hfk : ∀ c, c < 1000 → fk c = kR (g c)) {c : Nat} (hc : c < 10000) : F_X12_isFree [.ref 69, .int (nI c)] M = some (some (.int (bz (!(blkX g c)))), M) := by
  obtain ⟨th, pm, bm, h69⟩ := ho
  refine wF_eq (wF_b rfl (Nat.le_of_ble_eq_true rfl) (l_retZ (pI_zI (pC_eq (pC_orD (pC_eq (pC_kI (pI_lI rfl) pI_cI) (oGe_nI (b := 1000) (by omega) (by decide))) (y := !(blk g c)) fun hb => ?_) ?_)) ⟨rfl, rfl, rfl⟩))
  · have h1 : c < 1000 := by have := of_decide_eq_false hb; omega
    have p1 := pI_gI (t := 0) (L := [some (.ref 69), some (.int (nI c))]) (pA_fA (k := 19) (pA_lA (i := 0) rfl) h69 rfl) (pI_lI (i := 1) rfl) h85 (inb_nI h1 (by decide))
    rw [nI_clamp (by omega), hfk c h1] at p1
    exact pC_eq (pC_kI p1 pI_cI) (blk_kR (hg c h1))
  · unfold blkX
    by_cases h1 : c < 1000
    · rw [decide_eq_true h1, decide_eq_false (by omega), Bool.false_or, Bool.true_and]
    · rw [decide_eq_false h1, decide_eq_true (by omega)]; rfl
noncomputable def ptW (a : AS) (y f t : Nat) : Int32 := if (stand (cdA (zab a) y) f && stand (cdA (zab a) y) t) = true then sdV (cdA (zab a) y) f t else -1
noncomputable def ptV (y f t : Int32) (a : AS) : Int32 := if ((isY y && isIn f 0 999) && isIn t 0 999) = true then ptW a y.toNatClampNeg f.toNatClampNeg t.toNatClampNeg else -1
theorem isIn_nat {v : Int32} (h : isIn v 0 999 = true) : ∃ n, n < 1000 ∧ v = nI n := by
  obtain ⟨h1, h2⟩ := Bool.and_eq_true_iff.mp h
  have h1 : (0 : Int32).toInt ≤ v.toInt := Int32.le_iff_toInt_le.mp (of_decide_eq_true h1)
  have h2 : v.toInt ≤ (999 : Int32).toInt := Int32.le_iff_toInt_le.mp (of_decide_eq_true h2)
  have z0 : (0 : Int32).toInt = 0 := rfl
  have z9 : (999 : Int32).toInt = 999 := rfl
  exact ⟨_, by omega, nI_tn (by omega)⟩
def Dd (d t d' t' : Nat) : Prop := 2 ≤ sw d' ∧ (sw d' < d ∨ (sw d' = d ∧ t' < t)) ∧ t' < 3
theorem bad_iff {t s c e : Nat} {g : Nat → Int32} (ht : t < 3) (hs : s < 1000) (he : e + 100 = s + 100 * t) : ((oGt (dzF t) 0 && blkX g (c + 100)) || (oLt (dzF t) 0 && blkX g (e + 100))) = false ↔ candT t g c s e := by
  rcases (show t = 0 ∨ t = 1 ∨ t = 2 by omega) with rfl | rfl | rfl
  · have e1 : e + 100 = s := by omega
    rw [show oGt (dzF 0) 0 = false by decide, show oLt (dzF 0) 0 = true by decide, Bool.false_and, Bool.false_or, Bool.true_and, e1]
    unfold blkX
    rw [decide_eq_true hs, Bool.true_and]
    exact ⟨fun h => Or.inl ⟨rfl, e1, h⟩, fun h => by
      rcases h with ⟨-, -, h⟩ | ⟨h, -⟩ | ⟨h, -⟩
      · exact h
      · cases h
      · cases h⟩
  · rw [show oGt (dzF 1) 0 = false by decide, show oLt (dzF 1) 0 = false by decide]
    exact ⟨fun _ => Or.inr (Or.inl ⟨rfl, by omega⟩), fun _ => rfl⟩
  · rw [show oGt (dzF 2) 0 = true by decide, show oLt (dzF 2) 0 = false by decide, Bool.true_and, Bool.false_and, Bool.or_false]
    exact ⟨fun h => Or.inr (Or.inr ⟨rfl, by omega, h⟩), fun h => by
      rcases h with ⟨h, -⟩ | ⟨h, -⟩ | ⟨-, -, h⟩
      · cases h
      · cases h
      · exact h⟩
theorem oI_isS (o : Option Nat) (h : ∀ k, o = some k → k ≤ 1000) : oNe (oI o) (-1) = o.isSome := by
  cases o with
  | none => rfl
  | some k =>
    have := h k rfl
    refine decide_eq_true fun q => ?_
    have q2 : nI k = -1 := q
    have := congrArg Int32.toInt q2
    rw [nI_toInt (by omega), show (-1 : Int32).toInt = -1 from rfl] at this
    omega
theorem BI.k_le {g : Nat → Int32} {f i : Nat} {ds : Nat → Option Nat} {qs : List Nat} {T : Nat → Prop} (h : BI g f i ds qs T) {c k : Nat} (hc : ds c = some k) : k ≤ 999 := by
  obtain ⟨j, j1, j2⟩ := h.d c k hc
  obtain ⟨k', q1, q2⟩ := h.c2 j j1
  have := h.len
  rw [j2, hc] at q1
  cases q1
  omega
theorem pt_R {L : Nat} {xs : Nat → Int32} {a : AS} {M : Mm} {y f t : Int32} (hO : OkA a) (h : RSt L xs a M) : wF F_X12_path [.ref 69, .int y, .int f, .int t] M fun v M' => v = some (.int (ptV y f t a)) ∧ RSt L xs a M' ∧ ROn M M' := by
  refine wF_b rfl (Nat.le_of_ble_eq_true rfl) (r_st h rfl fun M0 h0 s0 => ?_)
  have hbig : big = 1000000 := rfl
  obtain ⟨th, pm, bm, h69⟩ := id h0.2.2
  unfold ptV
  refine q_if (v := !((isY y && isIn f 0 999) && isIn t 0 999)) (pC_eq (pC_or (pC_or (pC_not (pC_nz (pI_vS (pR_I (pI_lI rfl) pR_0) (sp_isYardR _ _)))) (pC_not (pC_nz (pI_vS (pR_I (pI_lI rfl) (pR_I pI_cI (pR_I pI_cI pR_0))) (sp_in _ _ _ _))))) (pC_not (pC_nz (pI_vS (pR_I (pI_lI rfl) (pR_I pI_cI (pR_I pI_cI pR_0))) (sp_in _ _ _ _))))) (not3 _ _ _)) (fun hb1 => ?_) (fun hb1 => ?_)
  · rw [Bool.not_eq_true'] at hb1
    rw [if_neg (by rw [hb1]; decide)]
    exact q_ret pI_cI ⟨rfl, rfl, h0, s0⟩
  rw [Bool.not_eq_false'] at hb1
  rw [if_pos hb1]
  obtain ⟨g0, g3⟩ := Bool.and_eq_true_iff.mp hb1
  obtain ⟨g1, g2⟩ := Bool.and_eq_true_iff.mp g0
  obtain ⟨yn, hy, rfl⟩ := isY_nat g1
  obtain ⟨fn, hf, rfl⟩ := isIn_nat g2
  obtain ⟨tn', ht, rfl⟩ := isIn_nat g3
  rw [nI_clamp (by omega), nI_clamp (by omega), nI_clamp (by omega)]
  refine q_ex (wV_Vw (pR_A (pA_lA rfl) (pR_I (pI_lI rfl) pR_0)) h69 ((sp_reads h0 hO.av hy).mono ?_))
  rintro v M2 ⟨rfl, k1, fk, ft, k2, k3, k4⟩
  have h2 := h0.ka k1 (by decide)
  have s2 := s0.tr (k1.ron (by decide))
  obtain ⟨th', pm', bm', h69'⟩ := id h2.2.2
  refine ⟨rfl, ?_⟩
  unfold ptW
  obtain ⟨g, hg⟩ : ∃ g, g = cdA (zab a) yn := ⟨_, rfl⟩
  rw [← hg] at k4 ⊢
  have hcd : ∀ c, c < 1000 → cOK (zkn a) (g c) := fun c hc => by rw [hg]; exact hO.av.cd (by omega) hc
  have hfk : ∀ c, c < 1000 → fk c = kR (g c) := fun c hc => (k4 c hc).1
  refine q_if (v := !(stand g fn && stand g tn')) (pC_eq (pC_or (pC_not (pC_nz (pI_vV (pR_A (pA_lA rfl) (pR_I (pI_lI rfl) pR_0)) h69' (sp_isStandR h2.2.2 hcd k2 hfk hf)))) (pC_not (pC_nz (pI_vV (pR_A (pA_lA rfl) (pR_I (pI_lI rfl) pR_0)) h69' (sp_isStandR h2.2.2 hcd k2 hfk ht))))) (not_or_n _ _)) (fun hb2 => ?_) (fun hb2 => ?_)
  · rw [Bool.not_eq_true'] at hb2
    rw [if_neg (by rw [hb2]; decide)]
    exact q_ret pI_cI ⟨rfl, rfl, h2, s2⟩
  rw [Bool.not_eq_false'] at hb2
  rw [if_pos hb2]
  obtain ⟨f0, h94⟩ := h2.2.1.1 94 (by decide)
  refine q_for 1000 (fun j L' M3 => L' = [some (.ref 69), some (.int (nI yn)), some (.int (nI fn)), some (.int (nI tn')), some (.int (nI j)), none, none, none, none, none, none] ∧ KA [94] M2 M3 ∧ ∃ fs, M3.2.2 94 = aI 0 1000 fs ∧ ∀ c, c < j → fs c = -1) rfl (a := 0) rfl rfl (by decide) (by decide) ⟨rfl, KA.rf, f0, h94, fun c hc => absurd hc (Nat.not_lt_zero c)⟩ ?_ ?_ ?_
  · rintro j L' M3 ⟨rfl, -⟩
    rfl
  · rintro j L' M3 hj ⟨rfl, b1, fs, b2, b3⟩
    have h3 := h2.ka b1 (by decide)
    obtain ⟨th3, pm3, bm3, h693⟩ := id h3.2.2
    refine l_pa (j := j) (pA_fA (k := 30) (pA_lA rfl) h693 rfl) (pI_lI rfl) pI_cI b2 (by decide) hj (by decide) (Or.inl rfl) (Or.inr ⟨by decide, by decide, rfl, rfl, rfl, b1.set (by decide) b2, _, get_at, fun c hc => ?_⟩)
    unfold upd
    by_cases e : c = j
    · rw [if_pos e]
    · rw [if_neg e]; exact b3 c (by omega)
  rintro L' M3 ⟨rfl, b1, fs, b2, b3⟩
  have h3 := h2.ka b1 (by decide)
  obtain ⟨th3, pm3, bm3, h693⟩ := id h3.2.2
  refine q_pa (j := fn) (pA_fA (k := 30) (pA_lA rfl) h693 rfl) (pI_lI rfl) pI_cI b2 (by decide) hf (by decide) (Or.inl rfl) ?_
  have b4 : KA [94, 90] M2 (setC M3 94 (aI 0 1000 (upd fs fn 0))) := (b1.set (by decide) b2).mono (by decide)
  have h4 := h2.ka b4 (by decide)
  obtain ⟨th4, pm4, bm4, h694⟩ := id h4.2.2
  obtain ⟨q0, h90⟩ := h4.2.1.1 90 (by decide)
  refine q_pa (j := 0) (pA_fA (k := 25) (pA_lA rfl) h694 rfl) (pI_cI (v := 0)) (pI_lI rfl) h90 (by decide) (by decide) (by decide) (Or.inl rfl) ?_
  have b5 : KA [94, 90] M2 (setC (setC M3 94 (aI 0 1000 (upd fs fn 0))) 90 (aI 0 1000 (upd q0 0 (nI fn)))) := b4.set (by decide) h90
  have PB0 : PB 94 90 (setC (setC M3 94 (aI 0 1000 (upd fs fn 0))) 90 (aI 0 1000 (upd q0 0 (nI fn)))) (dsU (fun _ => none) fn 0) [fn] := pb_push (k := 0) (qs := []) (ds := fun _ => none) (by decide) b3 (fun j hj => absurd hj (Nat.not_lt_zero j))
  refine q_I rfl pI_cI ?_
  refine q_scp (q_I rfl pI_cI (wS_wh (I := fun m L' M => ∃ i ds qs, m + i = 1000 ∧ L' = [some (.ref 69), some (.int (nI yn)), some (.int (nI fn)), some (.int (nI tn')), some (.int (nI qs.length)), some (.int (nI i)), none, none, none, none, none] ∧ KA [94, 90] M2 M ∧ PB 94 90 M ds qs ∧ BI g fn i ds qs fun _ => False) ?_ 1000 _ _ ⟨0, _, _, rfl, rfl, b5, PB0, BI.start hf⟩ (by omega)))
  rintro m L' M5 ⟨i, ds, qs, hmi, rfl, c1, ⟨gs, gq, p1, p2, p3, p4⟩, c3⟩
  have hql := c3.len
  have h5 := h2.ka c1 (by decide)
  obtain ⟨th5, pm5, bm5, h695⟩ := id h5.2.2
  refine wC_p (pC_eq (pC_kI (pI_lI rfl) (pI_lI rfl)) (oLt_nI (by omega) (by omega))) ⟨fun hr => ⟨fun _ => ?_, fun q => absurd rfl q⟩, fun hr => ?_⟩
  · -- the end
    have hi := of_decide_eq_false hr
    have h9 := pI_gI (t := 0) (L := [some (.ref 69), some (.int (nI yn)), some (.int (nI fn)), some (.int (nI tn')), some (.int (nI qs.length)), none, none, none, none, none, none]) (pA_fA (k := 30) (pA_lA (i := 0) rfl) h695 rfl) (pI_lI (i := 3) rfl) p1 (inb_nI ht (by decide))
    rw [nI_clamp (by omega), p3 _ ht] at h9
    refine l_ret h9 ⟨rfl, ?_, h5, s2.tr (c1.ron (by decide))⟩
    cases q : ds tn' with
    | none => rw [c3.lost (by omega) q]; rfl
    | some k => rw [c3.found q]; rfl
  have hi := of_decide_eq_true hr
  obtain ⟨c, hc⟩ : ∃ c, c = qs.getD i 0 := ⟨_, rfl⟩
  obtain ⟨k, hk, hki⟩ := c3.c2 i hi
  rw [← hc] at hk
  have hc1 := (c3.a c k hk).1
  have h9 := pI_gI (t := 0) (L := [some (.ref 69), some (.int (nI yn)), some (.int (nI fn)), some (.int (nI tn')), some (.int (nI qs.length)), some (.int (nI i)), none, none, none, none, none]) (pA_fA (k := 25) (pA_lA (i := 0) rfl) h695 rfl) (pI_lI (i := 5) rfl) p2 (inb_nI (show i < 1000 by omega) (by decide))
  rw [nI_clamp (by omega), p4 i hi, ← hc] at h9
  refine l_scp (q_I rfl h9 ?_)
  refine l_for 6 (fun d L' M6 => ∃ ds qs, L' = [some (.ref 69), some (.int (nI yn)), some (.int (nI fn)), some (.int (nI tn')), some (.int (nI qs.length)), some (.int (nI i)), some (.int (nI c)), some (.int (nI d)), none, none, none] ∧ KA [94, 90] M2 M6 ∧ PB 94 90 M6 ds qs ∧ BI g fn i ds qs (TD g c (Dd d 0)) ∧ i < qs.length ∧ qs.getD i 0 = c ∧ ds c = some k ∧ 2 ≤ d) rfl (a := 2) rfl rfl (by decide) (by decide) ⟨ds, qs, rfl, c1, ⟨gs, gq, p1, p2, p3, p4⟩, c3.mono fun e ⟨d', t', s', e1, e2, e3⟩ => by have := e3.1; have := e3.2.1; omega, hi, hc.symm, hk, by decide⟩ ?_ ?_ ?_
  · rintro d L' M6 ⟨ds, qs, rfl, -⟩
    rfl
  · rintro d L' M6 hd ⟨ds, qs, rfl, c1, c2, c3, hi, hc, hk, hd2⟩
    have hsw := sw_in ⟨hd2, hd⟩
    refine l_scp (q_I rfl (pI_vS (pR_I (pI_lI rfl) (pR_I (pI_lI rfl) pR_0)) (sp_next hc1 hd M6)) ?_)
    cases hs : nbO c (sw d) with
    | none =>
      refine l_forS 100 dzF dzF_succ 0 (fun _ L' M7 => L' = [some (.ref 69), some (.int (nI yn)), some (.int (nI fn)), some (.int (nI tn')), some (.int (nI qs.length)), some (.int (nI i)), some (.int (nI c)), some (.int (nI d)), some (.int (-1)), some (.int (-100)), none] ∧ M7 = M6) rfl (a := 0) (pI_cI (v := -100)) (by decide) (Nat.le_refl _) ⟨rfl, rfl⟩ ?_ ?_ ?_
      · rintro j L' M7 hj ⟨rfl, rfl⟩
        exact pC_eq (pC_and (pC_kI (pI_lI rfl) pI_cI) (pC_kI (pI_lI rfl) pI_cI)) (by rw [decide_eq_false (Nat.not_lt_zero j)]; rfl)
      · intro j L' M7 hj
        exact absurd hj (Nat.not_lt_zero j)
      · rintro L' M7 ⟨rfl, rfl⟩
        refine Or.inr ⟨by decide, by decide, rfl, rfl, ds, qs, rfl, c1, c2, c3.mono fun e ⟨d', t', s', e1, e2, e3⟩ => ?_, hi, hc, hk, by omega⟩
        by_cases q : sw d' = d
        · rw [← sw_sw (d := d'), q, hs] at e1
          cases e1
        · exact Or.inl ⟨d', t', s', e1, e2, e3.1, by have := e3.2.1; omega, e3.2.2⟩
    | some s =>
      have hs1 := nbO_lt hc1 hs
      refine l_forS 100 dzF dzF_succ 3 (fun u L' M7 => ∃ ds qs, L' = [some (.ref 69), some (.int (nI yn)), some (.int (nI fn)), some (.int (nI tn')), some (.int (nI qs.length)), some (.int (nI i)), some (.int (nI c)), some (.int (nI d)), some (.int (nI s)), some (.int (dzF u)), none] ∧ KA [94, 90] M2 M7 ∧ PB 94 90 M7 ds qs ∧ BI g fn i ds qs (TD g c (Dd d u)) ∧ i < qs.length ∧ qs.getD i 0 = c ∧ ds c = some k) rfl (a := 0) (pI_cI (v := -100)) (by decide) (by decide) ⟨ds, qs, rfl, c1, c2, c3, hi, hc, hk⟩ ?_ ?_ ?_
      · rintro u L' M7 hu ⟨ds, qs, rfl, -⟩
        refine pC_eq (pC_and (pC_kI (pI_lI rfl) pI_cI) (pC_kI (pI_lI rfl) pI_cI)) ?_
        rw [show oNe (nI s) (-1) = true from (oI_isS (some s) fun k q => by cases q; omega), Bool.and_true]
        rcases (show u = 0 ∨ u = 1 ∨ u = 2 ∨ u = 3 by omega) with rfl | rfl | rfl | rfl <;> decide
      · rintro u L' M7 hu ⟨ds, qs, rfl, c1, ⟨gs, gq, p1, p2, p3, p4⟩, c3, hi, hc, hk⟩
        have hql := c3.len
        have h5 := h2.ka c1 (by decide)
        obtain ⟨th5, pm5, bm5, h695⟩ := id h5.2.2
        have h85 : M7.2.2 85 = aI 0 1000 fk := (c1.but.2.2 85 (by decide)).trans k2
        have hD : ∀ d' t', Dd d (u + 1) d' t' → Dd d u d' t' ∨ (d' = sw d ∧ t' = u) := fun d' t' q => by
          by_cases q2 : sw d' = d ∧ t' = u
          · exact Or.inr ⟨by rw [← q2.1, sw_sw], q2.2⟩
          · refine Or.inl ⟨q.1, ?_, q.2.2⟩
            have := q.2.1
            omega
        refine l_scp (q_I rfl (pI_add (pI_lI rfl) (pI_lI rfl)) ?_)
        rcases cand_val (g := g) (c := c) hu hs1 with ⟨v1, v2⟩ | ⟨v1, e, he, v2, v3, v4⟩
        · refine q_if (v := true) (pC_orT (pC_orT (pC_eq (pC_not (pC_nz (pI_vS (pR_I (pI_lI rfl) (pR_I pI_cI (pR_I pI_cI pR_0))) (sp_in _ _ _ _)))) (by rw [v1]; rfl)))) (fun _ => ?_) (fun q => absurd q (by decide))
          exact q_cnt (Or.inr ⟨by decide, by decide, rfl, rfl, ds, qs, rfl, c1, ⟨gs, gq, p1, p2, p3, p4⟩, c3.step2 hs hD fun e q1 q2 => absurd q2 (v2 e q1), hi, hc, hk⟩)
        · rw [v2]
          have hst : ∀ Lx : Lv, lkp Lx 0 = some (.ref 69) → lkp Lx 10 = some (.int (nI e)) → pI (gI 0 (fA 11 30 (lA 0)) (lI 10)) Lx M7 (oI (ds e)) := fun Lx q0 q1 => by
            have h9 := pI_gI (t := 0) (L := Lx) (pA_fA (k := 30) (pA_lA q0) h695 rfl) (pI_lI q1) p1 (inb_nI he (by decide))
            rw [nI_clamp (by omega), p3 _ he] at h9
            exact h9
          refine q_if (v := (!true || (ds e).isSome) || !(stand g e)) (pC_or (pC_or (pC_eq (pC_not (pC_nz (pI_vS (pR_I (pI_lI rfl) (pR_I pI_cI (pR_I pI_cI pR_0))) (sp_in _ _ _ _)))) (by rw [← v2, v1])) (pC_eq (pC_kI (hst _ rfl rfl) pI_cI) (oI_isS _ fun k q => by have := c3.k_le q; omega))) (pC_not (pC_nz (pI_vV (pR_A (pA_lA rfl) (pR_I (pI_lI rfl) pR_0)) h695 (sp_isStandR h5.2.2 hcd h85 hfk he))))) (fun hb => ?_) (fun hb => ?_)
          · refine q_cnt (Or.inr ⟨by decide, by decide, rfl, rfl, ds, qs, rfl, c1, ⟨gs, gq, p1, p2, p3, p4⟩, c3.step2 hs hD fun e' q1 q2 q3 => ?_, hi, hc, hk⟩)
            rw [v3 e' q1] at q3 ⊢
            rw [q3] at hb
            cases q : ds e with
            | some k' => exact ⟨k', rfl⟩
            | none => rw [q] at hb; cases hb
          · have hn : ds e = none := by
              cases q : ds e with
              | none => rfl
              | some k' => rw [q] at hb; cases hb
            have hse : stand g e = true := by
              cases q : stand g e with
              | true => rfl
              | false => rw [q, Bool.not_false, Bool.or_true] at hb; cases hb
            refine q_if (pC_or (pC_and (pC_kI (pI_lI rfl) pI_cI) (pC_eq (pC_not (pC_nz (pI_vV (pR_A (pA_lA rfl) (pR_I (pI_eq (pI_add (pI_lI rfl) pI_cI) (nI_add c 100)) pR_0)) h695 (sp_isFreeR h5.2.2 hcd h85 hfk (by omega))))) (Bool.not_not _))) (pC_and (pC_kI (pI_lI rfl) pI_cI) (pC_eq (pC_not (pC_nz (pI_vV (pR_A (pA_lA rfl) (pR_I (pI_eq (pI_add (pI_lI rfl) pI_cI) (nI_add e 100)) pR_0)) h695 (sp_isFreeR h5.2.2 hcd h85 hfk (by omega))))) (Bool.not_not _)))) (fun hb2 => ?_) (fun hb2 => ?_)
            · refine q_cnt (Or.inr ⟨by decide, by decide, rfl, rfl, ds, qs, rfl, c1, ⟨gs, gq, p1, p2, p3, p4⟩, c3.step2 hs hD fun e' q1 q2 q3 => ?_, hi, hc, hk⟩)
              rw [v3 e' q1] at q1
              rw [(bad_iff hu hs1 v4).mpr q1] at hb2
              cases hb2
            · have hce := (bad_iff hu hs1 v4).mp hb2
              have hroom := c3.room he hn
              have hk9 := c3.k_le hk
              have hsc : ∀ Lx : Lv, lkp Lx 0 = some (.ref 69) → lkp Lx 6 = some (.int (nI c)) → pI (gI 0 (fA 11 30 (lA 0)) (lI 6)) Lx M7 (nI k) := fun Lx q0 q1 => by
                have h9 := pI_gI (t := 0) (L := Lx) (pA_fA (k := 30) (pA_lA q0) h695 rfl) (pI_lI q1) p1 (inb_nI hc1 (by decide))
                rw [nI_clamp (by omega), p3 _ hc1, hk] at h9
                exact h9
              refine q_pa (j := e) (pA_fA (k := 30) (pA_lA rfl) h695 rfl) (pI_lI rfl) (pI_eq (pI_add (hsc _ rfl rfl) pI_cI) (nI_1 k)) p1 (by decide) he (by decide) (Or.inl rfl) ?_
              have b6 : KA [94, 90] M2 (setC M7 94 (aI 0 1000 (upd gs e (nI (k + 1))))) := c1.set (by decide) p1
              have h6 := h2.ka b6 (by decide)
              obtain ⟨th6, pm6, bm6, h696⟩ := id h6.2.2
              have p2' : (setC M7 94 (aI 0 1000 (upd gs e (nI (k + 1))))).2.2 90 = aI 0 1000 gq := (get_ne (by decide)).trans p2
              refine q_pa (j := qs.length) (pA_fA (k := 25) (pA_lA rfl) h696 rfl) (pI_lI rfl) (pI_lI rfl) p2' (by decide) hroom (by decide) (Or.inl rfl) ?_
              refine l_inc rfl rfl (Or.inr ⟨by decide, by decide, rfl, rfl, dsU ds e (k + 1), qs ++ [e], ?_, b6.set (by decide) p2', pb_push (by decide) p3 p4, c3.step1 hi hc hk hsw hs hD he hse hn hce v3, ?_, ?_, ?_⟩)
              · rw [List.length_append, nI_1]; rfl
              · rw [List.length_append]; omega
              · rw [getD_app1 hi]; exact hc
              · unfold dsU
                rw [if_neg fun q => by rw [← q, hk] at hn; cases hn]
                exact hk
      · rintro L' M7 ⟨ds, qs, rfl, c1, c2, c3, hi, hc, hk⟩
        refine Or.inr ⟨by decide, by decide, rfl, rfl, ds, qs, rfl, c1, c2, c3.mono fun e ⟨d', t', s', e1, e2, e3⟩ => Or.inl ⟨d', t', s', e1, e2, e3.1, by have := e3.2.1; have := e3.2.2; omega, e3.2.2⟩, hi, hc, hk, by omega⟩
  · rintro L' M6 ⟨ds, qs, rfl, c1, c2, c3, hi, hc, hk, -⟩
    refine ⟨fun q => absurd q (by decide), fun q => absurd q (by decide), fun _ _ => wS_inc rfl rfl ⟨rfl, m - 1, by omega, i + 1, ds, qs, by omega, ?_, c1, c2, c3.next hi fun e he => ?_⟩⟩
    · rw [nI_1]; rfl
    · obtain ⟨e1, e2, d, s, d1, d2, e3, e4⟩ := he
      obtain ⟨t', t1, t2⟩ := cand_T e4
      rw [hc] at e3 t2
      have := sw_in ⟨d1, d2⟩
      exact ⟨d, t', s, e3, t2, this.1, Or.inl this.2, t1⟩
end PR
