/-! path: the class's side -/
def WK (M : Mm) (ds : Nat → Option Nat) (qs : List Nat) : Prop := M.2.2 64 = .inr (8, [.ref 65, .ref 66, .int (nI qs.length)]) ∧ PB 65 66 M ds qs
theorem gAt_out {g : Nat → Int32} {v : Int32} (h : isIn v 0 999 = false) : gAt g v = -1 := by
  unfold gAt
  rw [if_neg fun q => ?_]
  obtain ⟨h1, h2⟩ := Bool.and_eq_true_iff.mp q
  have h1 : (0 : Int32).toInt ≤ v.toInt := Int32.le_iff_toInt_le.mp (of_decide_eq_true h1)
  have h2 : v.toInt < (1000 : Int32).toInt := Int32.lt_iff_toInt_lt.mp (of_decide_eq_true h2)
  have z0 : (0 : Int32).toInt = 0 := rfl
  have z9 : (999 : Int32).toInt = 999 := rfl
  have z10 : (1000 : Int32).toInt = 1000 := rfl
  unfold isIn at h
  rw [decide_eq_true (Int32.le_iff_toInt_le.mpr (by omega)), decide_eq_true (Int32.le_iff_toInt_le.mpr (by omega))] at h
  cases h
theorem isIn_nI {c : Nat} (h : c < 1000) : isIn (nI c) 0 999 = true := by
  have z0 : (0 : Int32).toInt = 0 := rfl
  have z9 : (999 : Int32).toInt = 999 := rfl
  unfold isIn
  rw [decide_eq_true (Int32.le_iff_toInt_le.mpr (by rw [nI_toInt (by omega)]; omega)), decide_eq_true (Int32.le_iff_toInt_le.mpr (by rw [nI_toInt (by omega)]; omega))]
  rfl
theorem gAt_blkX (g : Nat → Int32) {c : Nat} (h : c < 10000) : oGt (gAt g (nI c)) 0 = blkX g c := by
  unfold blkX
  by_cases q : c < 1000
  · rw [gAt_nI g q, decide_eq_true q, Bool.true_and]; rfl
  · rw [decide_eq_false q, Bool.false_and, gAt_out (Bool.eq_false_iff.mpr fun q2 => by
      obtain ⟨n, h1, h2⟩ := isIn_nat q2
      have := (nI_inj (by omega) (by omega)).mp h2
      omega)]
    rfl
section PCl
variable {M : Mm} {g : Nat → Int32} {bs : List Nat}
theorem sp_isStandC (h : GrC M 51 g bs) {c : Nat} (hc : c < 1000) : F_X9_isStand [.ref 51, .int (nI c)] M = some (some (.int (bz (stand g c))), M) := by
  refine wF_eq (wF_b rfl (Nat.le_of_ble_eq_true rfl) (l_retZ (pI_zI (pC_and (pC_kI (pI_eq (pI_vV (pR_A (pA_lA rfl) (pR_I (pI_lI rfl) pR_0)) h.1 (sp_code h _)) (gAt_nI g hc)) pI_cI) (pC_orD (x := decide (c < 100)) (pC_eq (pC_kI (pI_vS (pR_I (pI_lI rfl) pR_0) (sp_zOf hc M)) pI_cI) ?_) (y := blk g (c - 100)) fun hb => ?_))) ⟨rfl, rfl, rfl⟩))
  · exact (oEq_nI (a := c / 100) (b := 0) (by omega) (by decide)).trans (decide_eq_decide.mpr (by omega))
  · have h100 : 100 ≤ c := by have := of_decide_eq_false hb; omega
    exact pC_nz (pI_eq (pI_vV (pR_A (pA_lA rfl) (pR_I (pI_eq (pI_sub (pI_lI rfl) pI_cI) (nI_sub (b := 100) h100 (by omega))) pR_0)) h.1 (sp_isBlock h _)) (by rw [gAt_nI g (by omega)]; rfl))
theorem sp_isStandN (h : GrC M 51 g bs) {v : Int32} (hv : isIn v 0 999 = false) : F_X9_isStand [.ref 51, .int v] M = some (some (.int (bz false)), M) :=
  wF_eq (wF_b rfl (Nat.le_of_ble_eq_true rfl) (l_retZ (pI_zI (pC_andF (pC_eq (pC_kI (pI_eq (pI_vV (pR_A (pA_lA rfl) (pR_I (pI_lI rfl) pR_0)) h.1 (sp_code h _)) (gAt_out hv)) pI_cI) rfl))) ⟨rfl, rfl, rfl⟩))
theorem sp_reach (h : GrC M 51 g bs) {ds : Nat → Option Nat} {qs : List Nat} (hw : WK M ds qs) (v : Int32) {k : Nat} (hk : k ≤ 1000) (hds : ∀ c k, ds c = some k → k ≤ 1000) (hroom : ∀ e, e < 1000 → ds e = none → qs.length < 1000) : wF F_X9_reach [.ref 64, .ref 51, .int v, .int (nI k)] M fun r M' => r = none ∧ But [64, 65, 66] M M' ∧
    ((∃ e, e < 1000 ∧ v = nI e ∧ stand g e = true ∧ ds e = none ∧ WK M' (dsU ds e k) (qs ++ [e])) ∨ (WK M' ds qs ∧ ∀ e, e < 1000 → v = nI e → stand g e = true → ∃ k, ds e = some k)) := by
  obtain ⟨h64, gs, gq, p1, p2, p3, p4⟩ := id hw
  cases hv : isIn v 0 999 with
  | false =>
    refine wF_b rfl (Nat.le_of_ble_eq_true rfl) (q_if (v := false) (pC_andF (pC_andF (pC_nz (pI_vS (pR_A (pA_lA rfl) (pR_I (pI_lI rfl) pR_0)) (sp_isStandN h hv))))) (fun q => absurd q (by decide)) (fun _ => wS_retV ⟨rfl, rfl, But.rf, Or.inr ⟨hw, fun e he q => ?_⟩⟩))
    rw [q, isIn_nI he] at hv
    cases hv
  | true =>
    obtain ⟨c, hc, rfl⟩ := isIn_nat hv
    have pd : ∀ Lx : Lv, lkp Lx 0 = some (.ref 64) → lkp Lx 2 = some (.int (nI c)) → pI (gI 0 (fA 8 0 (lA 0)) (lI 2)) Lx M (oI (ds c)) := fun Lx q0 q1 => by
      have h9 := pI_gI (t := 0) (L := Lx) (pA_fA (k := 0) (pA_lA q0) h64 rfl) (pI_lI q1) p1 (inb_nI hc (by decide))
      rw [nI_clamp (by omega), p3 _ hc] at h9
      exact h9
    by_cases hb : (stand g c && !((ds c).isSome)) = true
    · obtain ⟨hb1, hb2⟩ := Bool.and_eq_true_iff.mp hb
      have hn : ds c = none := by
        cases q : ds c with
        | none => rfl
        | some k' => rw [q] at hb2; cases hb2
      have hr := hroom c hc hn
      refine wF_b rfl (Nat.le_of_ble_eq_true rfl) (q_if (v := true) (pC_eq (pC_and (pC_and (pC_nz (pI_vS (pR_A (pA_lA rfl) (pR_I (pI_lI rfl) pR_0)) (sp_isStandC h hc))) (pC_kI (pd _ rfl rfl) pI_cI)) (pC_eq (pC_kI (pI_fI (pA_lA rfl) h64 rfl) pI_cI) (oLt_nI (b := 1000) (by omega) (by decide)))) (by rw [hb1, hn, decide_eq_true hr]; rfl)) (fun _ => ?_) (fun q => absurd q (by decide)))
      refine q_assoc (q_pa (j := c) (pA_fA (k := 0) (pA_lA rfl) h64 rfl) (pI_lI rfl) (pI_lI rfl) p1 (by decide) hc (by decide) (Or.inl rfl) ?_)
      refine q_assoc (q_pa (j := qs.length) (pA_fA (k := 1) (pA_lA rfl) ((get_ne (by decide)).trans h64) rfl) (pI_fI (pA_lA rfl) ((get_ne (by decide)).trans h64) rfl) (pI_lI rfl) ((get_ne (by decide)).trans p2) (by decide) hr (by decide) (Or.inl rfl) ?_)
      refine q_up (pA_lA rfl) pI_cI ((get_ne (by decide)).trans ((get_ne (by decide)).trans h64)) rfl (Nat.le_of_ble_eq_true rfl) (wS_retV ⟨rfl, rfl, ?_, Or.inl ⟨c, hc, rfl, hb1, hn, ?_, ?_⟩⟩)
      · exact ((But.rf.set (by decide)).set (by decide)).set (by decide)
      · rw [List.length_append, nI_1]; exact get_at
      · obtain ⟨u1, u2, u3, u4, u5, u6⟩ := pb_push (A := 65) (B := 66) (M := M) (c := c) (k := k) (by decide) p3 p4
        exact ⟨u1, u2, (get_ne (by decide)).trans u3, (get_ne (by decide)).trans u4, u5, u6⟩
    · rw [Bool.not_eq_true] at hb
      refine wF_b rfl (Nat.le_of_ble_eq_true rfl) (q_if (v := false) (pC_andF (pC_eq (pC_and (pC_nz (pI_vS (pR_A (pA_lA rfl) (pR_I (pI_lI rfl) pR_0)) (sp_isStandC h hc))) (pC_kI (pd _ rfl rfl) pI_cI)) ?_)) (fun q => absurd q (by decide)) (fun _ => wS_retV ⟨rfl, rfl, But.rf, Or.inr ⟨hw, fun e he q hs => ?_⟩⟩))
      · rw [← hb, ← oI_isS _ fun k q => hds c k q, oNe_not, Bool.not_not]
      · have e1 := (nI_inj (by omega) (by omega)).mp q
        subst e1
        rw [hs] at hb
        cases q : ds c with
        | some k' => exact ⟨k', rfl⟩
        | none => rw [q] at hb; cases hb
theorem GrC.bt {M' : Mm} (h : GrC M 51 g bs) (hb : But [64, 65, 66] M M') : GrC M' 51 g bs := h.fr (hb.2.2 _ (by decide)) (hb.2.2 _ (by decide)) (hb.2.2 _ (by decide))
/-- one neighbour looked at -/
theorem sp_step (h : GrC M 51 g bs) {f i c k d s t : Nat} {ds : Nat → Option Nat} {qs : List Nat} {D : Nat → Nat → Prop} (hw : WK M ds qs) (h3 : BI g f i ds qs (TD g c D)) (hi : i < qs.length) (hc : qs.getD i 0 = c) (hk : ds c = some k) (hd : 2 ≤ d ∧ d < 6) (hs : nbO c d = some s) {v : Int32} (hv : ∀ e, candT t g c s e → e < 1000 → v = nI e) (hv2 : ∀ e, e < 1000 → v = nI e → candT t g c s e) : wF F_X9_reach [.ref 64, .ref 51, .int v, .int (nI (k + 1))] M fun r M' => r = none ∧ But [64, 65, 66] M M' ∧
    ∃ ds' qs', WK M' ds' qs' ∧ BI g f i ds' qs' (TD g c fun d' t' => D d' t' ∨ (d' = d ∧ t' = t)) ∧ i < qs'.length ∧ qs'.getD i 0 = c ∧ ds' c = some k := by
  have hk9 := h3.k_le hk
  refine (sp_reach h hw v (k := k + 1) (by omega) (fun c k q => by have := h3.k_le q; omega) (fun e he hn => h3.room he hn)).mono ?_
  rintro r M' ⟨rfl, b1, ⟨e, e1, e2, e3, e4, e5⟩ | ⟨e1, e2⟩⟩
  · refine ⟨rfl, b1, _, _, e5, h3.step1 hi hc hk hd hs (fun _ _ q => q) e1 e3 e4 (hv2 e e1 e2) (fun e' he' => ?_), by rw [List.length_append]; omega, by rw [getD_app1 hi]; exact hc, ?_⟩
    · have : e' + 100 = e + 100 := by
        have q1 := hv2 e e1 e2
        rcases he' with ⟨a1, a2, -⟩ | ⟨a1, a2⟩ | ⟨a1, a2, -⟩ <;> rcases q1 with ⟨b1, b2, -⟩ | ⟨b1, b2⟩ | ⟨b1, b2, -⟩ <;> omega
      omega
    · unfold dsU
      rw [if_neg fun q => by rw [← q, hk] at e4; cases e4]
      exact hk
  · exact ⟨rfl, b1, ds, qs, e1, h3.step2 hs (fun _ _ q => q) fun e q1 q2 q3 => e2 e q2 (hv e q1 q2) q3, hi, hc, hk⟩
theorem sp_leave (h : GrC M 51 g bs) {f i c : Nat} {ds : Nat → Option Nat} {qs : List Nat} (hw : WK M ds qs) (h3 : BI g f i ds qs fun _ => False) (hi : i < qs.length) (hc : qs.getD i 0 = c) : wF F_X9_leave [.ref 64, .ref 51, .int (nI c)] M fun r M' => r = none ∧ But [64, 65, 66] M M' ∧ ∃ ds' qs', WK M' ds' qs' ∧ BI g f (i + 1) ds' qs' fun _ => False := by
  obtain ⟨h64, gs, gq, p1, p2, p3, p4⟩ := id hw
  obtain ⟨k, hk, hki⟩ := h3.c2 i hi
  rw [hc] at hk
  have hc1 := (h3.a c k hk).1
  have h9 := pI_gI (t := 0) (M := M) (L := mkL 6 [.ref 64, .ref 51, .int (nI c)]) (pA_fA (k := 0) (pA_lA (i := 0) rfl) h64 rfl) (pI_lI (i := 2) rfl) p1 (inb_nI hc1 (by decide))
  rw [nI_clamp (by omega), p3 _ hc1, hk] at h9
  refine wF_b rfl (Nat.le_of_ble_eq_true rfl) (q_I rfl (pI_eq (pI_add h9 pI_cI) (nI_1 k)) ?_)
  refine q_for 6 (fun d L' M1 => L' = [some (.ref 64), some (.ref 51), some (.int (nI c)), some (.int (nI (k + 1))), some (.int (nI d)), none] ∧ But [64, 65, 66] M M1 ∧ 2 ≤ d ∧ ∃ ds qs, WK M1 ds qs ∧ BI g f i ds qs (TD g c fun d' t' => 2 ≤ d' ∧ d' < d ∧ t' < 3) ∧ i < qs.length ∧ qs.getD i 0 = c ∧ ds c = some k) rfl (a := 2) rfl rfl (by decide) (by decide) ⟨rfl, But.rf, by decide, ds, qs, hw, h3.mono fun e ⟨d', t', s', e1, e2, e3⟩ => by omega, hi, hc, hk⟩ ?_ ?_ ?_
  · rintro d L' M1 ⟨rfl, -⟩
    rfl
  · rintro d L' M1 hd ⟨rfl, b1, hd2, ds, qs, hw, h3, hi, hc, hk⟩
    have g1 := h.bt b1
    refine l_scp (q_I rfl (pI_vS (pR_I (pI_lI rfl) (pR_I (pI_lI rfl) pR_0)) (sp_beside hc1 hd M1)) ?_)
    cases hs : nbO c d with
    | none =>
      refine l_if (v := false) (pC_eq (pC_kI (pI_lI rfl) pI_cI) rfl) (fun q => absurd q (by decide)) (fun _ => wS_nop (Or.inr ⟨by decide, by decide, rfl, rfl, rfl, b1, by omega, ds, qs, hw, h3.mono fun e ⟨d', t', s', e1, e2, e3⟩ => ?_, hi, hc, hk⟩))
      by_cases q : d' = d
      · rw [q, hs] at e1
        cases e1
      · exact Or.inl ⟨d', t', s', e1, e2, by omega⟩
    | some s =>
      have hs1 := nbO_lt hc1 hs
      have hnbo : s = c + stN (d / 2) ∨ c = s + stN (d / 2) := by
        unfold nbO at hs
        split at hs <;> split at hs
        · cases hs; exact Or.inl rfl
        · cases hs
        · cases hs
          have := stN_cs (d / 2)
          rename_i p1 p2
          right
          rcases this with ⟨a, -⟩ | ⟨a, -⟩ | ⟨a, -⟩ <;> rw [a] at p2 ⊢ <;> omega
        · cases hs
      refine l_if (v := true) (pC_eq (pC_kI (pI_lI rfl) pI_cI) ((oI_isS (some s) fun k q => by cases q; omega))) (fun _ => ?_) (fun q => absurd q (by decide))
      -- at its own height
      refine q_ex (wV_Vw (pR_A (pA_lA rfl) (pR_A (pA_lA rfl) (pR_I (pI_lI rfl) (pR_I (pI_lI rfl) pR_0)))) hw.1 ((sp_step g1 hw h3 hi hc hk ⟨hd2, hd⟩ hs (t := 1) (v := nI s) (fun e q _ => by
        rcases q with ⟨q, -⟩ | ⟨-, q⟩ | ⟨q, -⟩
        · cases q
        · rw [q]
        · cases q) (fun e he q => Or.inr (Or.inl ⟨rfl, ((nI_inj (by omega) (by omega)).mp q).symm⟩))).mono ?_))
      rintro r M2 ⟨rfl, b2, ds2, qs2, hw2, h32, hi2, hc2, hk2⟩
      have g2 := g1.bt b2
      refine ⟨rfl, ?_⟩
      -- up
      refine wS_seq (wS.mono (Q := fun L1 M3 c1 v => c1 = 0 ∧ L1 = [some (.ref 64), some (.ref 51), some (.int (nI c)), some (.int (nI (k + 1))), some (.int (nI d)), some (.int (nI s))] ∧ But [64, 65, 66] M M3 ∧ ∃ ds qs, WK M3 ds qs ∧ BI g f i ds qs (TD g c fun d' t' => ((2 ≤ d' ∧ d' < d ∧ t' < 3) ∨ (d' = d ∧ t' = 1)) ∨ (d' = d ∧ t' = 2)) ∧ i < qs.length ∧ qs.getD i 0 = c ∧ ds c = some k) ?_ ?_)
      · refine l_if (pC_not (pC_nz (pI_eq (pI_vV (pR_A (pA_lA rfl) (pR_I (pI_eq (pI_add (pI_lI rfl) pI_cI) (nI_add c 100)) pR_0)) g2.1 (sp_isBlock g2 _)) (by rw [gAt_blkX g (by omega)])))) (fun hb => ?_) (fun hb => ?_)
        · rw [Bool.not_eq_true'] at hb
          refine wS_exV (wV_Vw (pR_A (pA_lA rfl) (pR_A (pA_lA rfl) (pR_I (pI_eq (pI_add (pI_lI rfl) pI_cI) (nI_add s 100)) (pR_I (pI_lI rfl) pR_0)))) hw2.1 ((sp_step g2 hw2 h32 hi2 hc2 hk2 ⟨hd2, hd⟩ hs (t := 2) (v := nI (s + 100)) (fun e q _ => by
            rcases q with ⟨q, -⟩ | ⟨q, -⟩ | ⟨-, q, -⟩
            · cases q
            · cases q
            · rw [q]) (fun e he q => Or.inr (Or.inr ⟨rfl, ((nI_inj (by omega) (by omega)).mp q).symm, hb⟩))).mono ?_))
          rintro r M3 ⟨rfl, b3, ds3, qs3, hw3, h33, hi3, hc3, hk3⟩
          exact ⟨rfl, rfl, rfl, (b1.tr b2).tr b3, ds3, qs3, hw3, h33, hi3, hc3, hk3⟩
        · rw [Bool.not_eq_false'] at hb
          refine wS_nop ⟨rfl, rfl, b1.tr b2, ds2, qs2, hw2, h32.step2 hs (t := 2) (fun _ _ q => q) (fun e q _ _ => ?_), hi2, hc2, hk2⟩
          rcases q with ⟨q, -⟩ | ⟨q, -⟩ | ⟨-, -, q⟩
          · cases q
          · cases q
          · rw [hb] at q; cases q
      rintro L1 M3 c1 v ⟨rfl, rfl, b3, ds3, qs3, hw3, h33, hi3, hc3, hk3⟩
      refine ⟨fun _ => ?_, fun q => absurd rfl q⟩
      have g3 := h.bt b3
      -- down
      refine wS.mono (Q := fun L1 M4 c1 v => c1 = 0 ∧ L1 = [some (.ref 64), some (.ref 51), some (.int (nI c)), some (.int (nI (k + 1))), some (.int (nI d)), some (.int (nI s))] ∧ But [64, 65, 66] M M4 ∧ ∃ ds qs, WK M4 ds qs ∧ BI g f i ds qs (TD g c fun d' t' => (((2 ≤ d' ∧ d' < d ∧ t' < 3) ∨ (d' = d ∧ t' = 1)) ∨ (d' = d ∧ t' = 2)) ∨ (d' = d ∧ t' = 0)) ∧ i < qs.length ∧ qs.getD i 0 = c ∧ ds c = some k) ?_ ?_
      · refine l_if (pC_not (pC_nz (pI_eq (pI_vV (pR_A (pA_lA rfl) (pR_I (pI_lI rfl) pR_0)) g3.1 (sp_isBlock g3 _)) (show bz (oGt (gAt g (nI s)) 0) = bz (blk g s) by rw [gAt_nI g hs1]; rfl)))) (fun hb => ?_) (fun hb => ?_)
        · rw [Bool.not_eq_true'] at hb
          refine wS_exV (wV_Vw (pR_A (pA_lA rfl) (pR_A (pA_lA rfl) (pR_I (pI_sub (pI_lI rfl) pI_cI) (pR_I (pI_lI rfl) pR_0)))) hw3.1 ((sp_step g3 hw3 h33 hi3 hc3 hk3 ⟨hd2, hd⟩ hs (t := 0) (v := nI s - 100) (fun e q _ => by
            rcases q with ⟨-, q, -⟩ | ⟨q, -⟩ | ⟨q, -⟩
            · rw [← q]
              exact (nI_sub (a := e + 100) (b := 100) (by omega) (by omega)).trans (by rw [Nat.add_sub_cancel])
            · cases q
            · cases q) (fun e he q => Or.inl ⟨rfl, ?_, hb⟩)).mono ?_))
          · have := congrArg (fun x => x + 100) q
            simp only [Int32.sub_add_cancel] at this
            exact ((nI_inj (by omega) (by omega)).mp (this.trans (nI_add e 100))).symm
          rintro r M4 ⟨rfl, b4, ds4, qs4, hw4, h34, hi4, hc4, hk4⟩
          exact ⟨rfl, rfl, rfl, b3.tr b4, ds4, qs4, hw4, h34, hi4, hc4, hk4⟩
        · rw [Bool.not_eq_false'] at hb
          refine wS_nop ⟨rfl, rfl, b3, ds3, qs3, hw3, h33.step2 hs (t := 0) (fun _ _ q => q) (fun e q _ _ => ?_), hi3, hc3, hk3⟩
          rcases q with ⟨-, -, q⟩ | ⟨q, -⟩ | ⟨q, -⟩
          · rw [hb] at q; cases q
          · cases q
          · cases q
      rintro L1 M4 c1 v ⟨rfl, rfl, b4, ds4, qs4, hw4, h34, hi4, hc4, hk4⟩
      exact Or.inr ⟨by decide, by decide, rfl, rfl, rfl, b4, by omega, ds4, qs4, hw4, h34.mono fun e ⟨d', t', s', e1, e2, e3⟩ => Or.inl ⟨d', t', s', e1, e2, by omega⟩, hi4, hc4, hk4⟩
  · rintro L' M1 ⟨rfl, b1, -, ds, qs, hw, h3, hi, hc, hk⟩
    refine wS_retV ⟨rfl, rfl, b1, ds, qs, hw, h3.next hi fun e he => ?_⟩
    obtain ⟨e1, e2, d, s, d1, d2, e3, e4⟩ := he
    obtain ⟨t', t1, t2⟩ := cand_T e4
    rw [hc] at e3 t2
    exact ⟨d, t', s, e3, t2, d1, d2, t1⟩
theorem isIn_nNat {v : Int32} (h : isIn v 0 999 = true) : v = nI v.toNatClampNeg ∧ v.toNatClampNeg < 1000 := by
  obtain ⟨n, h1, rfl⟩ := isIn_nat h
  rw [nI_clamp (by omega)]
  exact ⟨rfl, h1⟩
theorem sp_steps (h : GrC M 51 g bs) {v0 : Int32} (h64 : M.2.2 64 = .inr (8, [.ref 65, .ref 66, .int v0])) (h65 : ∃ f, M.2.2 65 = aI 0 1000 f) (h66 : ∃ f, M.2.2 66 = aI 0 1000 f) (f t : Int32) : wF F_X9_steps [.ref 64, .ref 51, .int f, .int t] M fun r M' => r = some (.int (if (isIn f 0 999 && isIn t 0 999) = true then (if (stand g f.toNatClampNeg && stand g t.toNatClampNeg) = true then sdV g f.toNatClampNeg t.toNatClampNeg else -1) else -1)) ∧ But [64, 65, 66] M M' ∧ (∃ v, M'.2.2 64 = .inr (8, [.ref 65, .ref 66, .int v])) ∧ (∃ f, M'.2.2 65 = aI 0 1000 f) ∧ ∃ f, M'.2.2 66 = aI 0 1000 f := by
  have hbig : big = 1000000 := rfl
  have st : ∀ v : Int32, F_X9_isStand [.ref 51, .int v] M = some (some (.int (bz (isIn v 0 999 && stand g v.toNatClampNeg))), M) := fun v => by
    cases q : isIn v 0 999 with
    | false => rw [Bool.false_and]; exact sp_isStandN h q
    | true =>
      obtain ⟨e1, e2⟩ := isIn_nNat q
      rw [Bool.true_and]
      have := sp_isStandC h e2
      rw [← e1] at this
      exact this
  refine wF_b rfl (Nat.le_of_ble_eq_true rfl) (q_if (v := !((isIn f 0 999 && stand g f.toNatClampNeg) && (isIn t 0 999 && stand g t.toNatClampNeg))) (pC_eq (pC_or (pC_not (pC_nz (pI_vS (pR_A (pA_lA rfl) (pR_I (pI_lI rfl) pR_0)) (st f)))) (pC_not (pC_nz (pI_vS (pR_A (pA_lA rfl) (pR_I (pI_lI rfl) pR_0)) (st t))))) (not_or_n _ _)) (fun hb => ?_) (fun hb => ?_))
  · rw [Bool.not_eq_true'] at hb
    refine q_ret pI_cI ⟨rfl, ?_, But.rf, ⟨_, h64⟩, h65, h66⟩
    by_cases q : (isIn f 0 999 && isIn t 0 999) = true
    · rw [if_pos q]
      obtain ⟨q1, q2⟩ := Bool.and_eq_true_iff.mp q
      rw [q1, q2, Bool.true_and, Bool.true_and] at hb
      rw [if_neg (by rw [hb]; decide)]
    · rw [if_neg q]
  rw [Bool.not_eq_false'] at hb
  obtain ⟨hb1, hb2⟩ := Bool.and_eq_true_iff.mp hb
  obtain ⟨q1, s1⟩ := Bool.and_eq_true_iff.mp hb1
  obtain ⟨q2, s2⟩ := Bool.and_eq_true_iff.mp hb2
  rw [q1, q2, s1, s2, if_pos (by decide), if_pos (by decide)]
  obtain ⟨fn, hf, rfl⟩ := isIn_nat q1
  obtain ⟨tn', ht, rfl⟩ := isIn_nat q2
  rw [nI_clamp (by omega)] at s1 s2
  rw [nI_clamp (by omega), nI_clamp (by omega)]
  obtain ⟨f0, h65⟩ := h65
  obtain ⟨q0, h66⟩ := h66
  refine q_for 1000 (fun j L' M3 => L' = [some (.ref 64), some (.ref 51), some (.int (nI fn)), some (.int (nI tn')), some (.int (nI j))] ∧ But [65] M M3 ∧ ∃ fs, M3.2.2 65 = aI 0 1000 fs ∧ ∀ c, c < j → fs c = -1) rfl (a := 0) rfl rfl (by decide) (by decide) ⟨rfl, But.rf, f0, h65, fun c hc => absurd hc (Nat.not_lt_zero c)⟩ ?_ ?_ ?_
  · rintro j L' M3 ⟨rfl, -⟩
    rfl
  · rintro j L' M3 hj ⟨rfl, b1, fs, b2, b3⟩
    refine l_pa (j := j) (pA_fA (k := 0) (pA_lA rfl) ((b1.2.2 64 (by decide)).trans h64) rfl) (pI_lI rfl) pI_cI b2 (by decide) hj (by decide) (Or.inl rfl) (Or.inr ⟨by decide, by decide, rfl, rfl, rfl, b1.set (by decide), _, get_at, fun c hc => ?_⟩)
    unfold upd
    by_cases e : c = j
    · rw [if_pos e]
    · rw [if_neg e]; exact b3 c (by omega)
  rintro L' M3 ⟨rfl, b1, fs, b2, b3⟩
  refine q_pf (pA_lA rfl) pI_cI ((b1.2.2 64 (by decide)).trans h64) (Nat.le_of_ble_eq_true rfl) ?_
  have b4 : But [64, 65, 66] M (setC M3 64 (.inr (8, [.ref 65, .ref 66, .int 0]))) := (b1.mono (by decide)).set (by decide)
  have w4 : WK (setC M3 64 (.inr (8, [.ref 65, .ref 66, .int 0]))) (fun _ => none) [] := ⟨get_at, fs, q0, (get_ne (by decide)).trans b2, (get_ne (by decide)).trans ((b1.2.2 66 (by decide)).trans h66), b3, fun j hj => absurd hj (Nat.not_lt_zero j)⟩
  refine q_ex (wV_Vw (pR_A (pA_lA rfl) (pR_A (pA_lA rfl) (pR_I (pI_lI rfl) (pR_I (pI_cI (v := 0)) pR_0)))) w4.1 ((sp_reach (h.bt b4) w4 (nI fn) (k := 0) (by decide) (fun c k q => by cases q) (fun _ _ _ => by decide)).mono ?_))
  rintro r M4 ⟨rfl, b5, ⟨e, e1, e2, e3, e4, e5⟩ | ⟨e1, e2⟩⟩
  rotate_left
  · obtain ⟨k, hk⟩ := e2 fn hf rfl s1
    cases hk
  have efn := (nI_inj (by omega) (by omega)).mp e2
  subst efn
  have e5 : WK M4 (dsU (fun _ => none) fn 0) [fn] := e5
  have b6 := b4.tr b5
  refine ⟨rfl, ?_⟩
  refine q_scp (q_I rfl pI_cI (wS_wh (I := fun m L' M5 => ∃ i ds qs, m + i = 1000 ∧ L' = [some (.ref 64), some (.ref 51), some (.int (nI fn)), some (.int (nI tn')), some (.int (nI i))] ∧ But [64, 65, 66] M M5 ∧ WK M5 ds qs ∧ BI g fn i ds qs fun _ => False) ?_ 1000 _ _ ⟨0, _, _, rfl, rfl, b6, e5, BI.start hf⟩ (by omega)))
  rintro m L' M5 ⟨i, ds, qs, hmi, rfl, c1, hw, c3⟩
  obtain ⟨w64, gs, gq, p1, p2, p3, p4⟩ := id hw
  have hql := c3.len
  have hst : ∀ Lx : Lv, lkp Lx 0 = some (.ref 64) → lkp Lx 3 = some (.int (nI tn')) → pI (gI 0 (fA 8 0 (lA 0)) (lI 3)) Lx M5 (oI (ds tn')) := fun Lx q0 q1 => by
    have h9 := pI_gI (t := 0) (L := Lx) (pA_fA (k := 0) (pA_lA q0) w64 rfl) (pI_lI q1) p1 (inb_nI ht (by decide))
    rw [nI_clamp (by omega), p3 _ ht] at h9
    exact h9
  have hq1 : oEq (oI (ds tn')) (-1) = !((ds tn').isSome) := by
    rw [← oI_isS (ds tn') fun k q => by have := c3.k_le q; omega, oNe_not, Bool.not_not]
  refine wC_p (pC_and (pC_and (pC_eq (pC_kI (pI_lI rfl) (pI_fI (pA_lA rfl) w64 rfl)) (oLt_nI (by omega) (by omega))) (pC_eq (pC_kI (pI_lI rfl) pI_cI) (oLt_nI (b := 1000) (by omega) (by decide)))) (pC_eq (pC_kI (hst _ rfl rfl) pI_cI) hq1)) ⟨fun hr => ⟨fun _ => ?_, fun q => absurd rfl q⟩, fun hr => ?_⟩
  · refine l_ret (hst _ rfl rfl) ⟨rfl, ?_, c1, ⟨_, w64⟩, ⟨_, p1⟩, _, p2⟩
    cases q : ds tn' with
    | none =>
      rw [q] at hr
      have hr : ((decide (i < qs.length) && decide (i < 1000)) && true) = false := hr
      rw [Bool.and_true, ← Bool.decide_and] at hr
      have := of_decide_eq_false hr
      rw [c3.lost (by omega) q]
      rfl
    | some k => rw [c3.found q]; rfl
  · obtain ⟨hr1, -⟩ := Bool.and_eq_true_iff.mp hr
    obtain ⟨hr2, hr3⟩ := Bool.and_eq_true_iff.mp hr1
    have hi := of_decide_eq_true hr2
    have hi2 := of_decide_eq_true hr3
    have h9 := pI_gI (t := 0) (M := M5) (L := [some (.ref 64), some (.ref 51), some (.int (nI fn)), some (.int (nI tn')), some (.int (nI i))]) (pA_fA (k := 1) (pA_lA (i := 0) rfl) w64 rfl) (pI_lI (i := 4) rfl) p2 (inb_nI hi2 (by decide))
    rw [nI_clamp (by omega), p4 i hi] at h9
    refine wS_exV (wV_Vw (pR_A (pA_lA rfl) (pR_A (pA_lA rfl) (pR_I h9 pR_0))) w64 ((sp_leave (h.bt c1) hw c3 hi rfl).mono ?_))
    rintro r M6 ⟨rfl, d1, ds', qs', d2, d3⟩
    refine ⟨rfl, fun q => absurd q (by decide), fun q => absurd q (by decide), fun _ _ => wS_inc rfl rfl ⟨rfl, m - 1, by omega, i + 1, ds', qs', by omega, ?_, c1.tr d1, d2, d3⟩⟩
    rw [nI_1]; rfl
end PCl
section PF
variable {L : Nat} {xs : Nat → Int32} {M : Mm} {a : AS}
theorem CSt.wr3 {M' : Mm} (h : CSt L xs a M) (hb : But [64, 65, 66] M M') (h64 : ∃ v, M'.2.2 64 = .inr (8, [.ref 65, .ref 66, .int v])) (h65 : ∃ f, M'.2.2 65 = aI 0 1000 f) (h66 : ∃ f, M'.2.2 66 = aI 0 1000 f) : CSt L xs a M' := by
  refine ⟨h.1.scr hb (by decide), ?_⟩
  obtain ⟨⟨v1, q1⟩, ⟨v2, q2⟩, ⟨v3, q3⟩, -, q5, ⟨f6, q6⟩⟩ := h.2
  have s : ∀ b, b ∉ [64, 65, 66] → M'.2.2 b = M.2.2 b := hb.2.2
  refine ⟨⟨v1, (s _ (by decide)).trans q1⟩, ⟨v2, (s _ (by decide)).trans q2⟩, ⟨v3, (s _ (by decide)).trans q3⟩, h64, fun b hb => ?_, ⟨f6, (s _ (by decide)).trans q6⟩⟩
  by_cases e : b = 65
  · rw [e]; exact h65
  · by_cases e2 : b = 66
    · rw [e2]; exact h66
    · obtain ⟨k, hk⟩ := q5 b hb
      have all : ∀ b ∈ [52, 53, 55, 56, 58, 59, 61, 63, 65, 66], b = 65 ∨ b = 66 ∨ b ∉ [64, 65, 66] := by decide
      rcases all b hb with t | t | t
      · exact absurd t e
      · exact absurd t e2
      · exact ⟨k, (s b t).trans hk⟩
end PF
theorem ok2_path (L : Nat) (xs : Nat → Int32) (y f t : Int32) : OK2 (Inv2 L xs) F_X11_path F_X12_path [.int y, .int f, .int t] := by
  refine ok2_rd (ptV y f t) (fun a M hO hb h => ?_) (fun a M hO hb h => pt_R hO h)
  unfold ptV
  refine wF_b rfl (Nat.le_of_ble_eq_true rfl) (q_if (pC_not (pC_nz (pI_vS (pR_I (pI_lI rfl) pR_0) (sp_isYardC _ _)))) (fun hb1 => ?_) (fun hb1 => ?_))
  · rw [Bool.not_eq_true'] at hb1
    rw [if_neg (by rw [show isY y = false from hb1]; exact fun q => Bool.false_ne_true q)]
    exact q_ret pI_cI ⟨rfl, rfl, h, COn.rf⟩
  rw [Bool.not_eq_false'] at hb1
  have hb1 : isY y = true := hb1
  obtain ⟨yn, hy, rfl⟩ := isY_nat hb1
  rw [hb1, Bool.true_and, nI_clamp (by omega)]
  refine q_ex (wV_Vw (pR_A (pA_grid h.1 rfl) (pR_A (pA_yard h.1.1 h.1.o5 hy rfl rfl) pR_0)) h.scr.choose_spec.1 ((sp_readC h hy).mono ?_))
  rintro v M1 ⟨rfl, h1, s1, g1⟩
  refine ⟨rfl, ?_⟩
  obtain ⟨w, hw⟩ := h1.2.2.2.2.1
  have h65 := h1.2.2.2.2.2.1 65 (by decide)
  have h66 := h1.2.2.2.2.2.1 66 (by decide)
  refine wS_retI (wI_vVw (pR_A (pA_fA (k := 10) (pA_lA rfl) h1.1.o5 rfl) (pR_A (pA_grid h1.1 rfl) (pR_I (pI_lI rfl) (pR_I (pI_lI rfl) pR_0)))) hw ((sp_steps g1 hw h65 h66 f t).mono ?_))
  rintro v M2 ⟨rfl, s2, e1, e2, e3⟩
  exact ⟨_, rfl, rfl, rfl, h1.wr3 s2 e1 e2 e3, (s1.con (by decide)).tr (s2.con (by decide))⟩
