/-! box, reference's side -/
theorem dgv {t a c : Int32} {n : Int} (ha : a.toInt = n) (hc : c.toInt = 10 * n) (hn : 0 < n) (h : 0 ≤ t.toInt) : dg (t / 10) a = dg t c := by
  unfold dg
  rw [dv_dv (n := 10) (m := n) rfl ha hc (by decide) hn h]
theorem bx_pos {t : Int32} (hr : bxR t = false) : 0 ≤ t.toInt := by
  unfold bxR at hr
  have h1 : oLt t 0 = false := by
    cases hq : oLt t 0 with
    | true => rw [hq] at hr; simp at hr
    | false => rfl
  have h2 : ¬ t < 0 := by simpa [oLt] using h1
  rw [Int32.lt_iff_toInt_lt] at h2
  have : (0 : Int32).toInt = 0 := rfl
  omega
theorem sp_boxR {M : Mm} {th pm bm : Int32} {kn nl nr fe : Nat} {t : Int32} {F T : Nat → Int32} (h69 : M.2.2 69 = .inr (11, fsRv th kn nl nr pm fe bm)) (h83 : M.2.2 83 = aI 0 3 F) (h84 : M.2.2 84 = aI 0 3 T) :
    wF F_X12_box [.ref 69, .int t] M fun v M' => But [69, 83, 84] M M' ∧ M'.2.2 69 = .inr (11, fsRv 0 kn nl nr pm fe bm) ∧ ((bxR t = true ∨ bxC2 t = true) → v = some (.int 0) ∧ M'.2.2 83 = aI 0 3 F ∧ M'.2.2 84 = aI 0 3 T) ∧ (bxR t = false → bxC2 t = false → v = some (.int 1) ∧
      M'.2.2 83 = aI 0 3 (upd (upd (upd F 0 (t / 1000000)) 1 (dg t 10000)) 2 (dg t 100)) ∧ M'.2.2 84 = aI 0 3 (upd (upd (upd T 0 (dg t 100000)) 1 (dg t 1000)) 2 (dg t 10))) := by
  refine wF_run ⟨rfl, Nat.le_of_ble_eq_true rfl, wS_seq (wS_pfI (wA_lA rfl rfl ⟨69, rfl, wI_cI ⟨_, wrF_of h69 (Nat.le_of_ble_eq_true rfl), fun _ => ?_, fun q => absurd rfl q⟩⟩))⟩
  have g69 : (setC M 69 (.inr (11, fsRv 0 kn nl nr pm fe bm))).2.2 69 = .inr (11, fsRv 0 kn nl nr pm fe bm) := get_at
  refine wS_seq (wS_if (wC_p (v := bxR t) ?_ ⟨fun hr => wS_retZ (wI_cI ⟨Or.inl rfl, fun q => absurd q (by decide), fun _ => ⟨rfl, But.rf.set (by decide), g69, fun _ => ⟨rfl, by (repeat' (first | exact get_at | exact new_at | assumption | refine (get_ne (by first | assumption | decide | omega)).trans ?_ | refine (new_ne (by simp only [set_1, new_1]; omega)).trans ?_ | fail)), by (repeat' (first | exact get_at | exact new_at | assumption | refine (get_ne (by first | assumption | decide | omega)).trans ?_ | refine (new_ne (by simp only [set_1, new_1]; omega)).trans ?_ | fail))⟩, fun q => absurd (hr.symm.trans q) (by decide)⟩⟩), fun hr => wS_nop ⟨fun _ => ?_, fun q => absurd rfl q⟩⟩))
  · exact pC_or (pC_or (pC_kI (pI_lI rfl) pI_cI) (pC_kI (pI_lI rfl) pI_cI)) (pC_kI (pI_rem (pI_lI rfl) pI_cI (by decide)) pI_cI)
  have h0 : 0 ≤ t.toInt := bx_pos hr
  refine wS_seq (wS_seq (wS_setK rfl (wI_p (v := t / 10) (pI_div (pI_lI rfl) pI_cI (by decide)) ⟨fun _ => ?_, fun q => absurd rfl q⟩)))
  refine wS_seq (wS_setK rfl (wI_p (v := dg t 10) (pI_rem (pI_lI rfl) pI_cI (by decide)) ⟨fun _ => ?_, fun q => absurd rfl q⟩))
  refine wS_seq (wS_setK rfl (wI_p (v := dg t 100) (by rw [← dgv (a := 10) (c := 100) (n := 10) rfl rfl (by decide) h0]; exact pI_dg rfl (by decide)) ⟨fun _ => ?_, fun q => absurd rfl q⟩))
  refine wS_seq (wS_setK rfl (wI_p (v := dg t 1000) (by rw [← dgv (a := 100) (c := 1000) (n := 100) rfl rfl (by decide) h0]; exact pI_dg rfl (by decide)) ⟨fun _ => ?_, fun q => absurd rfl q⟩))
  refine wS_seq (wS_setK rfl (wI_p (v := dg t 10000) (by rw [← dgv (a := 1000) (c := 10000) (n := 1000) rfl rfl (by decide) h0]; exact pI_dg rfl (by decide)) ⟨fun _ => ?_, fun q => absurd rfl q⟩))
  refine wS_seq (wS_setK rfl (wI_p (v := dg t 100000) (by rw [← dgv (a := 10000) (c := 100000) (n := 10000) rfl rfl (by decide) h0]; exact pI_dg rfl (by decide)) ⟨fun _ => ?_, fun q => absurd rfl q⟩))
  refine wS_setK rfl (wI_p (v := t / 1000000) (by rw [← dv_dv (a := 10) (b := 100000) (c := 1000000) (n := 10) (m := 100000) rfl rfl rfl (by decide) (by decide) h0]; exact pI_div (pI_lI rfl) pI_cI (by decide)) ⟨fun _ => ?_, fun q => absurd rfl q⟩)
  refine wS_seq (wS_if (wC_p (v := bxC2 t) ?_ ⟨fun hr2 => wS_retZ (wI_cI ⟨Or.inl rfl, fun q => absurd q (by decide), fun _ => ⟨rfl, But.rf.set (by decide), g69, fun _ => ⟨rfl, by (repeat' (first | exact get_at | exact new_at | assumption | refine (get_ne (by first | assumption | decide | omega)).trans ?_ | refine (new_ne (by simp only [set_1, new_1]; omega)).trans ?_ | fail)), by (repeat' (first | exact get_at | exact new_at | assumption | refine (get_ne (by first | assumption | decide | omega)).trans ?_ | refine (new_ne (by simp only [set_1, new_1]; omega)).trans ?_ | fail))⟩, fun _ q => absurd (hr2.symm.trans q) (by decide)⟩⟩), fun hr2 => wS_nop ⟨fun _ => ?_, fun q => absurd rfl q⟩⟩))
  · exact pC_or (pC_or (pC_kI (pI_lI rfl) (pI_lI rfl)) (pC_kI (pI_lI rfl) (pI_lI rfl))) (pC_kI (pI_lI rfl) (pI_lI rfl))
  refine wS_seq (wS_put3 0 rfl rfl (by (repeat' (first | exact get_at | exact new_at | assumption | refine (get_ne (by first | assumption | decide | omega)).trans ?_ | refine (new_ne (by simp only [set_1, new_1]; omega)).trans ?_ | fail))) rfl rfl (by (repeat' (first | exact get_at | exact new_at | assumption | refine (get_ne (by first | assumption | decide | omega)).trans ?_ | refine (new_ne (by simp only [set_1, new_1]; omega)).trans ?_ | fail))) (by decide) (by decide) ⟨fun _ => ?_, fun q => absurd rfl q⟩)
  refine wS_seq (wS_put3 0 rfl rfl (by (repeat' (first | exact get_at | exact new_at | assumption | refine (get_ne (by first | assumption | decide | omega)).trans ?_ | refine (new_ne (by simp only [set_1, new_1]; omega)).trans ?_ | fail))) rfl rfl (by (repeat' (first | exact get_at | exact new_at | assumption | refine (get_ne (by first | assumption | decide | omega)).trans ?_ | refine (new_ne (by simp only [set_1, new_1]; omega)).trans ?_ | fail))) (by decide) (by decide) ⟨fun _ => ?_, fun q => absurd rfl q⟩)
  refine wS_seq (wS_put3 1 rfl rfl (by (repeat' (first | exact get_at | exact new_at | assumption | refine (get_ne (by first | assumption | decide | omega)).trans ?_ | refine (new_ne (by simp only [set_1, new_1]; omega)).trans ?_ | fail))) rfl rfl (by (repeat' (first | exact get_at | exact new_at | assumption | refine (get_ne (by first | assumption | decide | omega)).trans ?_ | refine (new_ne (by simp only [set_1, new_1]; omega)).trans ?_ | fail))) (by decide) (by decide) ⟨fun _ => ?_, fun q => absurd rfl q⟩)
  refine wS_seq (wS_put3 1 rfl rfl (by (repeat' (first | exact get_at | exact new_at | assumption | refine (get_ne (by first | assumption | decide | omega)).trans ?_ | refine (new_ne (by simp only [set_1, new_1]; omega)).trans ?_ | fail))) rfl rfl (by (repeat' (first | exact get_at | exact new_at | assumption | refine (get_ne (by first | assumption | decide | omega)).trans ?_ | refine (new_ne (by simp only [set_1, new_1]; omega)).trans ?_ | fail))) (by decide) (by decide) ⟨fun _ => ?_, fun q => absurd rfl q⟩)
  refine wS_seq (wS_put3 2 rfl rfl (by (repeat' (first | exact get_at | exact new_at | assumption | refine (get_ne (by first | assumption | decide | omega)).trans ?_ | refine (new_ne (by simp only [set_1, new_1]; omega)).trans ?_ | fail))) rfl rfl (by (repeat' (first | exact get_at | exact new_at | assumption | refine (get_ne (by first | assumption | decide | omega)).trans ?_ | refine (new_ne (by simp only [set_1, new_1]; omega)).trans ?_ | fail))) (by decide) (by decide) ⟨fun _ => ?_, fun q => absurd rfl q⟩)
  refine wS_seq (wS_put3 2 rfl rfl (by (repeat' (first | exact get_at | exact new_at | assumption | refine (get_ne (by first | assumption | decide | omega)).trans ?_ | refine (new_ne (by simp only [set_1, new_1]; omega)).trans ?_ | fail))) rfl rfl (by (repeat' (first | exact get_at | exact new_at | assumption | refine (get_ne (by first | assumption | decide | omega)).trans ?_ | refine (new_ne (by simp only [set_1, new_1]; omega)).trans ?_ | fail))) (by decide) (by decide) ⟨fun _ => ?_, fun q => absurd rfl q⟩)
  exact wS_retZ (wI_cI ⟨Or.inr rfl, rfl, ((((((But.rf.set (by decide)).set (by decide)).set (by decide)).set (by decide)).set (by decide)).set (by decide)).set (by decide), by (repeat' (first | exact get_at | exact new_at | assumption | refine (get_ne (by first | assumption | decide | omega)).trans ?_ | refine (new_ne (by simp only [set_1, new_1]; omega)).trans ?_ | fail)), fun q => absurd q (by rw [hr, hr2]; decide), fun _ _ => ⟨rfl, by (repeat' (first | exact get_at | exact new_at | assumption | refine (get_ne (by first | assumption | decide | omega)).trans ?_ | refine (new_ne (by simp only [set_1, new_1]; omega)).trans ?_ | fail)), by (repeat' (first | exact get_at | exact new_at | assumption | refine (get_ne (by first | assumption | decide | omega)).trans ?_ | refine (new_ne (by simp only [set_1, new_1]; omega)).trans ?_ | fail))⟩⟩)
theorem ok_box (L : Nat) (xs : Nat → Int32) (t : Int32) : OK2 (Inv L xs) F_X11_box F_X12_box [.int t] := by
  rintro n M hn ⟨a1, a2, ⟨F, T, h14, h15, h83, h84, hv⟩, a4, kn, nl, nr, fe, ab, b1, b2, ⟨th, pm, bm, b3⟩, b4, b5, b6, b7⟩
  have h13 := a1.2.1
  refine wF_run ⟨rfl, Nat.le_of_ble_eq_true rfl, wS_retZ (wI_vI (wV_V (wR_A (wA_p (pA_fA (pA_lA rfl) b2.2.1 rfl) (wR_I (wI_p (pI_lI rfl) (wR_0 ⟨isR_of h13, ?_⟩)))))))⟩
  refine (sp_become h13 h14 h15).mono ?_
  rintro v M1 ⟨hA, hB⟩
  -- class's outcome: unchanged, or the box written
  have hcl : (∃ F' T', M1.2.2 14 = aI 0 3 F' ∧ M1.2.2 15 = aI 0 3 T' ∧ But [14, 15] M M1 ∧ (((bxR t = true ∨ bxC2 t = true) ∧ v = some (.int 0) ∧ F' = F ∧ T' = T) ∨ (bxR t = false ∧ bxC2 t = false ∧ v = some (.int 1) ∧ F' = upd (upd (upd F 0 (t / 1000000)) 1 (dg t 10000)) 2 (dg t 100) ∧ T' = upd (upd (upd T 0 (dg t 100000)) 1 (dg t 1000)) 2 (dg t 10)))) := by
    cases hr : bxC t with
    | true =>
      obtain ⟨rfl, rfl⟩ := hA hr
      exact ⟨F, T, h14, h15, But.rf, Or.inl ⟨Or.inl ((bx_eq t).symm.trans hr), rfl, rfl, rfl⟩⟩
    | false =>
      obtain ⟨g1, g2⟩ := hB hr
      cases hr2 : bxC2 t with
      | true =>
        obtain ⟨rfl, rfl⟩ := g1 hr2
        exact ⟨F, T, h14, h15, But.rf, Or.inl ⟨Or.inr rfl, rfl, rfl, rfl⟩⟩
      | false =>
        obtain ⟨rfl, g3, g4, g5⟩ := g2 hr2
        exact ⟨_, _, g4, g5, g3, Or.inr ⟨(bx_eq t).symm.trans hr, rfl, rfl, rfl, rfl⟩⟩
  obtain ⟨F', T', c14, c15, hbut, hcs⟩ := hcl
  have e69 : M1.2.2 69 = .inr (11, fsRv th kn nl nr pm fe bm) := (hbut.2.2 69 (by decide)).trans b3
  have fin : ∀ x : Int32, v = some (.int x) → (x = 0 ∨ x = 1) → ∃ y, v = some (.int y) ∧ (y = 0 ∨ y = 1) ∧ 3 = 3 ∧ ∃ z, some (Value.int y) = some (.int z) ∧ M1.2.2 0 = M.2.2 0 ∧ (∃ fs, M1.2.2 69 = .inr (11, fs)) ∧ wF F_X12_box [.ref 69, .int t] M1 fun w M2 => w = some (.int z) ∧ Inv L xs (n + 1) M2 := by
    rintro x rfl hx
    refine ⟨x, rfl, hx, rfl, x, rfl, hbut.2.2 0 (by decide), ⟨_, e69⟩, ?_⟩
    refine (sp_boxR e69 ((hbut.2.2 83 (by decide)).trans h83) ((hbut.2.2 84 (by decide)).trans h84)).mono ?_
    rintro w M2 ⟨hb2, d69, hD, hE⟩
    have sm : ∀ f : Nat → Bool, (∀ b ∈ [14, 15], f b = false) → (∀ b ∈ [69, 83, 84], f b = false) → Sm f M M2 := fun f h1 h2 => (sm_but hbut h1).tr (sm_but hb2 h2)
    have rest : w = some (.int x) ∧ M2.2.2 83 = aI 0 3 F' ∧ M2.2.2 84 = aI 0 3 T' ∧ ∀ i, i < 3 → 0 ≤ (F' i).toInt ∧ (F' i).toInt ≤ (T' i).toInt ∧ (T' i).toInt ≤ 9 := by
      rcases hcs with ⟨q, hx0, rfl, rfl⟩ | ⟨q1, q2, hx1, rfl, rfl⟩
      · cases hx0
        obtain ⟨k1, k2, k3⟩ := hD q
        exact ⟨k1, k2, k3, hv⟩
      · cases hx1
        obtain ⟨k1, k2, k3⟩ := hE q1 q2
        refine ⟨k1, k2, k3, ?_⟩
        have h0 : 0 ≤ t.toInt := bx_pos q1
        simp only [bxC2, oGt, Bool.or_eq_false_iff, decide_eq_false_iff_not, Int32.lt_iff_toInt_lt] at q2
        obtain ⟨⟨u1, u2⟩, u3⟩ := q2
        have w1 := dg_in (t := t) (a := 100000) (n := 100000) rfl (by decide) h0
        have w2 := dg_in (t := t) (a := 1000) (n := 1000) rfl (by decide) h0
        have w3 := dg_in (t := t) (a := 10) (n := 10) rfl (by decide) h0
        have w4 := dg_in (t := t) (a := 10000) (n := 10000) rfl (by decide) h0
        have w5 := dg_in (t := t) (a := 100) (n := 100) rfl (by decide) h0
        have w6 : 0 ≤ (t / 1000000).toInt := by rw [dvI (n := 1000000) rfl (by decide) h0]; exact Int.ediv_nonneg h0 (by decide)
        intro i hi
        rcases (show i = 0 ∨ i = 1 ∨ i = 2 by omega) with rfl | rfl | rfl
        · show 0 ≤ (t / 1000000).toInt ∧ (t / 1000000).toInt ≤ (dg t 100000).toInt ∧ (dg t 100000).toInt ≤ 9
          exact ⟨w6, by omega, w1.2⟩
        · show 0 ≤ (dg t 10000).toInt ∧ (dg t 10000).toInt ≤ (dg t 1000).toInt ∧ (dg t 1000).toInt ≤ 9
          exact ⟨w4.1, by omega, w2.2⟩
        · show 0 ≤ (dg t 100).toInt ∧ (dg t 100).toInt ≤ (dg t 10).toInt ∧ (dg t 10).toInt ≤ 9
          exact ⟨w5.1, by omega, w3.2⟩
    exact ⟨rest.1, a1.fr (sm _ (by decide) (by decide)), a2.fr (sm _ (by decide) (by decide)), ⟨F', T', (hb2.2.2 14 (by decide)).trans c14, (hb2.2.2 15 (by decide)).trans c15, rest.2.1, rest.2.2.1, rest.2.2.2⟩, a4.fr (sm _ (by decide) (by decide)), kn, nl, nr, fe, ab, b1.fr (sm _ (by decide) (by decide)), b2.fr (sm _ (by decide) (by decide)), ⟨0, pm, bm, d69⟩,
      GLy.fr (M := M) (Nat.le_of_eq (hb2.1.trans hbut.1).symm) (sm _ (by decide) (by decide)) (sm _ (by decide) (by decide)) b4, (hb2.1.trans hbut.1).trans b5, by rw [hb2.2.1, hbut.2.1]; exact b6, by omega⟩
  rcases hcs with ⟨-, e, -, -⟩ | ⟨-, -, e, -, -⟩
  · exact fin 0 e (Or.inl rfl)
  · exact fin 1 e (Or.inr rfl)
