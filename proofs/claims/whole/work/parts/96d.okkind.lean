theorem sm_but {f : Nat → Bool} {S : List Nat} {M M' : Mm} (h : But S M M') (hs : ∀ b ∈ S, f b = false) : Sm f M M' := fun b hb => h.2.2 b (fun q => by rw [hs b q] at hb; cases hb)
theorem Sm.tr {f : Nat → Bool} {M M1 M2 : Mm} (h : Sm f M M1) (g : Sm f M1 M2) : Sm f M M2 := fun b hb => (g b hb).trans (h b hb)
theorem ok_kind (L : Nat) (xs : Nat → Int32) (w s l o b : Int32) (hb : b = 0 ∨ b = 1) : OK2 (Inv L xs) F_X11_kind F_X12_kind [.int w, .int s, .int l, .int o, .int b] := by
  rintro n M hn ⟨a1, a2, a3, a4, kn, nl, nr, fe, ab, ⟨hk, h7, W, S, Lg, O, H, h8, h9, h10, h11, h12, g0, g1, g2, g3, g4, hv⟩, b2, ⟨th, pm, bm, b3⟩, b4, b5, b6, b7⟩
  refine wF_run ⟨rfl, Nat.le_of_ble_eq_true rfl, wS_retI (wI_vI (wV_V (wR_A (wA_p (pA_fA (pA_lA rfl) b2.2.1 rfl) (wR_I (wI_p (pI_lI rfl) (wR_I (wI_p (pI_lI rfl) (wR_I (wI_p (pI_lI rfl) (wR_I (wI_p (pI_lI rfl) (wR_I (wI_p (pI_lI rfl) (wR_0 ⟨isR_of h7, ?_⟩)))))))))))))))⟩
  refine (sp_add hk h7 h8 h9 h10 h11 h12 hb).mono ?_
  rintro v M1 ⟨hA, hB⟩
  cases hr : refC (nI kn) w s l o with
  | true =>
    obtain ⟨rfl, rfl⟩ := hA hr
    refine ⟨-1, rfl, rfl, -1, rfl, rfl, ⟨_, b3⟩, ?_⟩
    refine (sp_kindR hk b3 g0 g1 g2 g3 g4 hb).mono ?_
    rintro u M2 ⟨hC, -⟩
    obtain ⟨rfl, rfl⟩ := hC ((ref_eq hk w s l o).symm.trans hr)
    exact ⟨rfl, a1.fr (sm_set rfl), a2.fr (sm_set rfl), a3.fr (sm_set rfl), a4.fr (sm_set rfl), kn, nl, nr, fe, ab, GKi.fr (sm_set rfl) ⟨hk, h7, W, S, Lg, O, H, h8, h9, h10, h11, h12, g0, g1, g2, g3, g4, hv⟩, b2.fr (sm_set rfl), ⟨0, pm, bm, get_at⟩, GLy.fr (M := M1) (Nat.le_refl M1.1) (sm_set rfl) (sm_set rfl) b4, b5, b6, by omega⟩
  | false =>
    obtain ⟨rfl, hlt, hbut, c7, c8, c9, c10, c11, c12⟩ := hB hr
    have e69 : M1.2.2 69 = .inr (11, fsRv th kn nl nr pm fe bm) := (hbut.2.2 69 (by decide)).trans b3
    refine ⟨nI (kn + 1), rfl, rfl, nI (kn + 1), rfl, hbut.2.2 0 (by decide), ⟨_, e69⟩, ?_⟩
    refine (sp_kindR hk e69 ((hbut.2.2 70 (by decide)).trans g0) ((hbut.2.2 71 (by decide)).trans g1) ((hbut.2.2 72 (by decide)).trans g2) ((hbut.2.2 73 (by decide)).trans g3) ((hbut.2.2 74 (by decide)).trans g4) hb).mono ?_
    rintro u M2 ⟨-, hC⟩
    obtain ⟨rfl, hbut2, d69, d0, d1, d2, d3, d4⟩ := hC ((ref_eq hk w s l o).symm.trans hr)
    have sm : ∀ f : Nat → Bool, (∀ b ∈ [7, 8, 9, 10, 11, 12], f b = false) → (∀ b ∈ [69, 70, 71, 72, 73, 74], f b = false) → Sm f M M2 := fun f h1 h2 => (sm_but hbut h1).tr (sm_but hbut2 h2)
    have low : ∀ b, b ∉ [69, 70, 71, 72, 73, 74] → M2.2.2 b = M1.2.2 b := hbut2.2.2
    have hfull : ¬ refR (nI kn) w s l o = true := by
      rw [← ref_eq hk, hr]
      decide
    refine ⟨rfl, a1.fr (sm _ (by decide) (by decide)), a2.fr (sm _ (by decide) (by decide)), a3.fr (sm _ (by decide) (by decide)), a4.fr (sm _ (by decide) (by decide)), kn + 1, nl, nr, fe, ab, ⟨by omega, (low 7 (by decide)).trans c7, _, _, _, _, _, (low 8 (by decide)).trans c8, (low 9 (by decide)).trans c9, (low 10 (by decide)).trans c10, (low 11 (by decide)).trans c11, (low 12 (by decide)).trans c12, d0, d1, d2, d3, d4, fun k h1 h2 => ?_⟩,
      b2.fr (sm _ (by decide) (by decide)), ⟨0, pm, bm, d69⟩, GLy.fr (M := M) (Nat.le_of_eq (hbut2.1.trans hbut.1).symm) (sm _ (by decide) (by decide)) (sm _ (by decide) (by decide)) b4, (hbut2.1.trans hbut.1).trans b5, by rw [hbut2.2.1, hbut.2.1]; exact b6, by omega⟩
    by_cases e : k = kn + 1
    · subst e
      simp only [upd, if_true]
      have hf2 : refR (nI kn) w s l o = false := by cases hq : refR (nI kn) w s l o with
        | true => exact absurd hq hfull
        | false => rfl
      simp only [refR, bz_ne, isIn, Bool.or_eq_false_iff, Bool.not_eq_false', Bool.and_eq_true, decide_eq_true_eq, Int32.le_iff_toInt_le] at hf2
      obtain ⟨⟨⟨⟨-, q1⟩, q2⟩, q3⟩, q4⟩ := hf2
      exact ⟨q1.1, q1.2, q2.1, q2.2, q3.1, q3.2, q4.1, q4.2, hb⟩
    · simp only [upd, if_neg e]
      exact hv k h1 (by omega)
