/-! LawGoal out of: an invariant that holds at first, that each pair of methods keeps, while they agree -/
section SW
variable {L : Lv} {M : Mm}
theorem wS_sw {e : DI} {lo : Int} {cs : List DS} {d : DS} {Q : Lv → Mm → Nat → Option Value → Prop} (h : wI e L M fun _ M1 => ∀ S, (S = d ∨ S ∈ cs) → wS S L M1 fun L2 M2 c v => (c = 1 → Q L2 M2 0 none) ∧ (¬ c = 1 → Q L2 M2 c v)) : wS (swS e lo cs d) L M Q := by
  obtain ⟨x, M1, h1, h2⟩ := h
  have hin : ∀ S, S = (if x.toInt < lo then d else (cs[(x.toInt - lo).toNat]?).getD d) → (S = d ∨ S ∈ cs) := by
    rintro S rfl
    split
    · exact Or.inl rfl
    · cases hq : cs[(x.toInt - lo).toNat]? with
      | none => exact Or.inl rfl
      | some S => exact Or.inr (List.mem_of_getElem? hq)
  obtain ⟨L2, M2, c, v, h3, h4, h5⟩ := h2 _ (hin _ rfl)
  by_cases e1 : c = 1
  · refine ⟨L2, M2, 0, none, ?_, h4 e1⟩
    simp only [swS, h1, Option.bind_some, h3, Option.map_some]
    rw [if_pos e1]
  · refine ⟨L2, M2, c, v, ?_, h5 e1⟩
    simp only [swS, h1, Option.bind_some, h3, Option.map_some]
    rw [if_neg e1]
end SW
theorem C0.low {M M' : Mm} (h : ∀ b, b < 69 → M'.2.2 b = M.2.2 b) (c : C0 M) : C0 M' := by
  obtain ⟨c1, c2, c3, c4, c5, c6, c7, c8, c9, c10, c11, c12, c13, c14, c15, c16, c17, c18, c19, c20, c21, c22, c23, c24, c25, c26, c27, c28, c29, c30, c31⟩ := c
  exact ⟨(h _ (by decide)).trans c1, (h _ (by decide)).trans c2, (h _ (by decide)).trans c3, fun i hi => (h _ (by omega)).trans (c4 i hi), (h _ (by decide)).trans c5, (h _ (by decide)).trans c6, (h _ (by decide)).trans c7, (h _ (by decide)).trans c8, (h _ (by decide)).trans c9,
    fun i hi => ⟨(h _ (by omega)).trans (c10 i hi).1, (h _ (by omega)).trans (c10 i hi).2⟩, (h _ (by decide)).trans c11, fun i hi => ⟨(h _ (by omega)).trans (c12 i hi).1, (h _ (by omega)).trans (c12 i hi).2⟩, (h _ (by decide)).trans c13, (h _ (by decide)).trans c14, (h _ (by decide)).trans c15, (h _ (by decide)).trans c16,
    (h _ (by decide)).trans c17, (h _ (by decide)).trans c18, (h _ (by decide)).trans c19, (h _ (by decide)).trans c20, (h _ (by decide)).trans c21, (h _ (by decide)).trans c22, (h _ (by decide)).trans c23, (h _ (by decide)).trans c24, (h _ (by decide)).trans c25, (h _ (by decide)).trans c26, (h _ (by decide)).trans c27,
    (h _ (by decide)).trans c28, (h _ (by decide)).trans c29, (h _ (by decide)).trans c30, (h _ (by decide)).trans c31⟩
theorem R0.mv {M M' : Mm} (h : ∀ b, 69 ≤ b → b < 96 → M'.2.2 b = M.2.2 b) (c : R0 M) : R0 M' := by
  obtain ⟨c1, c2, c3, c4, c5, c6, c7, c8, c9, c10, c11, c12, c13, c14, c15, c16, c17, c18, c19, c20, c21, c22, c23, c24, c25, c26, c27⟩ := c
  exact ⟨(h _ (by decide) (by decide)).trans c1, (h _ (by decide) (by decide)).trans c2, (h _ (by decide) (by decide)).trans c3, (h _ (by decide) (by decide)).trans c4, (h _ (by decide) (by decide)).trans c5, (h _ (by decide) (by decide)).trans c6, (h _ (by decide) (by decide)).trans c7, (h _ (by decide) (by decide)).trans c8, (h _ (by decide) (by decide)).trans c9,
    (h _ (by decide) (by decide)).trans c10, (h _ (by decide) (by decide)).trans c11, (h _ (by decide) (by decide)).trans c12, (h _ (by decide) (by decide)).trans c13, (h _ (by decide) (by decide)).trans c14, (h _ (by decide) (by decide)).trans c15, (h _ (by decide) (by decide)).trans c16, (h _ (by decide) (by decide)).trans c17, (h _ (by decide) (by decide)).trans c18,
    (h _ (by decide) (by decide)).trans c19, (h _ (by decide) (by decide)).trans c20, (h _ (by decide) (by decide)).trans c21, (h _ (by decide) (by decide)).trans c22, (h _ (by decide) (by decide)).trans c23, (h _ (by decide) (by decide)).trans c24, (h _ (by decide) (by decide)).trans c25, (h _ (by decide) (by decide)).trans c26, (h _ (by decide) (by decide)).trans c27⟩
/-- the start: before the first call -/
def St0 (L : Nat) (xs : Nat → Int32) (M : Mm) : Prop := M.1 = 97 ∧ M.2.1 = 60520 ∧ (∀ b, b < 5 → M.2.2 b = (iM L xs).2.2 b) ∧ C0 M ∧ R0 M ∧ M.2.2 96 = aJ 1 fun _ => 0
theorem law_goal_of (Inv : Nat → (Nat → Int32) → Nat → Mm → Prop) (hB : ∀ L xs, Base L xs (Inv L xs)) (hmono : ∀ L xs n M, Inv L xs n M → Inv L xs (n + 1) M) (hA : ∀ L xs, AllOK (Inv L xs)) (h0 : ∀ L xs M, St0 L xs M → Inv L xs 0 M) : LawGoal := by
  intro L xs hL
  have key : wS B_L_law (mkL 7 [.ref 0]) (iM L xs) fun _ M' c v => c = 3 ∧ v = some (.int 1) ∧ M'.1 ≤ 5 + 601024 ∧ M'.2.1 ≤ 7293033 := by
    refine wS_seq (wS_setA (wA_newO (wR_0 ?_)))
    refine (init_class (M := newC (iM L xs) 14 (.inr (10, D_X11))) rfl (new_at (M := iM L xs))).mono ?_
    rintro v M1 ⟨rfl, e1, e2, hC, hlow⟩
    refine ⟨rfl, fun _ => ?_, fun q => absurd rfl q⟩
    refine wS_seq (wS_setA (wA_newO (wR_0 ?_)))
    rw [e1]
    have n1 : (newC M1 33 (.inr (11, D_X12))).2.2 69 = .inr (11, D_X12) := by
      rw [← e1]
      exact new_at
    refine (init_ref (M := newC M1 33 (.inr (11, D_X12))) (by rw [new_1, e1]) n1).mono ?_
    rintro v M2 ⟨rfl, e3, e4, hR, hlow2⟩
    refine ⟨rfl, fun _ => ?_, fun q => absurd rfl q⟩
    refine wS_seq (wS_setA (wA_newJ (wI_cI ⟨by decide, ?_⟩)))
    rw [e3]
    refine ⟨fun _ => ?_, fun q => absurd rfl q⟩
    have l1 : ∀ b, b < 69 → M2.2.2 b = M1.2.2 b := fun b hb => (hlow2 b hb).trans (new_ne (by omega))
    have hs : St0 L xs (newC M2 1 (aJ 1 fun _ => 0)) := by
      refine ⟨by rw [new_1, e3], ?_, fun b hb => ?_, ?_, ?_, ?_⟩
      · have z0 : (iM L xs).2.1 = 0 := rfl
        have z1 : (newC (iM L xs) 14 (.inr (10, D_X11))).2.1 = (iM L xs).2.1 + 14 := rfl
        have z2 : (newC M1 33 (.inr (11, D_X12))).2.1 = M1.2.1 + 33 := rfl
        have z3 : (newC M2 1 (aJ 1 fun _ => 0)).2.1 = M2.2.1 + 1 := rfl
        rw [z3, e4, z2, e2, z1, z0]
      · rw [new_ne (by omega), l1 b (by omega), hlow b hb, new_ne (by show b ≠ 5; omega)]
      · exact (hC.low l1).low fun b hb => new_ne (by omega)
      · exact hR.mv fun b h1 h2 => new_ne (by omega)
      · rw [← e3]
        exact new_at
    have hI := h0 L xs _ hs
    refine wS_seq (wS_scp (wS_seq (wS_setI (wI_cI ⟨fun _ => ?_, fun q => absurd rfl q⟩))))
    refine wS_wh (I := fun m L' M => ∃ k, L' = lwL (6 * k) ∧ 6 * k ≤ L ∧ m + k = 512 ∧ Inv L xs k M) ?_ 512 _ _ ⟨0, rfl, Nat.zero_le _, rfl, hI⟩ (by decide)
    rintro m L' M ⟨k, rfl, hk, hm, hI⟩
    obtain ⟨b0, -, -, b3, b4⟩ := hB L xs k M hI
    refine wC_kI (wI_lI rfl rfl (wI_sub (wI_nA (wA_lA rfl rfl ⟨0, L, rfl, lenA_of b0 (by decide), wI_cI ⟨fun hr => ?_, fun hr => ?_⟩⟩))))
    · refine ⟨fun _ => wS_retZ (wI_cI ⟨Or.inr rfl, rfl, rfl, ?_, ?_⟩), fun q => absurd rfl q⟩
      · omega
      · omega
    · have hlt : 6 * k + 6 ≤ L := by
        have hr : nI (6 * k) ≤ nI L - 6 := by simpa [oLe] using hr
        rw [Int32.le_iff_toInt_le, nI_toInt (by omega)] at hr
        have e : (nI L - 6).toInt = (L : Int) - 6 := by
          rw [Int32.toInt_sub, nI_toInt (by omega)]
          show ((L : Int) - 6).bmod (2 ^ 32) = _
          rw [Int.bmod_eq_of_le (by omega) (by omega)]
        omega
      refine wS_sw (wI_and (wI_gI (wA_lA rfl rfl ⟨0, rfl, wI_lI rfl rfl ⟨_, rdI_of b0 (inb_nI (by omega) (by omega)), wI_cI fun S hS => ?_⟩⟩)))
      have hcase : CaseOK L xs (Inv L xs) S := by
        rcases hS with rfl | hS
        · exact fun n M i hi _ hI => wS_brk ⟨rfl, rfl, hmono L xs n M hI⟩
        · exact all_cases (hB L xs) hL (hA L xs) S hS
      refine (hcase k M (6 * k) hlt (by omega) hI).mono ?_
      rintro L2 M2 c v ⟨rfl, rfl, hI2⟩
      refine ⟨fun _ => ⟨fun q => absurd q (by decide), fun q => absurd q (by decide), fun _ _ => wS_inc rfl rfl ⟨rfl, m - 1, by omega, k + 1, ?_, by omega, by omega, hI2⟩⟩, fun q => absurd rfl q⟩
      show [_, _, _, _, some (Value.int (nI (6 * k) + 6)), _, _] = _
      rw [show nI (6 * k) + 6 = nI (6 * (k + 1)) from (nI_add (6 * k) 6).trans (congrArg nI (by omega))]
  obtain ⟨L', M', c, v, h1, rfl, rfl, h4, h5⟩ := key
  exact ⟨L', M', h1, h4, h5⟩
