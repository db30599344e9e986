/-! the reference's rows: met, made new, made alone; its changes -/
/-- the first place of its layer -/
def fst1 (s : SN) (k : Nat) : Bool := (nf s k).isSome && (List.range k).all fun j => !(decide (nf s j = nf s k))
section RI
variable {M : Mm} {s : SN} {th pm bm : Int32} {kn nl nr fe : Nat}
theorem fst1_iff {k l : Nat} (h : nf s k = some l) : fst1 s k = true ↔ ¬ ∃ j, j < k ∧ nf s j = some l := by
  unfold fst1
  rw [h]
  simp only [Option.isSome, Bool.true_and, List.all_eq_true, List.mem_range, Bool.not_eq_true', decide_eq_false_iff_not]
  exact ⟨fun q ⟨j, hj, e⟩ => q j hj e, fun q j hj e => q ⟨j, hj, e⟩⟩
theorem sp_meets (h69 : M.2.2 69 = .inr (11, fsRv th kn nl nr pm fe bm)) (hR : RRep M s) (h81 : ∃ f, M.2.2 81 = aI 1 1710 f) (h82 : ∃ f, M.2.2 82 = aI 1 170 f) : wF F_X12_meets [.ref 69] M fun v M' => v = some (.int (nI (cn 160 fun k => fst1 s k))) ∧ But [81, 82] M M' ∧ (∃ f, M'.2.2 82 = aI 1 170 f) ∧
    ∃ f, M'.2.2 81 = aI 1 1710 f ∧ ∀ r, r < 1710 → (f r = 0 ∨ f r = 1) ∧ (f r = 1 ↔ ∃ k x, k < 160 ∧ x < 10 ∧ rwo s k x = some r) := by
  obtain ⟨f0, h81⟩ := h81
  obtain ⟨g0, h82⟩ := h82
  obtain ⟨hd, a1, a2⟩ := hR.1
  obtain ⟨rw9, b1, b2⟩ := hR.2.1
  refine wF_b rfl (Nat.le_of_ble_eq_true rfl) ?_
  refine q_for 1710 (fun j L M1 => L = [some (.ref 69), some (.int (nI j)), none, none, none] ∧ But [81] M M1 ∧ ∃ f, M1.2.2 81 = aI 1 1710 f ∧ ∀ i, i < j → f i = 0) rfl (a := 0) rfl rfl (by decide) (by decide) ⟨rfl, But.rf, _, h81, fun i hi => absurd hi (Nat.not_lt_zero i)⟩ ?_ ?_ ?_
  · rintro j L M1 ⟨rfl, -⟩
    rfl
  · rintro j L M1 hj ⟨rfl, c1, f, c2, c3⟩
    refine l_pa (j := j) (pA_fA (k := 15) (pA_lA rfl) ((c1.2.2 _ (by decide)).trans h69) rfl) (pI_lI rfl) pI_cI c2 (by decide) hj (by decide) (Or.inr ⟨rfl, Or.inl rfl⟩) (Or.inr ⟨by decide, by decide, rfl, rfl, rfl, c1.set (by decide), _, get_at, fun i hi => ?_⟩)
    unfold upd
    by_cases e : i = j
    · rw [if_pos e]
    · rw [if_neg e]; exact c3 i (by omega)
  rintro L M1 ⟨rfl, c1, f1, c2, c3⟩
  refine q_for 170 (fun j L M2 => L = [some (.ref 69), some (.int (nI j)), none, none, none] ∧ But [82] M1 M2 ∧ ∃ f, M2.2.2 82 = aI 1 170 f ∧ ∀ i, i < j → f i = 0) rfl (a := 0) rfl rfl (by decide) (by decide) ⟨rfl, But.rf, _, (c1.2.2 _ (by decide)).trans h82, fun i hi => absurd hi (Nat.not_lt_zero i)⟩ ?_ ?_ ?_
  · rintro j L M1 ⟨rfl, -⟩
    rfl
  · rintro j L M2 hj ⟨rfl, d1, f, d2, d3⟩
    refine l_pa (j := j) (pA_fA (k := 16) (pA_lA rfl) ((d1.2.2 _ (by decide)).trans ((c1.2.2 _ (by decide)).trans h69)) rfl) (pI_lI rfl) pI_cI d2 (by decide) hj (by decide) (Or.inr ⟨rfl, Or.inl rfl⟩) (Or.inr ⟨by decide, by decide, rfl, rfl, rfl, d1.set (by decide), _, get_at, fun i hi => ?_⟩)
    unfold upd
    by_cases e : i = j
    · rw [if_pos e]
    · rw [if_neg e]; exact d3 i (by omega)
  rintro L M2 ⟨rfl, d1, g1, d2, d3⟩
  have hb2 : But [81, 82] M M2 := (c1.mono (by decide)).tr (d1.mono (by decide))
  refine q_I rfl pI_cI ?_
  refine q_for 160 (fun j L M3 => L = [some (.ref 69), some (.int (nI (cn j fun k => fst1 s k))), some (.int (nI j)), none, none] ∧ But [81, 82] M M3 ∧ (∃ g, M3.2.2 82 = aI 1 170 g ∧ ∀ l, l < 170 → (g l = 0 ∨ g l = 1) ∧ (g l = 1 ↔ ∃ k, k < j ∧ nf s k = some l)) ∧
    ∃ f, M3.2.2 81 = aI 1 1710 f ∧ ∀ r, r < 1710 → (f r = 0 ∨ f r = 1) ∧ (f r = 1 ↔ ∃ k x, k < j ∧ x < 10 ∧ rwo s k x = some r)) rfl (a := 0) rfl rfl (by decide) (by decide) ⟨rfl, hb2, ⟨g1, d2, fun l hl => ?_⟩, f1, (d1.2.2 _ (by decide)).trans c2, fun r hr => ?_⟩ ?_ ?_ ?_
  · rw [d3 l hl]
    exact ⟨Or.inl rfl, fun q => absurd q (by decide), fun ⟨k, hk, _⟩ => absurd hk (Nat.not_lt_zero k)⟩
  · rw [c3 r hr]
    exact ⟨Or.inl rfl, fun q => absurd q (by decide), fun ⟨k, x, hk, _⟩ => absurd hk (Nat.not_lt_zero k)⟩
  · rintro j L M1 ⟨rfl, -⟩
    rfl
  · rintro j L M3 hj ⟨rfl, e1, ⟨g, e2, e3⟩, f, e4, e5⟩
    have h693 : M3.2.2 69 = .inr (11, fsRv th kn nl nr pm fe bm) := (e1.2.2 _ (by decide)).trans h69
    have p1 := pI_gI (t := 0) (L := [some (.ref 69), some (.int (nI (cn j fun k => fst1 s k))), some (.int (nI j)), none, none]) (pA_fA (k := 7) (pA_lA (i := 0) rfl) h693 rfl) (pI_lI (i := 2) rfl) ((e1.2.2 75 (by decide)).trans a1) (inb_nI hj (by decide))
    rw [nI_clamp (by omega), (a2 j hj).1] at p1
    refine l_scp (q_I rfl p1 ?_)
    have lt31 : ∀ m, nf s j = some m → m < 2 ^ 31 := fun m hm => by have := (a2 j hj).2 m hm; omega
    cases hq : nf s j with
    | none =>
      have ef : fst1 s j = false := by unfold fst1; rw [hq]; rfl
      refine q_if (pC_orT (pC_eq (pC_kI (pI_lI rfl) pI_cI) rfl)) (fun _ => q_cnt (Or.inr ⟨by decide, by decide, rfl, rfl, ?_, e1, ⟨g, e2, fun l hl => ⟨(e3 l hl).1, ?_⟩⟩, f, e4, fun r hr => ⟨(e5 r hr).1, ?_⟩⟩)) (fun q => (by cases q))
      · rw [cn, ef]; rfl
      · rw [(e3 l hl).2]
        exact ⟨fun ⟨k, hk, e⟩ => ⟨k, by omega, e⟩, fun ⟨k, hk, e⟩ => by
          rcases (show k < j ∨ k = j by omega) with h | h
          · exact ⟨k, h, e⟩
          · rw [h, hq] at e; cases e⟩
      · rw [(e5 r hr).2]
        exact ⟨fun ⟨k, x, hk, e⟩ => ⟨k, x, by omega, e⟩, fun ⟨k, x, hk, hx, e⟩ => by
          rcases (show k < j ∨ k = j by omega) with h | h
          · exact ⟨k, x, h, hx, e⟩
          · rw [h, rwo_none hq] at e; cases e⟩
    | some l =>
      have hl170 := (a2 j hj).2 l hq
      have hl31 : l < 2 ^ 31 := by omega
      have p2 := pI_gI (t := 1) (L := [some (.ref 69), some (.int (nI (cn j fun k => fst1 s k))), some (.int (nI j)), some (.int (nI l)), none]) (pA_fA (k := 16) (pA_lA (i := 0) rfl) h693 rfl) (pI_lI (i := 3) rfl) e2 (inb_nI hl170 (by decide))
      rw [nI_clamp hl31] at p2
      have hne : oEq (nI l) (-1) = false := oI_some hl31
      refine q_if (v := decide (g l = 1)) (pC_eq (pC_or (pC_kI (pI_lI rfl) pI_cI) (pC_kI p2 pI_cI)) ?_) (fun hb => ?_) (fun hb => ?_)
      · show (oEq (nI l) (-1) || oNe (g l) 0) = _
        rw [hne, Bool.false_or]
        unfold oNe
        rw [decide_eq_decide]
        rcases (e3 l hl170).1 with q | q <;> rw [q] <;> decide
      · obtain ⟨i, hi, hi2⟩ := (e3 l hl170).2.mp (of_decide_eq_true hb)
        have ef : fst1 s j = false := by
          rw [Bool.eq_false_iff, ne_eq, fst1_iff hq]
          exact fun q => q ⟨i, hi, hi2⟩
        refine q_cnt (Or.inr ⟨by decide, by decide, rfl, rfl, ?_, e1, ⟨g, e2, fun m hm => ⟨(e3 m hm).1, ?_⟩⟩, f, e4, fun r hr => ⟨(e5 r hr).1, ?_⟩⟩)
        · rw [cn, ef]; rfl
        · rw [(e3 m hm).2]
          exact ⟨fun ⟨k, hk, e⟩ => ⟨k, by omega, e⟩, fun ⟨k, hk, e⟩ => by
            rcases (show k < j ∨ k = j by omega) with h | h
            · exact ⟨k, h, e⟩
            · rw [h, hq] at e; cases e; exact ⟨i, hi, hi2⟩⟩
        · rw [(e5 r hr).2]
          exact ⟨fun ⟨k, x, hk, e⟩ => ⟨k, x, by omega, e⟩, fun ⟨k, x, hk, hx, e⟩ => by
            rcases (show k < j ∨ k = j by omega) with h | h
            · exact ⟨k, x, h, hx, e⟩
            · rw [h, rwo_some hq] at e; exact ⟨i, x, hi, hx, by rw [rwo_some hi2]; exact e⟩⟩
      · have hb : ¬ g l = 1 := of_decide_eq_false hb
        have hno : ¬ ∃ i, i < j ∧ nf s i = some l := fun q => hb ((e3 l hl170).2.mpr q)
        have ef : fst1 s j = true := (fst1_iff hq).mpr hno
        refine q_pa (j := l) (pA_fA (k := 16) (pA_lA rfl) h693 rfl) (pI_lI rfl) pI_cI e2 (by decide) hl170 (by decide) (Or.inr ⟨rfl, Or.inr rfl⟩) (q_inc rfl rfl ?_)
        have e7 : nI (cn j fun k => fst1 s k) + 1 = nI (cn (j + 1) fun k => fst1 s k) := by
          rw [← cn_add, ef]; rfl
        rw [e7]
        refine l_for 10 (fun i L M4 => L = [some (.ref 69), some (.int (nI (cn (j + 1) fun k => fst1 s k))), some (.int (nI j)), some (.int (nI l)), some (.int (nI i))] ∧ But [81, 82] M M4 ∧ M4.2.2 82 = aI 1 170 (upd g l 1) ∧ ∃ f, M4.2.2 81 = aI 1 1710 f ∧ ∀ r, r < 1710 → (f r = 0 ∨ f r = 1) ∧ (f r = 1 ↔ (∃ k x, k < j ∧ x < 10 ∧ rwo s k x = some r) ∨ ∃ x, x < i ∧ ng s l x = some r)) rfl (a := 0) rfl rfl (by decide) (by decide) ⟨rfl, e1.set (by decide), get_at, f, (get_ne (by decide)).trans e4, fun r hr => ⟨(e5 r hr).1, ?_⟩⟩ ?_ ?_ ?_
        · rw [(e5 r hr).2]
          exact ⟨Or.inl, fun q => q.elim id fun ⟨x, hx, _⟩ => absurd hx (Nat.not_lt_zero x)⟩
        · rintro i L M4 ⟨rfl, -⟩
          rfl
        · rintro i L M4 hi ⟨rfl, k1, k2, f4, k3, k4⟩
          have h694 : M4.2.2 69 = .inr (11, fsRv th kn nl nr pm fe bm) := (k1.2.2 _ (by decide)).trans h69
          have hR4 : RRep M4 s := hR.fr fun b hb => k1.2.2 b fun q => by
            simp only [fRl, Bool.or_eq_true, Bool.and_eq_true, decide_eq_true_eq, beq_iff_eq] at hb
            simp only [List.mem_cons, List.not_mem_nil, or_false] at q
            omega
          have p3 := pI_rowOf (Lc := [some (.ref 69), some (.int (nI (cn (j + 1) fun k => fst1 s k))), some (.int (nI j)), some (.int (nI l)), some (.int (nI i))]) (i := 3) (j := 4) h694 hR4 hl170 hi rfl rfl rfl
          have hr3 := (b2 l i hl170 hi).2
          cases hg : ng s l i with
          | none =>
            rw [hg] at p3
            refine l_if (v := false) (pC_eq (pC_kI p3 pI_cI) rfl) (fun q => (by cases q)) (fun _ => wS_nop (Or.inr ⟨by decide, by decide, rfl, rfl, rfl, k1, k2, f4, k3, fun r hr => ⟨(k4 r hr).1, ?_⟩⟩))
            rw [(k4 r hr).2]
            refine or_congr_right ⟨fun ⟨x, hx, e⟩ => ⟨x, by omega, e⟩, fun ⟨x, hx, e⟩ => ⟨x, ?_, e⟩⟩
            rcases (show x < i ∨ x = i by omega) with h | h
            · exact h
            · rw [h, hg] at e; cases e
          | some r0 =>
            rw [hg] at p3
            have hr0 := hr3 r0 hg
            refine l_if (v := true) (pC_eq (pC_kI p3 pI_cI) (by rw [oNe_not, oI_some (by omega)]; rfl)) (fun _ => ?_) (fun q => (by cases q))
            refine l_pa (j := r0) (pA_fA (k := 15) (pA_lA rfl) h694 rfl) p3 pI_cI k3 (by decide) hr0 (by decide) (Or.inr ⟨rfl, Or.inr rfl⟩) (Or.inr ⟨by decide, by decide, rfl, rfl, rfl, k1.set (by decide), (get_ne (by decide)).trans k2, _, get_at, fun r hr => ?_⟩)
            unfold upd
            by_cases er : r = r0
            · rw [if_pos er]
              exact ⟨Or.inr rfl, fun _ => Or.inr ⟨i, by omega, by rw [hg, er]⟩, fun _ => rfl⟩
            · rw [if_neg er]
              refine ⟨(k4 r hr).1, (k4 r hr).2.trans (or_congr_right ⟨fun ⟨x, hx, e⟩ => ⟨x, by omega, e⟩, fun ⟨x, hx, e⟩ => ⟨x, ?_, e⟩⟩)⟩
              rcases (show x < i ∨ x = i by omega) with h | h
              · exact h
              · rw [h, hg] at e; exact absurd (Option.some.inj e).symm er
        · rintro L M4 ⟨rfl, k1, k2, f4, k3, k4⟩
          refine Or.inr ⟨by decide, by decide, rfl, rfl, rfl, k1, ⟨_, k2, fun m hm => ?_⟩, f4, k3, fun r hr => ⟨(k4 r hr).1, ?_⟩⟩
          · unfold upd
            by_cases em : m = l
            · rw [if_pos em]
              exact ⟨Or.inr rfl, fun _ => ⟨j, by omega, by rw [em]; exact hq⟩, fun _ => rfl⟩
            · rw [if_neg em]
              refine ⟨(e3 m hm).1, (e3 m hm).2.trans ⟨fun ⟨k, hk, e⟩ => ⟨k, by omega, e⟩, fun ⟨k, hk, e⟩ => ⟨k, ?_, e⟩⟩⟩
              rcases (show k < j ∨ k = j by omega) with h | h
              · exact h
              · rw [h, hq] at e; exact absurd (Option.some.inj e).symm em
          · rw [(k4 r hr).2]
            constructor
            · rintro (⟨k, x, hk, hx, e⟩ | ⟨x, hx, e⟩)
              · exact ⟨k, x, by omega, hx, e⟩
              · exact ⟨j, x, by omega, hx, by rw [rwo_some hq]; exact e⟩
            · rintro ⟨k, x, hk, hx, e⟩
              rcases (show k < j ∨ k = j by omega) with h | h
              · exact Or.inl ⟨k, x, h, hx, e⟩
              · rw [h, rwo_some hq] at e; exact Or.inr ⟨x, hx, e⟩
  · rintro L M3 ⟨rfl, e1, ⟨g, e2, e3⟩, f, e4, e5⟩
    exact l_ret (pI_lI rfl) ⟨rfl, rfl, e1, ⟨g, e2⟩, f, e4, e5⟩
theorem sp_newRow (h69 : M.2.2 69 = .inr (11, fsRv th kn nl nr pm fe bm)) (hR : RRep M s) (h81 : ∃ f, M.2.2 81 = aI 1 1710 f) (h82 : ∃ f, M.2.2 82 = aI 1 170 f) : wF F_X12_newRow [.ref 69] M fun v M' => ∃ r, v = some (.int (nI r)) ∧ r < 1710 ∧ (∀ k x, k < 160 → x < 10 → rwo s k x ≠ some r) ∧ But [69, 81, 82] M M' ∧ M'.2.2 69 = .inr (11, fsRv th kn nl (nr + 1) pm fe bm) ∧
    (∃ f, M'.2.2 81 = aI 1 1710 f) ∧ ∃ f, M'.2.2 82 = aI 1 170 f := by
  refine wF_b rfl (Nat.le_of_ble_eq_true rfl) (q_Iw rfl (wI_vVw (pR_A (pA_lA rfl) pR_0) h69 ((sp_meets h69 hR h81 h82).mono ?_)))
  rintro v M1 ⟨rfl, c1, c2, f, c3, c4⟩
  refine ⟨_, rfl, q_I rfl pI_cI (wS_seq ?_)⟩
  have h691 : M1.2.2 69 = .inr (11, fsRv th kn nl nr pm fe bm) := (c1.2.2 _ (by decide)).trans h69
  refine wS_wh (I := fun m L M2 => ∃ r, L = [some (.ref 69), some (.int (nI (cn 160 fun k => fst1 s k))), some (.int (nI r))] ∧ M2 = M1 ∧ m + r = 1601 ∧ ∀ i, i < r → ∃ k x, k < 160 ∧ x < 10 ∧ rwo s k x = some i) ?_ 1601 _ _ ⟨0, rfl, rfl, rfl, fun i hi => absurd hi (Nat.not_lt_zero i)⟩ (by decide)
  rintro m L M2 ⟨r, rfl, rfl, hm, hall⟩
  have hr := rows_few hall
  have p1 := pI_gI (t := 1) (L := [some (.ref 69), some (.int (nI (cn 160 fun k => fst1 s k))), some (.int (nI r))]) (pA_fA (k := 15) (pA_lA (i := 0) rfl) h691 rfl) (pI_lI (i := 2) rfl) c3 (inb_nI (j := r) (by omega) (by decide))
  rw [nI_clamp (by omega)] at p1
  obtain ⟨k1, k2⟩ := c4 r (by omega)
  refine wC_p (v := decide (f r = 1)) (pC_eq (pC_kI p1 pI_cI) ?_) ⟨fun hb => ?_, fun hb => ?_⟩
  · unfold oNe
    rw [decide_eq_decide]
    rcases k1 with q | q <;> rw [q] <;> decide
  · have hb : ¬ f r = 1 := of_decide_eq_false hb
    refine ⟨fun _ => q_up (pA_lA rfl) pI_cI h691 rfl (Nat.le_of_ble_eq_true rfl) (l_ret (pI_lI rfl) ⟨rfl, r, rfl, by omega, fun k x hk hx q => hb (k2.mpr ⟨k, x, hk, hx, q⟩), (c1.mono (by decide)).set (by decide), ?_, ⟨f, (get_ne (by decide)).trans c3⟩, ?_⟩), fun q => absurd rfl q⟩
    · rw [get_at, nI_1]; rfl
    · obtain ⟨g, hg⟩ := c2
      exact ⟨g, (get_ne (by decide)).trans hg⟩
  · have hb : f r = 1 := of_decide_eq_true hb
    have hall2 : ∀ i, i < r + 1 → ∃ k x, k < 160 ∧ x < 10 ∧ rwo s k x = some i := fun i hi => by
      by_cases e : i = r
      · rw [e]; exact k2.mp hb
      · exact hall i (by omega)
    have := rows_few hall2
    refine wS_inc rfl rfl ⟨fun q => absurd q (by decide), fun q => absurd q (by decide), fun _ _ => wS_nop ⟨rfl, m - 1, by omega, r + 1, ?_, rfl, by omega, hall2⟩⟩
    rw [← nI_1]; rfl
end RI
