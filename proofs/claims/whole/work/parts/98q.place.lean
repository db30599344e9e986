/-! places and place: the class's side -/
section FV
variable {Lc : Lv} {M : Mm} {Q : Lv → Mm → Nat → Option Value → Prop}
abbrev bdV (i s j : Nat) (f : Nat → Int32) (J : Nat → Lv → Mm → Prop) (Q : Lv → Mm → Nat → Option Value → Prop) : Lv → Mm → Nat → Option Value → Prop := fun L2 M2 c v => (c = 3 ∧ Q (clr s L2) M2 3 v) ∨ (¬ c = 3 ∧ ¬ c = 1 ∧ lkp L2 i = some (.int (f j)) ∧ kil i L2 = L2 ∧ J (j + 1) (L2.set i (some (.int (f (j + 1))))) M2)
/-- a loop over a variable that goes f lo, f (lo + 1), … while a condition says that it is below N -/
theorem l_forV {i s a : Nat} {e0 : DI} {c : DC} {body : DS} (f : Nat → Int32) (hf : ∀ j, f j + 1 = f (j + 1)) (N : Nat) (J : Nat → Lv → Mm → Prop) (hk : kil i Lc = Lc) (ha : pI e0 Lc M (f a)) (hN : N < big) (haN : a ≤ N) (h0 : J a (Lc.set i (some (.int (f a)))) M) (hc : ∀ j L M, j ≤ N → J j L M → pC c L M (decide (j < N)))
    (hb : ∀ j L M, j < N → J j L M → wS body L M (bdV i s j f J Q)) (he : ∀ L M, J N L M → Q (clr s L) M 0 none) : wS (scp s (seqS (setI i e0) (whS c body (incI i 1)))) Lc M Q := by
  refine l_scp (q_I hk ha ?_)
  refine wS_wh (I := fun m L M => ∃ j, m + j = N ∧ J j L M) ?_ (N - a) _ M ⟨a, by omega, h0⟩ (by omega)
  rintro m L M ⟨j, hm, hJ⟩
  refine wC_p (hc j L M (by omega) hJ) ⟨fun hr => ?_, fun hr => ?_⟩
  · have e : j = N := by have := of_decide_eq_false hr; omega
    subst e
    exact he _ _ hJ
  · have hl : j < N := of_decide_eq_true hr
    refine (hb j L M hl hJ).mono fun L2 M2 c v h => ?_
    rcases h with ⟨rfl, h⟩ | ⟨h3, h1, h4, h5, h6⟩
    · exact ⟨fun q => absurd q (by decide), fun _ => h, fun _ q => absurd rfl q⟩
    · refine ⟨fun q => absurd q h1, fun q => absurd q h3, fun _ _ => wS_inc h4 rfl ⟨rfl, m - 1, by omega, j + 1, by omega, ?_⟩⟩
      unfold stL
      rw [h5, hf]
      exact h6
theorem q_forV {i s a : Nat} {e0 : DI} {c : DC} {body b : DS} (f : Nat → Int32) (hf : ∀ j, f j + 1 = f (j + 1)) (N : Nat) (J : Nat → Lv → Mm → Prop) (hk : kil i Lc = Lc) (ha : pI e0 Lc M (f a)) (hN : N < big) (haN : a ≤ N) (h0 : J a (Lc.set i (some (.int (f a)))) M) (hc : ∀ j L M, j ≤ N → J j L M → pC c L M (decide (j < N)))
    (hb : ∀ j L M, j < N → J j L M → wS body L M (bdV i s j f J Q)) (he : ∀ L M, J N L M → wS b (clr s L) M Q) : wS (seqS (scp s (seqS (setI i e0) (whS c body (incI i 1)))) b) Lc M Q :=
  wS_seq (l_forV f hf N J hk ha hN haN h0 hc (fun j L M hj hJ => (hb j L M hj hJ).mono fun L2 M2 c v h => h.imp (fun q => ⟨q.1, fun q => absurd q (by decide), fun _ => q.2⟩) id) (fun L M hJ => ⟨fun _ => he L M hJ, fun q => absurd rfl q⟩))
end FV
def m9 (p : Nat) : Int32 := nI p - 9
theorem m9_succ (j : Nat) : m9 j + 1 = m9 (j + 1) := by
  unfold m9
  rw [← nI_1, Int32.sub_eq_add_neg, Int32.sub_eq_add_neg, Int32.add_assoc, Int32.add_assoc, Int32.add_comm 1]
theorem m9_int {p : Nat} (h : p < 1000) : (m9 p).toInt = (p : Int) - 9 := by
  unfold m9
  rw [Int32.toInt_sub, nI_toInt (by omega)]
  exact Int.bmod_eq_of_le (by show _ ≤ (p : Int) - 9; omega) (by show (p : Int) - 9 < _; omega)
theorem m9_le {p q : Nat} (hp : p < 1000) (hq : q < 1000) : oLe (m9 p) (m9 q) = decide (p < q + 1) := by
  unfold oLe
  rw [decide_eq_decide, Int32.le_iff_toInt_le, m9_int hp, m9_int hq]
  omega
theorem m9_of {x : Int32} {p : Nat} (hp : p < 1000) (h : x.toInt = (p : Int) - 9) : x = m9 p := Int32.toInt_inj.mp (h.trans (m9_int hp).symm)
section PC
variable {L : Nat} {xs : Nat → Int32} {M : Mm} {a : AS}
theorem sp_least {q k : Nat} {g : Nat → Int32} {bs : List Nat} (h : GrC M q g bs) (hl : bs.length ≤ 1000) (hb : ∀ c ∈ bs, c < 1000) (hk : k < 3) : ∃ m, m ≤ 9 ∧ F_X1_least [.ref q, .int (nI k)] M = some (some (.int (nI m)), M) ∧ (∀ c ∈ bs, m ≤ c / stN k % 10) ∧ (m = 9 ∨ ∃ c ∈ bs, c / stN k % 10 = m) := by
  suffices hs : wF F_X1_least [.ref q, .int (nI k)] M fun v M' => M' = M ∧ ∃ m, m ≤ 9 ∧ v = some (.int (nI m)) ∧ (∀ c ∈ bs, m ≤ c / stN k % 10) ∧ (m = 9 ∨ ∃ c ∈ bs, c / stN k % 10 = m) by
    obtain ⟨v, M', e, rfl, m, h1, rfl, h2⟩ := hs
    exact ⟨m, h1, e, h2⟩
  have hbig : big = 1000000 := rfl
  refine wF_b rfl (Nat.le_of_ble_eq_true rfl) (q_I rfl pI_cI ?_)
  refine q_forC bs.length (fun j L' M2 => ∃ m, m ≤ 9 ∧ L' = [some (.ref q), some (.int (nI k)), some (.int (nI m)), some (.int (nI j))] ∧ M2 = M ∧ (∀ i, i < j → m ≤ bs.getD i 0 / stN k % 10) ∧ (m = 9 ∨ ∃ c ∈ bs, c / stN k % 10 = m)) rfl (a := 0) pI_cI (by omega) (Nat.zero_le _) ⟨9, Nat.le_refl _, rfl, rfl, fun i hi => absurd hi (Nat.not_lt_zero i), Or.inl rfl⟩ ?_ ?_ ?_
  · rintro j L' M2 hj ⟨m, hm, rfl, rfl, -⟩
    exact pC_eq (pC_kI (pI_lI rfl) (pI_fI (pA_lA rfl) h.1 rfl)) (oLt_nI (by omega) (by omega))
  · rintro j L' M2 hj ⟨m, hm, rfl, rfl, h2, h3⟩
    have hc := hb _ (getD_mem hj)
    refine l_I rfl (pI_min (pI_lI rfl) (pI_vS (pR_I (pI_lI rfl) (pR_I (h.ls hl rfl rfl hj) pR_0)) (sp_along hc hk M2))) (Or.inr ⟨by decide, by decide, rfl, rfl, if bs.getD j 0 / stN k % 10 < m then bs.getD j 0 / stN k % 10 else m, ?_, ?_, rfl, ?_, ?_⟩)
    · split <;> omega
    · have : (if nI (bs.getD j 0 / stN k % 10) < nI m then nI (bs.getD j 0 / stN k % 10) else nI m) = nI (if bs.getD j 0 / stN k % 10 < m then bs.getD j 0 / stN k % 10 else m) := by
        by_cases e : bs.getD j 0 / stN k % 10 < m
        · rw [if_pos e, if_pos (of_decide_eq_true ((oLt_nI (a := bs.getD j 0 / stN k % 10) (b := m) (by omega) (by omega)).trans (decide_eq_true e)))]
        · rw [if_neg e, if_neg (of_decide_eq_false ((oLt_nI (a := bs.getD j 0 / stN k % 10) (b := m) (by omega) (by omega)).trans (decide_eq_false e)))]
      rw [this]
      rfl
    · intro i hi
      by_cases e : i = j
      · rw [e]; split <;> omega
      · have := h2 i (by omega)
        split <;> omega
    · split
      · exact Or.inr ⟨_, getD_mem hj, rfl⟩
      · exact h3
  · rintro L' M2 ⟨m, hm, rfl, rfl, h2, h3⟩
    refine l_ret (pI_lI rfl) ⟨rfl, rfl, m, hm, rfl, fun c hc => ?_, h3⟩
    obtain ⟨i, hi, rfl⟩ := List.getElem_of_mem hc
    have := h2 i hi
    rw [List.getD_eq_getElem?_getD, List.getElem?_eq_getElem hi] at this
    exact this
theorem sp_most {q k : Nat} {g : Nat → Int32} {bs : List Nat} (h : GrC M q g bs) (hl : bs.length ≤ 1000) (hb : ∀ c ∈ bs, c < 1000) (hk : k < 3) : ∃ m, m ≤ 9 ∧ F_X1_most [.ref q, .int (nI k)] M = some (some (.int (nI m)), M) ∧ (∀ c ∈ bs, c / stN k % 10 ≤ m) ∧ (m = 0 ∨ ∃ c ∈ bs, c / stN k % 10 = m) := by
  suffices hs : wF F_X1_most [.ref q, .int (nI k)] M fun v M' => M' = M ∧ ∃ m, m ≤ 9 ∧ v = some (.int (nI m)) ∧ (∀ c ∈ bs, c / stN k % 10 ≤ m) ∧ (m = 0 ∨ ∃ c ∈ bs, c / stN k % 10 = m) by
    obtain ⟨v, M', e, rfl, m, h1, rfl, h2⟩ := hs
    exact ⟨m, h1, e, h2⟩
  have hbig : big = 1000000 := rfl
  refine wF_b rfl (Nat.le_of_ble_eq_true rfl) (q_I rfl pI_cI ?_)
  refine q_forC bs.length (fun j L' M2 => ∃ m, m ≤ 9 ∧ L' = [some (.ref q), some (.int (nI k)), some (.int (nI m)), some (.int (nI j))] ∧ M2 = M ∧ (∀ i, i < j → bs.getD i 0 / stN k % 10 ≤ m) ∧ (m = 0 ∨ ∃ c ∈ bs, c / stN k % 10 = m)) rfl (a := 0) pI_cI (by omega) (Nat.zero_le _) ⟨0, Nat.zero_le _, rfl, rfl, fun i hi => absurd hi (Nat.not_lt_zero i), Or.inl rfl⟩ ?_ ?_ ?_
  · rintro j L' M2 hj ⟨m, hm, rfl, rfl, -⟩
    exact pC_eq (pC_kI (pI_lI rfl) (pI_fI (pA_lA rfl) h.1 rfl)) (oLt_nI (by omega) (by omega))
  · rintro j L' M2 hj ⟨m, hm, rfl, rfl, h2, h3⟩
    have hc := hb _ (getD_mem hj)
    refine l_I rfl (pI_max (pI_lI rfl) (pI_vS (pR_I (pI_lI rfl) (pR_I (h.ls hl rfl rfl hj) pR_0)) (sp_along hc hk M2))) (Or.inr ⟨by decide, by decide, rfl, rfl, if m < bs.getD j 0 / stN k % 10 then bs.getD j 0 / stN k % 10 else m, ?_, ?_, rfl, ?_, ?_⟩)
    · split <;> omega
    · have : (if nI m < nI (bs.getD j 0 / stN k % 10) then nI (bs.getD j 0 / stN k % 10) else nI m) = nI (if m < bs.getD j 0 / stN k % 10 then bs.getD j 0 / stN k % 10 else m) := by
        by_cases e : m < bs.getD j 0 / stN k % 10
        · rw [if_pos e, if_pos (of_decide_eq_true ((oLt_nI (a := m) (b := bs.getD j 0 / stN k % 10) (by omega) (by omega)).trans (decide_eq_true e)))]
        · rw [if_neg e, if_neg (of_decide_eq_false ((oLt_nI (a := m) (b := bs.getD j 0 / stN k % 10) (by omega) (by omega)).trans (decide_eq_false e)))]
      rw [this]
      rfl
    · intro i hi
      by_cases e : i = j
      · rw [e]; split <;> omega
      · have := h2 i (by omega)
        split <;> omega
    · split
      · exact Or.inr ⟨_, getD_mem hj, rfl⟩
      · exact h3
  · rintro L' M2 ⟨m, hm, rfl, rfl, h2, h3⟩
    refine l_ret (pI_lI rfl) ⟨rfl, rfl, m, hm, rfl, fun c hc => ?_, h3⟩
    obtain ⟨i, hi, rfl⟩ := List.getElem_of_mem hc
    have := h2 i hi
    rw [List.getD_eq_getElem?_getD, List.getElem?_eq_getElem hi] at this
    exact this
theorem sp_bears {g g' : Nat → Int32} {b0 : List Nat} {bs : List Nat} (h : GrC M 51 g b0) (h' : GrC M 54 g' bs) (hl : bs.length ≤ 1000) (hb : ∀ c ∈ bs, c < 1000) (o : Int32) : F_X1_bears [.ref 51, .ref 54, .int o] M = some (some (.int (bz (bs.all fun c => oEq (gAt g (nI c + o)) (g' c)))), M) := by
  have hbig : big = 1000000 := rfl
  refine wF_eq (wF_b rfl (Nat.le_of_ble_eq_true rfl) ?_)
  refine q_forC bs.length (fun j L' M2 => L' = [some (.ref 51), some (.ref 54), some (.int o), some (.int (nI j)), none] ∧ M2 = M ∧ ∀ i, i < j → oEq (gAt g (nI (bs.getD i 0) + o)) (g' (bs.getD i 0)) = true) rfl (a := 0) pI_cI (by omega) (Nat.zero_le _) ⟨rfl, rfl, fun i hi => absurd hi (Nat.not_lt_zero i)⟩ ?_ ?_ ?_
  · rintro j L' M2 hj ⟨rfl, rfl, -⟩
    exact pC_eq (pC_kI (pI_lI rfl) (pI_fI (pA_lA rfl) h'.1 rfl)) (oLt_nI (by omega) (by omega))
  · rintro j L' M2 hj ⟨rfl, rfl, h2⟩
    have hm := getD_mem hj
    have hc := hb _ hm
    refine l_scp (q_I rfl (h'.ls hl rfl rfl hj) (l_if (pC_eq (pC_kI (pI_vV (pR_A (pA_lA rfl) (pR_I (pI_add (pI_lI rfl) (pI_lI rfl)) pR_0)) h.1 (sp_code h _)) (pI_eq (pI_vV (pR_A (pA_lA rfl) (pR_I (pI_lI rfl) pR_0)) h'.1 (sp_code h' _)) (gAt_nI _ hc))) (oNe_not _ _)) (fun hb2 => ?_) (fun hb2 => ?_)))
    · rw [Bool.not_eq_true'] at hb2
      refine l_retZ (v := false) pI_cI (Or.inl ⟨rfl, rfl, ?_, rfl⟩)
      have : (bs.all fun c => oEq (gAt g (nI c + o)) (g' c)) = false := Bool.eq_false_iff.mpr fun q => by
        have := List.all_eq_true.mp q _ hm
        rw [hb2] at this
        cases this
      rw [this]
    · rw [Bool.not_eq_false'] at hb2
      refine wS_nop (Or.inr ⟨by decide, by decide, rfl, rfl, rfl, rfl, fun i hi => ?_⟩)
      by_cases e : i = j
      · rw [e]; exact hb2
      · exact h2 i (by omega)
  · rintro L' M2 ⟨rfl, rfl, h2⟩
    refine l_retZ (v := true) pI_cI ⟨rfl, ?_, rfl⟩
    have : (bs.all fun c => oEq (gAt g (nI c + o)) (g' c)) = true := all_take h2
    rw [this]
end PC
