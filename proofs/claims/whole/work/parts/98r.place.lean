theorem cn_skip {F : Nat → Bool} {m n : Nat} (h : m ≤ n) (h0 : ∀ i, m ≤ i → i < n → F i = false) : cn n F = cn m F := by
  induction n with
  | zero => rw [show m = 0 by omega]
  | succ n ih =>
    by_cases e : m = n + 1
    · rw [e]
    · rw [← ih (by omega) fun i h1 h2 => h0 i h1 (by omega)]
      show cn n F + _ = cn n F
      rw [h0 n (by omega) (by omega)]
      rfl
theorem fb_yes {p q r n c : Nat} (hn : n = 361 * p + 19 * q + r) (hp : p < 19) (hq : q < 19) (hr : r < 19) (hc : c < 1000) (h0 : 9 ≤ c / stN 0 % 10 + p ∧ c / stN 0 % 10 + p < 19) (h1 : 9 ≤ c / stN 1 % 10 + q ∧ c / stN 1 % 10 + q < 19) (h2 : 9 ≤ c / stN 2 % 10 + r ∧ c / stN 2 % 10 + r < 19) : ∃ e, fbO (shN n) c = some e ∧ e < 1000 ∧ e + 999 = c + 100 * p + 10 * q + r := by
  obtain ⟨-, n2, n3, n4⟩ := shN_lt (n := n) (by omega)
  rw [show n / 361 = p by omega] at n2
  rw [show n / 19 % 19 = q by omega] at n3
  rw [show n % 19 = r by omega] at n4
  have s0 : c / stN 0 % 10 = c / 100 := by show c / 100 % 10 = c / 100; omega
  have s1 : c / stN 1 % 10 = c / 10 % 10 := rfl
  have s2 : c / stN 2 % 10 = c % 10 := by show c / 1 % 10 = c % 10; rw [Nat.div_one]
  rw [s0] at h0
  rw [s1] at h1
  rw [s2] at h2
  unfold fbO
  rw [n2, n3, n4, if_pos ⟨h0, h1, h2⟩]
  exact ⟨_, rfl, by omega, by omega⟩
theorem fb_no {n c : Nat} (hn : n < 6859) (hc : c < 1000) (h : ¬ ((9 ≤ c / stN 0 % 10 + n / 361 ∧ c / stN 0 % 10 + n / 361 < 19) ∧ (9 ≤ c / stN 1 % 10 + n / 19 % 19 ∧ c / stN 1 % 10 + n / 19 % 19 < 19) ∧ (9 ≤ c / stN 2 % 10 + n % 19 ∧ c / stN 2 % 10 + n % 19 < 19))) : fbO (shN n) c = none := by
  obtain ⟨-, n2, n3, n4⟩ := shN_lt hn
  have s0 : c / stN 0 % 10 = c / 100 := by show c / 100 % 10 = c / 100; omega
  have s1 : c / stN 1 % 10 = c / 10 % 10 := rfl
  have s2 : c / stN 2 % 10 = c % 10 := by show c / 1 % 10 = c % 10; rw [Nat.div_one]
  rw [s0, s1, s2] at h
  unfold fbO
  rw [n2, n3, n4, if_neg h]
theorem off_int {p q r : Nat} (hp : p < 19) (hq : q < 19) (hr : r < 19) : (100 * m9 p + 10 * m9 q + m9 r).toInt = 100 * (p : Int) + 10 * q + r - 999 := by
  have e1 : (100 : Int32).toInt = 100 := rfl
  have e2 : (10 : Int32).toInt = 10 := rfl
  have hz := m9_int (p := p) (by omega)
  have hx := m9_int (p := q) (by omega)
  have hw := m9_int (p := r) (by omega)
  rw [Int32.toInt_add, Int32.toInt_add, Int32.toInt_mul, Int32.toInt_mul, e1, e2, hz, hx, hw, Int.bmod_eq_of_le (n := 100 * ((p : Int) - 9)) (by omega) (by omega), Int.bmod_eq_of_le (n := 10 * ((q : Int) - 9)) (by omega) (by omega), Int.bmod_eq_of_le (n := 100 * ((p : Int) - 9) + 10 * ((q : Int) - 9)) (by omega) (by omega), Int.bmod_eq_of_le (by omega) (by omega)]
  omega
theorem off_add {p q r c e : Nat} (hp : p < 19) (hq : q < 19) (hr : r < 19) (hc : c < 1000) (he : e < 1000) (h : e + 999 = c + 100 * p + 10 * q + r) : nI c + (100 * m9 p + 10 * m9 q + m9 r) = nI e := by
  apply Int32.toInt_inj.mp
  rw [Int32.toInt_add, nI_toInt (by omega), nI_toInt (by omega), off_int hp hq hr, Int.bmod_eq_of_le (by omega) (by omega)]
  omega
theorem all_congr {l : List Nat} {p q : Nat → Bool} (h : ∀ c ∈ l, p c = q c) : l.all p = l.all q := by
  induction l with
  | nil => rfl
  | cons x l ih => rw [List.all_cons, List.all_cons, h x (List.mem_cons_self ..), ih fun c hc => h c (List.mem_cons_of_mem _ hc)]
section PE
variable {L : Nat} {xs : Nat → Int32} {M : Mm} {a : AS}
theorem CSt.scr2 (h : CSt L xs a M) : ∃ v, M.2.2 54 = .inr (1, [.ref 55, .ref 56, .int v]) ∧ (∃ f, M.2.2 55 = aI 0 1000 f) ∧ ∃ f, M.2.2 56 = aI 0 1000 f := by
  obtain ⟨v, hv⟩ := h.2.2.1
  exact ⟨v, hv, h.2.2.2.2.2.1 55 (by decide), h.2.2.2.2.2.1 56 (by decide)⟩
theorem CSt.wr2 {M' : Mm} (h : CSt L xs a M) (hb : But [54, 55, 56] M M') {g : Nat → Int32} {bs : List Nat} (hg : GrC M' 54 g bs) : CSt L xs a M' := by
  refine ⟨h.1.scr hb (by decide), ?_⟩
  obtain ⟨⟨v1, q1⟩, -, ⟨v3, q3⟩, ⟨v4, q4⟩, q5, ⟨f6, q6⟩⟩ := h.2
  obtain ⟨g1, ⟨f, g2, -⟩, ls, g4, -⟩ := hg
  have s : ∀ b, b ∉ [54, 55, 56] → M'.2.2 b = M.2.2 b := hb.2.2
  refine ⟨⟨v1, (s _ (by decide)).trans q1⟩, ⟨_, g1⟩, ⟨v3, (s _ (by decide)).trans q3⟩, ⟨v4, (s _ (by decide)).trans q4⟩, fun b hb => ?_, ⟨f6, (s _ (by decide)).trans q6⟩⟩
  by_cases e : b = 55
  · rw [e]; exact ⟨_, g2⟩
  · by_cases e2 : b = 56
    · rw [e2]; exact ⟨_, g4⟩
    · obtain ⟨k, hk⟩ := q5 b hb
      have all : ∀ b ∈ [52, 53, 55, 56, 58, 59, 61, 63, 65, 66], b = 55 ∨ b = 56 ∨ b ∉ [54, 55, 56] := by decide
      rcases all b hb with t | t | t
      · exact absurd t e
      · exact absurd t e2
      · exact ⟨k, (s b t).trans hk⟩
theorem pA_second {Lc : Lv} (h : CCo L xs a M) (h0 : lkp Lc 0 = some (.ref 5)) : pA (fA 10 7 (lA 0)) Lc M (some 54) := pA_fA (pA_lA h0) h.o5 rfl
theorem nI9 {m : Nat} (h : m ≤ 9) : 9 - nI m = m9 (18 - m) := by
  apply Int32.toInt_inj.mp
  have e9 : (9 : Int32).toInt = 9 := rfl
  rw [m9_int (by omega), Int32.toInt_sub, nI_toInt (by omega), e9, Int.bmod_eq_of_le (by omega) (by omega)]
  omega
theorem nIneg {m : Nat} (h : m ≤ 9) : -(nI m) = m9 (9 - m) := by
  apply Int32.toInt_inj.mp
  rw [m9_int (by omega), Int32.toInt_neg, nI_toInt (by omega), Int.bmod_eq_of_le (by omega) (by omega)]
  omega
theorem sp_seekWay (h : CSt L xs a M) (hO : OkA a) {y u : Nat} (hy : y < 4) (hu : u < 4) (k : Int32) (hk : k = -1 ∨ oGe k 0 = true) : wF F_X11_seekWay [.ref 5, .int (nI y), .int (nI u), .int k] M fun v M' => v = some (.int (plV (cdA (zab a) y) (cdA (zab a) u) k)) ∧ CSt L xs a M' ∧ COn M M' := by
  have hbig : big = 1000000 := rfl
  refine wF_b rfl (Nat.le_of_ble_eq_true rfl) (q_ex (wV_Vw (pR_A (pA_grid h.1 rfl) (pR_A (pA_yard h.1.1 h.1.o5 hy rfl rfl) pR_0)) h.scr.choose_spec.1 ((sp_readC h hy).mono ?_)))
  rintro v M1 ⟨rfl, h1, s1, g1⟩
  refine ⟨rfl, ?_⟩
  obtain ⟨w, o1, o2, o3⟩ := h1.scr2
  refine q_ex (wV_Vw (pR_A (pA_second h1.1 rfl) (pR_A (pA_yard h1.1.1 h1.1.o5 hu rfl rfl) pR_0)) o1 ((sp_read h1.1 (Or.inr rfl) hu o1 o2 o3).mono ?_))
  rintro v M2 ⟨rfl, s2, g2⟩
  refine ⟨rfl, ?_⟩
  have h2 := h1.wr2 s2 g2
  have g1 : GrC M2 51 (cdA (zab a) y) (bls (cdA (zab a) y) 1000) := g1.fr (s2.2.2 _ (by decide)) (s2.2.2 _ (by decide)) (s2.2.2 _ (by decide))
  have con : COn M M2 := (s1.con (by decide)).tr (s2.con (by decide))
  obtain ⟨g, hg⟩ : ∃ g, g = cdA (zab a) y := ⟨_, rfl⟩
  obtain ⟨g', hg'⟩ : ∃ g', g' = cdA (zab a) u := ⟨_, rfl⟩
  rw [← hg] at g1 ⊢
  rw [← hg'] at g2 ⊢
  obtain ⟨bs, hbs⟩ : ∃ bs, bs = bls g' 1000 := ⟨_, rfl⟩
  have hl : bs.length ≤ 1000 := by rw [hbs]; exact bls_len _ _
  have hb : ∀ c ∈ bs, c < 1000 := fun c hc => bls_lt (by rw [hbs] at hc; exact hc)
  rw [← hbs] at g2
  have hfit : ∀ n, fits g g' n = (!bs.isEmpty && bs.all (fit1 g g' (shN n))) := fun n => by unfold fits; rw [← hbs]
  refine q_if (v := decide (bs.length = 0)) (pC_eq (pC_kI (pI_fI (pA_second h2.1 rfl) g2.1 rfl) pI_cI) (oEq_nI (b := 0) (by omega) (by decide))) (fun hb1 => ?_) (fun hb1 => ?_)
  · have e : bs = [] := List.eq_nil_of_length_eq_zero (of_decide_eq_true hb1)
    have hno : ∀ n, fits g g' n = false := fun n => by rw [hfit, e]; rfl
    refine q_ret (pI_tI (pC_kI (pI_lI rfl) pI_cI) pI_cI pI_cI) ⟨rfl, ?_, h2, con⟩
    rw [plV_no fun i _ => plH_no (hno i), cn_none fun i _ => hno i]
    rcases hk with rfl | hk
    · rfl
    · have e1 : oLt k 0 = false := decide_eq_false (Int32.not_lt.mpr (of_decide_eq_true hk))
      have e2 : oEq k (-1) = false := decide_eq_false fun q => by rw [q] at hk; exact absurd hk (by decide)
      rw [e1, e2]
      rfl
  have hne : ∃ c, c ∈ bs := by
    have := of_decide_eq_false hb1
    cases q : bs with
    | nil => rw [q] at this; exact absurd rfl this
    | cons x l => exact ⟨x, List.mem_cons_self ..⟩
  have hemp : bs.isEmpty = false := by
    obtain ⟨c, hc⟩ := hne
    cases q : bs with
    | nil => rw [q] at hc; cases hc
    | cons x l => rfl
  obtain ⟨lz, lz9, lze, lz1, lz2⟩ := sp_least g2 hl hb (show 0 < 3 by decide)
  obtain ⟨lx, lx9, lxe, lx1, lx2⟩ := sp_least g2 hl hb (show 1 < 3 by decide)
  obtain ⟨lw, lw9, lwe, lw1, lw2⟩ := sp_least g2 hl hb (show 2 < 3 by decide)
  obtain ⟨mz, mz9, mze, mz1, mz2⟩ := sp_most g2 hl hb (show 0 < 3 by decide)
  obtain ⟨mx, mx9, mxe, mx1, mx2⟩ := sp_most g2 hl hb (show 1 < 3 by decide)
  obtain ⟨mw, mw9, mwe, mw1, mw2⟩ := sp_most g2 hl hb (show 2 < 3 by decide)
  have atl : ∀ {k m : Nat}, (∀ c ∈ bs, m ≤ c / stN k % 10) → (m = 9 ∨ ∃ c ∈ bs, c / stN k % 10 = m) → ∃ c ∈ bs, c / stN k % 10 = m := fun {k m} p q => by
    rcases q with rfl | q
    · obtain ⟨c, hc⟩ := hne
      exact ⟨c, hc, by have := p c hc; omega⟩
    · exact q
  have atm : ∀ {k m : Nat}, (∀ c ∈ bs, c / stN k % 10 ≤ m) → (m = 0 ∨ ∃ c ∈ bs, c / stN k % 10 = m) → ∃ c ∈ bs, c / stN k % 10 = m := fun {k m} p q => by
    rcases q with rfl | q
    · obtain ⟨c, hc⟩ := hne
      exact ⟨c, hc, by have := p c hc; omega⟩
    · exact q
  obtain ⟨F, hF⟩ : ∃ F, F = fits g g' := ⟨_, rfl⟩
  have one : ∀ n, n < 6859 → (∃ c ∈ bs, ¬ ((9 ≤ c / stN 0 % 10 + n / 361 ∧ c / stN 0 % 10 + n / 361 < 19) ∧ (9 ≤ c / stN 1 % 10 + n / 19 % 19 ∧ c / stN 1 % 10 + n / 19 % 19 < 19) ∧ (9 ≤ c / stN 2 % 10 + n % 19 ∧ c / stN 2 % 10 + n % 19 < 19))) → F n = false := fun n hn ⟨c, hc, q⟩ => by
    rw [hF, hfit, Bool.and_eq_false_iff]
    right
    refine Bool.eq_false_iff.mpr fun q2 => ?_
    have := List.all_eq_true.mp q2 c hc
    unfold fit1 at this
    rw [fb_no hn (hb c hc) q] at this
    cases this
  have out : ∀ n, n < 6859 → (n / 361 < 9 - lz ∨ 18 - mz < n / 361 ∨ n / 19 % 19 < 9 - lx ∨ 18 - mx < n / 19 % 19 ∨ n % 19 < 9 - lw ∨ 18 - mw < n % 19) → F n = false := fun n hn q => by
    rcases q with q | q | q | q | q | q
    · obtain ⟨c, hc, e⟩ := atl lz1 lz2
      exact one n hn ⟨c, hc, by omega⟩
    · obtain ⟨c, hc, e⟩ := atm mz1 mz2
      exact one n hn ⟨c, hc, by omega⟩
    · obtain ⟨c, hc, e⟩ := atl lx1 lx2
      exact one n hn ⟨c, hc, by omega⟩
    · obtain ⟨c, hc, e⟩ := atm mx1 mx2
      exact one n hn ⟨c, hc, by omega⟩
    · obtain ⟨c, hc, e⟩ := atl lw1 lw2
      exact one n hn ⟨c, hc, by omega⟩
    · obtain ⟨c, hc, e⟩ := atm mw1 mw2
      exact one n hn ⟨c, hc, by omega⟩
  have inn : ∀ p q r n, n = 361 * p + 19 * q + r → 9 - lz ≤ p → p ≤ 18 - mz → 9 - lx ≤ q → q ≤ 18 - mx → 9 - lw ≤ r → r ≤ 18 - mw → (bs.all fun c => oEq (gAt g (nI c + (100 * m9 p + 10 * m9 q + m9 r))) (g' c)) = F n := fun p q r n hn p1 p2 q1 q2 r1 r2 => by
    rw [hF, hfit, hemp, Bool.not_false, Bool.true_and]
    refine all_congr fun c hc => ?_
    have a1 := lz1 c hc
    have a2 := mz1 c hc
    have a3 := lx1 c hc
    have a4 := mx1 c hc
    have a5 := lw1 c hc
    have a6 := mw1 c hc
    obtain ⟨e, e1, e2, e3⟩ := fb_yes hn (by omega) (by omega) (by omega) (hb c hc) ⟨by omega, by omega⟩ ⟨by omega, by omega⟩ ⟨by omega, by omega⟩
    unfold fit1
    rw [e1, off_add (by omega) (by omega) (by omega) (hb c hc) e2 e3, gAt_nI g e2]
  have adv : ∀ m n, m ≤ n → n ≤ 6859 → (∀ i, m ≤ i → i < n → i / 361 < 9 - lz ∨ 18 - mz < i / 361 ∨ i / 19 % 19 < 9 - lx ∨ 18 - mx < i / 19 % 19 ∨ i % 19 < 9 - lw ∨ 18 - mw < i % 19) → (∀ i, i < m → plH g g' k i = false) → cn n F = cn m F ∧ ∀ i, i < n → plH g g' k i = false := fun m n hmn hn q1 q2 => by
    have q3 : ∀ i, m ≤ i → i < n → F i = false := fun i i1 i2 => out i (by omega) (q1 i i1 i2)
    refine ⟨cn_skip hmn q3, fun i hi => ?_⟩
    by_cases e : i < m
    · exact q2 i e
    · exact plH_no (by rw [← hF]; exact q3 i (by omega) hi)
  have pm : ∀ {Lx : Lv} {j m : Nat}, lkp Lx 0 = some (.ref 5) → (hj : j < 3) → F_X1_most [.ref 54, .int (nI j)] M2 = some (some (.int (nI m)), M2) → m ≤ 9 → pI (bI oSub (cI 9) (vI (ivV 1 F_X1_most (rA (fA 10 7 (lA 0)) (rI (cI (nI j)) (r0)))))) Lx M2 (m9 (18 - m)) := fun {Lx j m} q0 hj e hm => pI_eq (pI_sub pI_cI (pI_vV (pR_A (pA_second h2.1 q0) (pR_I pI_cI pR_0)) g2.1 e)) (nI9 hm)
  have pl : ∀ {Lx : Lv} {j m : Nat}, lkp Lx 0 = some (.ref 5) → (hj : j < 3) → F_X1_least [.ref 54, .int (nI j)] M2 = some (some (.int (nI m)), M2) → m ≤ 9 → pI (nI1 (vI (ivV 1 F_X1_least (rA (fA 10 7 (lA 0)) (rI (cI (nI j)) (r0)))))) Lx M2 (m9 (9 - m)) := fun {Lx j m} q0 hj e hm => pI_eq (pI_neg (pI_vV (pR_A (pA_second h2.1 q0) (pR_I pI_cI pR_0)) g2.1 e)) (nIneg hm)
  refine q_I rfl (pm (j := 0) rfl (by decide) mze mz9) (q_I rfl (pm (j := 1) rfl (by decide) mxe mx9) (q_I rfl (pm (j := 2) rfl (by decide) mwe mw9) (q_I rfl pI_cI ?_)))
  obtain ⟨i0, i1⟩ := adv 0 (361 * (9 - lz)) (Nat.zero_le _) (by omega) (fun i i1 i2 => by omega) (fun i hi => absurd hi (Nat.not_lt_zero i))
  refine q_forV m9 m9_succ (18 - mz + 1) (fun p L' M3 => L' = [some (.ref 5), some (.int (nI y)), some (.int (nI u)), some (.int k), some (.int (m9 (18 - mz))), some (.int (m9 (18 - mx))), some (.int (m9 (18 - mw))), some (.int (nI (cn (361 * p) F))), some (.int (m9 p)), none, none] ∧ M3 = M2 ∧ 9 - lz ≤ p ∧ ∀ i, i < 361 * p → plH g g' k i = false) rfl (a := 9 - lz) (pl (j := 0) rfl (by decide) lze lz9) (by omega) (by omega) ⟨by rw [i0]; rfl, rfl, Nat.le_refl _, i1⟩ ?_ ?_ ?_
  · rintro p L' M3 hp ⟨rfl, rfl, p1, -⟩
    exact pC_eq (pC_kI (pI_lI rfl) (pI_lI rfl)) (m9_le (by omega) (by omega))
  · rintro p L' M3 hp ⟨rfl, rfl, p1, p2⟩
    obtain ⟨j0, j1⟩ := adv (361 * p) (361 * p + 19 * (9 - lx)) (by omega) (by omega) (fun i i1 i2 => by omega) p2
    refine l_forV m9 m9_succ (18 - mx + 1) (fun q L' M4 => L' = [some (.ref 5), some (.int (nI y)), some (.int (nI u)), some (.int k), some (.int (m9 (18 - mz))), some (.int (m9 (18 - mx))), some (.int (m9 (18 - mw))), some (.int (nI (cn (361 * p + 19 * q) F))), some (.int (m9 p)), some (.int (m9 q)), none] ∧ M4 = M3 ∧ 9 - lx ≤ q ∧ ∀ i, i < 361 * p + 19 * q → plH g g' k i = false) rfl (a := 9 - lx) (pl (j := 1) rfl (by decide) lxe lx9) (by omega) (by omega) ⟨by rw [j0]; rfl, rfl, Nat.le_refl _, j1⟩ ?_ ?_ ?_
    · rintro q L' M4 hq ⟨rfl, rfl, q1, -⟩
      exact pC_eq (pC_kI (pI_lI rfl) (pI_lI rfl)) (m9_le (by omega) (by omega))
    · rintro q L' M4 hq ⟨rfl, rfl, q1, q2⟩
      obtain ⟨k0, k1⟩ := adv (361 * p + 19 * q) (361 * p + 19 * q + (9 - lw)) (by omega) (by omega) (fun i i1 i2 => by omega) q2
      refine l_forV m9 m9_succ (18 - mw + 1) (fun r L' M5 => L' = [some (.ref 5), some (.int (nI y)), some (.int (nI u)), some (.int k), some (.int (m9 (18 - mz))), some (.int (m9 (18 - mx))), some (.int (m9 (18 - mw))), some (.int (nI (cn (361 * p + 19 * q + r) F))), some (.int (m9 p)), some (.int (m9 q)), some (.int (m9 r))] ∧ M5 = M4 ∧ 9 - lw ≤ r ∧ ∀ i, i < 361 * p + 19 * q + r → plH g g' k i = false) rfl (a := 9 - lw) (pl (j := 2) rfl (by decide) lwe lw9) (by omega) (by omega) ⟨by rw [k0]; rfl, rfl, Nat.le_refl _, k1⟩ ?_ ?_ ?_
      · rintro r L' M5 hr ⟨rfl, rfl, r1, -⟩
        exact pC_eq (pC_kI (pI_lI rfl) (pI_lI rfl)) (m9_le (by omega) (by omega))
      · rintro r L' M5 hr ⟨rfl, rfl, r1, r2⟩
        obtain ⟨n, hn⟩ : ∃ n, n = 361 * p + 19 * q + r := ⟨_, rfl⟩
        have hbear := sp_bears g1 g2 hl hb (100 * m9 p + 10 * m9 q + m9 r)
        rw [inn p q r n hn p1 (by omega) q1 (by omega) r1 (by omega)] at hbear
        rw [← hn] at r2 ⊢
        have ep : F n = true → plH g g' k n = oEq (nI (cn n F)) k := fun hb => by
          unfold plH
          rw [← hF, hb, Bool.true_and]
        refine l_if (v := F n) (pC_nz (pI_vV (pR_A (pA_grid h2.1 rfl) (pR_A (pA_second h2.1 rfl) (pR_I (pI_vS (pR_I (pI_lI rfl) (pR_I (pI_lI rfl) (pR_I (pI_lI rfl) pR_0))) (show F_X11_cellOf [.int (m9 p), .int (m9 q), .int (m9 r)] M5 = some (some (.int (100 * m9 p + 10 * m9 q + m9 r)), M5) from rfl)) pR_0))) g1.1 hbear)) (fun hb => ?_) (fun hb => ?_)
        · refine q_if (pC_kI (pI_lI rfl) (pI_lI rfl)) (fun hb2 => ?_) (fun hb2 => ?_)
          · have hsh : 10000 * (m9 p + 9) + 100 * (m9 q + 9) + m9 r + 9 = nI (shN n) := by
              unfold m9
              rw [Int32.add_assoc, Int32.sub_add_cancel, Int32.sub_add_cancel, Int32.sub_add_cancel, nI_mul (c := 10000) (m := 10000) rfl, nI_mul (c := 100) (m := 100) rfl, nI_add, nI_add]
              unfold shN
              rw [show n / 361 = p by omega, show n / 19 % 19 = q by omega, show n % 19 = r by omega]
            refine q_ret (pI_eq (pI_vS (pR_I (pI_lI rfl) (pR_I (pI_lI rfl) (pR_I (pI_lI rfl) pR_0))) (show F_X11_tellShift [.int (m9 p), .int (m9 q), .int (m9 r)] M5 = some (some (.int (10000 * (m9 p + 9) + 100 * (m9 q + 9) + m9 r + 9)), M5) from rfl)) hsh) ?_
            refine Or.inl ⟨rfl, ?_⟩
            refine Or.inl ⟨rfl, ?_⟩
            refine Or.inl ⟨rfl, ?_⟩
            refine ⟨rfl, ?_, h2, con⟩
            rw [plV_hit (by omega) (by rw [ep hb]; exact hb2) r2]
          · refine l_inc rfl rfl (Or.inr ⟨by decide, by decide, rfl, rfl, ?_, rfl, by omega, fun i hi => ?_⟩)
            · have e : cn (361 * p + 19 * q + (r + 1)) F = cn n F + 1 := by
                rw [show 361 * p + 19 * q + (r + 1) = n + 1 by omega]
                show cn n F + _ = _
                rw [hb]
                rfl
              rw [e, nI_1]; rfl
            · by_cases e : i = n
              · rw [e, ep hb]; exact hb2
              · exact r2 i (by omega)
        · refine wS_nop (Or.inr ⟨by decide, by decide, rfl, rfl, ?_, rfl, by omega, fun i hi => ?_⟩)
          · have e : cn (361 * p + 19 * q + (r + 1)) F = cn n F := by
              rw [show 361 * p + 19 * q + (r + 1) = n + 1 by omega]
              show cn n F + _ = _
              rw [hb]
              rfl
            rw [e]; rfl
          · by_cases e : i = n
            · rw [e]; exact plH_no (by rw [← hF]; exact hb)
            · exact r2 i (by omega)
      · rintro L' M5 ⟨rfl, rfl, -, r2⟩
        obtain ⟨k0, k1⟩ := adv _ (361 * p + 19 * (q + 1)) (by omega) (by omega) (fun i i1 i2 => by omega) r2
        exact Or.inr ⟨by decide, by decide, rfl, rfl, by rw [k0]; rfl, rfl, by omega, k1⟩
    · rintro L' M4 ⟨rfl, rfl, -, q2⟩
      obtain ⟨k0, k1⟩ := adv _ (361 * (p + 1)) (by omega) (by omega) (fun i i1 i2 => by omega) q2
      exact Or.inr ⟨by decide, by decide, rfl, rfl, by rw [k0]; rfl, rfl, by omega, k1⟩
  · rintro L' M3 ⟨rfl, rfl, -, p2⟩
    obtain ⟨k0, k1⟩ := adv _ 6859 (by omega) (by omega) (fun i i1 i2 => by omega) p2
    refine l_ret (pI_tI (pC_kI (pI_lI rfl) pI_cI) (pI_lI rfl) pI_cI) ⟨rfl, ?_, h2, con⟩
    rw [plV_no k1, ← k0, hF]
    rcases hk with rfl | hk
    · rfl
    · have e1 : oLt k 0 = false := decide_eq_false (Int32.not_lt.mpr (of_decide_eq_true hk))
      have e2 : oEq k (-1) = false := decide_eq_false fun q => by rw [q] at hk; exact absurd hk (by decide)
      rw [e1, e2]
end PE
def pcV (y u k : Int32) (a : AS) : Int32 := if ((isY y && isY u) && oGe k 0) = true then plV (cdA (zab a) y.toNatClampNeg) (cdA (zab a) u.toNatClampNeg) k else -1
def psV (y u : Int32) (a : AS) : Int32 := if (isY y && isY u) = true then plV (cdA (zab a) y.toNatClampNeg) (cdA (zab a) u.toNatClampNeg) (-1) else -1
theorem oLt_ge (x y : Int32) : oLt x y = !(oGe x y) := by
  unfold oLt oGe
  rw [← decide_not, decide_eq_decide]
  exact Int32.not_le.symm
theorem ok2_place (L : Nat) (xs : Nat → Int32) (y u k : Int32) : OK2 (Inv2 L xs) F_X11_place F_X12_place [.int y, .int u, .int k] := by
  refine ok2_rd (pcV y u k) (fun a M hO hb h => ?_) (fun a M hO hb h => wF_b rfl (Nat.le_of_ble_eq_true rfl) (r_st h rfl fun M0 h0 s0 => ?_))
  · unfold pcV
    refine wF_b rfl (Nat.le_of_ble_eq_true rfl) (q_if (v := !((isY y && isY u) && oGe k 0)) (pC_eq (pC_or (pC_or (pC_not (pC_nz (pI_vS (pR_I (pI_lI rfl) pR_0) (sp_isYardC _ _)))) (pC_not (pC_nz (pI_vS (pR_I (pI_lI rfl) pR_0) (sp_isYardC _ _))))) (pC_kI (pI_lI rfl) pI_cI)) (by rw [oLt_ge]; exact not3 _ _ _)) (fun hb1 => ?_) (fun hb1 => ?_))
    · rw [Bool.not_eq_true'] at hb1
      rw [if_neg (by rw [hb1]; decide)]
      exact q_ret pI_cI ⟨rfl, rfl, h, COn.rf⟩
    · rw [Bool.not_eq_false'] at hb1
      rw [if_pos hb1]
      obtain ⟨g0, g3⟩ := Bool.and_eq_true_iff.mp hb1
      obtain ⟨g1, g2⟩ := Bool.and_eq_true_iff.mp g0
      obtain ⟨yn, hy, rfl⟩ := isY_nat g1
      obtain ⟨un, hu, rfl⟩ := isY_nat g2
      rw [nI_clamp (by omega), nI_clamp (by omega)]
      refine wS_retI (wI_vVw (pR_A (pA_lA rfl) (pR_I (pI_lI rfl) (pR_I (pI_lI rfl) (pR_I (pI_lI rfl) pR_0)))) h.1.o5 ((sp_seekWay h hO hy hu k (Or.inr g3)).mono ?_))
      rintro v M' ⟨rfl, e1, e2⟩
      exact ⟨_, rfl, rfl, rfl, e1, e2⟩
  · obtain ⟨th, pm, bm, h69⟩ := id h0.2.2
    unfold pcV
    refine wS_retI (wI_tI (wC_p (pC_and (pC_and (pC_nz (pI_vS (pR_I (pI_lI rfl) pR_0) (sp_isYardR _ _))) (pC_nz (pI_vS (pR_I (pI_lI rfl) pR_0) (sp_isYardR _ _)))) (pC_kI (pI_lI rfl) pI_cI)) ⟨fun hb1 => ?_, fun hb1 => ?_⟩))
    · rw [if_pos hb1]
      obtain ⟨g0, g3⟩ := Bool.and_eq_true_iff.mp hb1
      obtain ⟨g1, g2⟩ := Bool.and_eq_true_iff.mp g0
      obtain ⟨yn, hy, rfl⟩ := isY_nat g1
      obtain ⟨un, hu, rfl⟩ := isY_nat g2
      rw [nI_clamp (by omega), nI_clamp (by omega)]
      refine wI_vVw (pR_A (pA_lA rfl) (pR_I (pI_lI rfl) (pR_I (pI_lI rfl) (pR_I (pI_lI rfl) pR_0)))) h69 ((sp_goesR h0 hO hy hu k (Or.inr g3)).mono ?_)
      rintro v M' ⟨rfl, e1, e2⟩
      exact ⟨_, rfl, rfl, rfl, e1, s0.tr e2⟩
    · rw [if_neg (by rw [hb1]; decide)]
      exact wI_cI ⟨rfl, rfl, h0, s0⟩
theorem ok2_places (L : Nat) (xs : Nat → Int32) (y u : Int32) : OK2 (Inv2 L xs) F_X11_places F_X12_places [.int y, .int u] := by
  refine ok2_rd (psV y u) (fun a M hO hb h => ?_) (fun a M hO hb h => wF_b rfl (Nat.le_of_ble_eq_true rfl) (r_st h rfl fun M0 h0 s0 => ?_))
  · unfold psV
    refine wF_b rfl (Nat.le_of_ble_eq_true rfl) (q_if (v := !(isY y && isY u)) (pC_eq (pC_or (pC_not (pC_nz (pI_vS (pR_I (pI_lI rfl) pR_0) (sp_isYardC _ _)))) (pC_not (pC_nz (pI_vS (pR_I (pI_lI rfl) pR_0) (sp_isYardC _ _))))) (not_or_n _ _)) (fun hb1 => ?_) (fun hb1 => ?_))
    · rw [Bool.not_eq_true'] at hb1
      rw [if_neg (by rw [hb1]; decide)]
      exact q_ret pI_cI ⟨rfl, rfl, h, COn.rf⟩
    · rw [Bool.not_eq_false'] at hb1
      rw [if_pos hb1]
      obtain ⟨g1, g2⟩ := Bool.and_eq_true_iff.mp hb1
      obtain ⟨yn, hy, rfl⟩ := isY_nat g1
      obtain ⟨un, hu, rfl⟩ := isY_nat g2
      rw [nI_clamp (by omega), nI_clamp (by omega)]
      refine wS_retI (wI_vVw (pR_A (pA_lA rfl) (pR_I (pI_lI rfl) (pR_I (pI_lI rfl) (pR_I pI_cI pR_0)))) h.1.o5 ((sp_seekWay h hO hy hu (-1) (Or.inl rfl)).mono ?_))
      rintro v M' ⟨rfl, e1, e2⟩
      exact ⟨_, rfl, rfl, rfl, e1, e2⟩
  · obtain ⟨th, pm, bm, h69⟩ := id h0.2.2
    unfold psV
    refine wS_retI (wI_tI (wC_p (pC_and (pC_nz (pI_vS (pR_I (pI_lI rfl) pR_0) (sp_isYardR _ _))) (pC_nz (pI_vS (pR_I (pI_lI rfl) pR_0) (sp_isYardR _ _)))) ⟨fun hb1 => ?_, fun hb1 => ?_⟩))
    · rw [if_pos hb1]
      obtain ⟨g1, g2⟩ := Bool.and_eq_true_iff.mp hb1
      obtain ⟨yn, hy, rfl⟩ := isY_nat g1
      obtain ⟨un, hu, rfl⟩ := isY_nat g2
      rw [nI_clamp (by omega), nI_clamp (by omega)]
      refine wI_vVw (pR_A (pA_lA rfl) (pR_I (pI_lI rfl) (pR_I (pI_lI rfl) (pR_I pI_cI pR_0)))) h69 ((sp_goesR h0 hO hy hu (-1) (Or.inl rfl)).mono ?_)
      rintro v M' ⟨rfl, e1, e2⟩
      exact ⟨_, rfl, rfl, rfl, e1, s0.tr e2⟩
    · rw [if_neg (by rw [hb1]; decide)]
      exact wI_cI ⟨rfl, rfl, h0, s0⟩
