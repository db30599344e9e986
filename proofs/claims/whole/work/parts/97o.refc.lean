/-! the reference's rows made alone; its changes -/
theorem RowX_nr {s : SN} {k l x r n : Nat} {f : Nat → Int32} (hX : RowX s) (hl : nf s k = some l) (hf : ∀ j, j < 160 → j ≠ k → nf s j ≠ some l) (hfr : ∀ j y, j < 160 → y < 10 → rwo s j y ≠ some r) : RowX (sNr s l x r n f) := by
  rw [RowX_iff]
  have hrw : ∀ j y, j < 160 → y < 10 → rwo (sNr s l x r n f) j y = if j = k ∧ y = x then some r else rwo s j y := fun j y hj hy => by
    cases hm : nf s j with
    | none =>
      rw [rwo_none hm, rwo_none (s := sNr s l x r n f) hm, if_neg (fun q => by rw [q.1, hl] at hm; cases hm)]
    | some m =>
      rw [rwo_some hm, rwo_some (s := sNr s l x r n f) hm]
      show (if m = l ∧ y = x then some r else ng s m y) = _
      by_cases ej : j = k
      · subst ej
        rw [hl] at hm
        cases hm
        by_cases ey : y = x
        · rw [if_pos ⟨rfl, ey⟩, if_pos ⟨rfl, ey⟩]
        · rw [if_neg (fun q => ey q.2), if_neg (fun q => ey q.2)]
      · rw [if_neg (fun q => hf j hj ej (by rw [hm, q.1])), if_neg (fun q => ej q.1)]
  intro j j' y y' q hj hj' hy hy' h1 h2
  rw [hrw j y hj hy] at h1
  rw [hrw j' y' hj' hy'] at h2
  split at h1 <;> split at h2
  · rename_i a1 a2; rw [a1.2, a2.2]
  · cases h1; exact absurd h2 (hfr j' y' hj' hy')
  · cases h2; exact absurd h1 (hfr j y hj hy)
  · exact RowX_iff.mp hX j j' y y' q hj hj' hy hy' h1 h2
theorem SSet_same {s : SN} {k x l r : Nat} (hX : RowX s) (hk : k < 160) (hx : x < 10) (hl : nf s k = some l) (hf : ∀ j, j < 160 → j ≠ k → nf s j ≠ some l) (hr : ng s l x = some r) (hno : ∀ j, j < 160 → j ≠ k → rwo s j x ≠ some r) : SSet s s k x l l r := by
  have hkr : rwo s k x = some r := by rw [rwo_some hl]; exact hr
  have hX2 := RowX_iff.mp hX
  refine ⟨hl, fun j hj hne => ⟨rfl, hf j hj hne⟩, hr, fun y hy hne => ⟨rfl, fun q => hne (hX2 k k y x r hk hk hy hx (by rw [rwo_some hl]; exact q) hkr)⟩, fun j m hj hne hm y hy => ⟨rfl, fun q => ?_⟩, fun _ _ _ _ _ _ _ _ _ => ⟨rfl, rfl⟩⟩
  have hjx : rwo s j y = some r := by rw [rwo_some hm]; exact q
  have := hX2 j k y x r hj hk hy hx hjx hkr
  subst this
  exact hno j hj hne hjx
theorem SSet.own {s s1 s2 : SN} {k x l l' r' : Nat} (h : SSet s1 s2 k x l' l' r') (ho : OwnL s s1 k l l') (hl : nf s k = some l) (hk : k < 160) : SSet s s2 k x l l' r' := by
  obtain ⟨e1, e2, e3, e4, e5, e6⟩ := h
  have ho2 := ho
  obtain ⟨f1, f2, f3, f4, f5, f6⟩ := ho
  refine ⟨e1, fun j hj hne => ⟨(e2 j hj hne).1.trans (f2 j hj hne).1, (f2 j hj hne).2⟩, e3, fun y hy hne => ⟨(e4 y hy hne).1.trans (f3 y), by rw [← f3]; exact (e4 y hy hne).2⟩, fun j m hj hne hm y hy => ?_, fun j y q w hj hy hw hq hne => ?_⟩
  · have hml : m ≠ l' := fun q => (f2 j hj hne).2 (by rw [hm, q])
    obtain ⟨g1, g2⟩ := e5 j m hj hne ((f2 j hj hne).1.trans hm) y hy
    rw [f4 m ⟨j, hj, hm⟩ hml y] at g1 g2
    exact ⟨g1, g2⟩
  · obtain ⟨g1, g2⟩ := e6 j y q w hj hy hw ((ho2.rw hl hj y).trans hq) hne
    rw [f5] at g1
    rw [f6] at g2
    exact ⟨g1, g2⟩
section RJ
variable {M : Mm} {s : SN} {th pm bm : Int32} {kn nl nr fe : Nat}
theorem sp_holdsOfRow (h69 : M.2.2 69 = .inr (11, fsRv th kn nl nr pm fe bm)) (hR : RRep M s) {r : Nat} (hr : r < 2 ^ 31) : F_X12_holdsOfRow [.ref 69, .int (nI r)] M = some (some (.int (nI (rcnt 170 s r))), M) := by
  obtain ⟨rw9, b1, b2⟩ := hR.2.1
  refine wF_eq (wF_b rfl (Nat.le_of_ble_eq_true rfl) (q_I rfl pI_cI ?_))
  refine q_for 170 (fun j L M1 => L = [some (.ref 69), some (.int (nI r)), some (.int (nI (rcnt j s r))), some (.int (nI j)), none] ∧ M1 = M) rfl (a := 0) rfl rfl (by decide) (by decide) ⟨rfl, rfl⟩ ?_ ?_ ?_
  · rintro j L M1 ⟨rfl, -⟩
    rfl
  · rintro j L M1 hj ⟨rfl, rfl⟩
    have hle := hcnt_le s j
    have stp : rcnt (j + 1) s r = rcnt j s r + if hcnt s j = 0 then 0 else cn 10 fun x => decide (ng s j x = some r) := rfl
    refine q_if (pC_eq (pC_kI (pI_vV (pR_A (pA_lA rfl) (pR_I (pI_lI rfl) pR_0)) h69 (sp_holdsOf h69 hR (l := j) (by omega))) pI_cI) (oEq_nI (b := 0) (by omega) (by decide))) (fun hb => ?_) (fun hb => ?_)
    · rw [if_pos (of_decide_eq_true hb)] at stp
      refine q_cnt (Or.inr ⟨by decide, by decide, rfl, rfl, ?_, rfl⟩)
      rw [stp]; rfl
    · rw [if_neg (of_decide_eq_false hb)] at stp
      refine l_for 10 (fun i L M2 => L = [some (.ref 69), some (.int (nI r)), some (.int (nI (rcnt j s r) + nI (cn i fun x => decide (ng s j x = some r)))), some (.int (nI j)), some (.int (nI i))] ∧ M2 = M1) rfl (a := 0) rfl rfl (by decide) (by decide) ⟨?_, rfl⟩ ?_ ?_ ?_
      · have : nI (rcnt j s r) + nI (cn 0 fun x => decide (ng s j x = some r)) = nI (rcnt j s r) := Int32.add_zero _
        rw [this]; rfl
      · rintro i L M1 ⟨rfl, -⟩
        rfl
      · rintro i L M2 hi ⟨rfl, rfl⟩
        have p1 := pI_rowOf (Lc := [some (.ref 69), some (.int (nI r)), some (.int (nI (rcnt j s r) + nI (cn i fun x => decide (ng s j x = some r)))), some (.int (nI j)), some (.int (nI i))]) (i := 3) (j := 4) h69 hR hj hi rfl rfl rfl
        refine l_I rfl (pI_eq (pI_add (pI_lI rfl) (pI_tI (pC_eq (pC_kI p1 (pI_lI rfl)) (oI_eq hr fun m hm => by have := (b2 j i hj hi).2 m hm; omega)) pI_cI pI_cI)) ?_) (Or.inr ⟨by decide, by decide, rfl, rfl, rfl, rfl⟩)
        rw [Int32.add_assoc, cn_add]
      · rintro L M2 ⟨rfl, rfl⟩
        refine Or.inr ⟨by decide, by decide, rfl, rfl, ?_, rfl⟩
        rw [stp, ← nI_add (rcnt j s r)]; rfl
  · rintro L M1 ⟨rfl, rfl⟩
    exact l_ret (pI_lI rfl) ⟨rfl, rfl, rfl⟩
theorem RRep.newr {M' : Mm} {k l x r n : Nat} {f : Nat → Int32} {rw' ln' ck' ct' : Nat → Int32} (hR : RRep M s) (hl : nf s k = some l) (hf : ∀ j, j < 160 → j ≠ k → nf s j ≠ some l) (hl170 : l < 170) (hr : r < 1710) (hfr : ∀ j y, j < 160 → y < 10 → rwo s j y ≠ some r) (hn : n ≤ 10) (h75 : M'.2.2 75 = M.2.2 75) (h77 : M'.2.2 77 = aI 0 1700 rw') (h78 : M'.2.2 78 = aI 0 1710 ln') (h79 : M'.2.2 79 = aI 0 17100 ck') (h80 : M'.2.2 80 = aI 0 17100 ct')
    (e77 : ∀ m y, m < 170 → y < 10 → rw' (10 * m + y) = if m = l ∧ y = x then nI r else oI (ng s m y)) (e78 : ∀ q, q < 1710 → ln' q = if q = r then nI n else nI (nln s q))
    (e79 : ∀ q w, q < 1710 → w < 10 → 0 ≤ (ck' (10 * q + w)).toInt ∧ (ck' (10 * q + w)).toInt ≤ 30 ∧ 0 ≤ (ct' (10 * q + w)).toInt ∧ (ct' (10 * q + w)).toInt < 24 ∧ (ck' (10 * q + w) = 0 → ct' (10 * q + w) = 0) ∧ (if q = r then f w else ncd s q w) = 24 * ck' (10 * q + w) + ct' (10 * q + w)) : RRep M' (sNr s l x r n f) := by
  obtain ⟨⟨hd, a1, a2⟩, ⟨rw9, b1, b2⟩, ⟨ln, c1, c2⟩, -, e⟩ := hR
  refine ⟨⟨hd, h75.trans a1, a2⟩, ⟨rw', h77, fun m y hm hy => ?_⟩, ⟨ln', h78, fun q hq => ?_⟩, ⟨ck', ct', h79, h80, fun q w hq hw => ?_⟩, RowX_nr e hl hf hfr⟩
  · rw [e77 m y hm hy]
    show (if m = l ∧ y = x then _ else _) = oI (if m = l ∧ y = x then some r else ng s m y) ∧ ∀ q, (if m = l ∧ y = x then some r else ng s m y) = some q → q < 1710
    by_cases em : m = l ∧ y = x
    · rw [if_pos em, if_pos em]
      exact ⟨rfl, fun q hq => by cases hq; exact hr⟩
    · rw [if_neg em, if_neg em]
      exact ⟨rfl, (b2 m y hm hy).2⟩
  · rw [e78 q hq]
    show (if q = r then _ else _) = nI (if q = r then n else nln s q) ∧ (if q = r then n else nln s q) ≤ 10
    by_cases eq : q = r
    · rw [if_pos eq, if_pos eq]; exact ⟨rfl, hn⟩
    · rw [if_neg eq, if_neg eq]; exact ⟨rfl, (c2 q hq).2⟩
  · exact e79 q w hq hw
theorem sp_aloneRow {h z x l r : Nat} (h69 : M.2.2 69 = .inr (11, fsRv th kn nl nr pm fe bm)) (hR : RRep M s) (h81 : ∃ f, M.2.2 81 = aI 1 1710 f) (h82 : ∃ f, M.2.2 82 = aI 1 170 f) (hh : h < 16) (hz : z < 10) (hx : x < 10) (hl : nf s (10 * h + z) = some l) (hf : ∀ j, j < 160 → j ≠ 10 * h + z → nf s j ≠ some l) (hr : ng s l x = some r) :
    wF F_X12_aloneRow [.ref 69, .int (nI h), .int (nI z), .int (nI x)] M fun v M' => v = none ∧ ∃ r' s', RRep M' s' ∧ SSet s s' (10 * h + z) x l l r' ∧ nln s' r' = nln s r ∧ (∀ w, ncd s' r' w = ncd s r w) ∧
    M'.2.2 69 = .inr (11, fsRv th kn nl (nr + if 2 ≤ rcnt 170 s r then 1 else 0) pm fe bm) ∧ But [69, 77, 78, 79, 80, 81, 82] M M' ∧ (∃ f, M'.2.2 81 = aI 1 1710 f) ∧ ∃ f, M'.2.2 82 = aI 1 170 f := by
  have hk : 10 * h + z < 160 := by omega
  obtain ⟨hd, a1, a2⟩ := hR.1
  obtain ⟨rw9, b1, b2⟩ := hR.2.1
  have hl170 : l < 170 := (a2 _ hk).2 l hl
  have hr1710 : r < 1710 := (b2 l x hl170 hx).2 r hr
  have p1 := pI_held (Lc := mkL 8 [.ref 69, .int (nI h), .int (nI z), .int (nI x)]) (i := 1) (j := 2) h69 hR hh hz rfl rfl rfl
  rw [hl] at p1
  have p2 := pI_rowOf (Lc := (mkL 8 [.ref 69, .int (nI h), .int (nI z), .int (nI x)]).set 4 (some (.int (nI l)))) (i := 4) (j := 3) h69 hR hl170 hx rfl rfl rfl
  rw [hr] at p2
  have hle : rcnt 170 s r ≤ 1700 := by
    have : rcnt 170 s r ≤ sm 170 fun _ => 10 := sm_le fun i _ => by
      split
      · omega
      · exact cn_le _ _
    rw [sm_const] at this
    omega
  have h2 := rcnt_two (B := 170) hk hx hR.2.2.2.2 hl hf hr fun j m hj hm => (a2 j hj).2 m hm
  refine wF_b rfl (Nat.le_of_ble_eq_true rfl) (q_assoc (q_I (v := nI l) rfl p1 (q_I (v := nI r) rfl p2 ?_)))
  refine q_if (pC_eq (pC_kI (pI_vV (pR_A (pA_lA rfl) (pR_I (pI_lI rfl) pR_0)) h69 (sp_holdsOfRow h69 hR (r := r) (by omega))) pI_cI) (oLt_nI (b := 2) (by omega) (by decide))) (fun hb => ?_) (fun hb => ?_)
  · have hb : rcnt 170 s r < 2 := of_decide_eq_true hb
    have hno : ¬ ∃ j, j < 160 ∧ j ≠ 10 * h + z ∧ rwo s j x = some r := fun q => by
      have := h2.mpr q
      omega
    refine q_retV ⟨rfl, rfl, r, s, hR, SSet_same hR.2.2.2.2 hk hx hl hf hr (fun j hj hne q => hno ⟨j, hj, hne, q⟩), rfl, fun _ => rfl, ?_, But.rf, h81, h82⟩
    rw [if_neg (by omega)]; exact h69
  · have hb : ¬ rcnt 170 s r < 2 := of_decide_eq_false hb
    rw [if_pos (by omega)]
    refine q_Iw rfl (wI_vVw (pR_A (pA_lA rfl) pR_0) h69 ((sp_newRow h69 hR h81 h82).mono ?_))
    rintro v M1 ⟨r', rfl, c1, c2, c3, c4, c5, c6⟩
    refine ⟨_, rfl, ?_⟩
    have hrr : r ≠ r' := fun q => c2 _ x hk hx (by rw [rwo_some hl, hr, q])
    obtain ⟨ln, d1, d2⟩ := hR.2.2.1
    obtain ⟨ck, ct, d3, d4, d5⟩ := hR.2.2.2.1
    have ln1 : M1.2.2 78 = aI 0 1710 ln := (c3.2.2 _ (by decide)).trans d1
    have p3 := pI_gI (t := 0) (L := ((((mkL 8 [.ref 69, .int (nI h), .int (nI z), .int (nI x)]).set 4 (some (.int (nI l)))).set 5 (some (.int (nI r)))).set 6 (some (.int (nI r'))))) (pA_fA (k := 10) (pA_lA (i := 0) rfl) c4 rfl) (pI_lI (i := 5) rfl) ln1 (inb_nI hr1710 (by decide))
    rw [nI_clamp (by omega), (d2 r hr1710).1] at p3
    refine q_pa (j := r') (pA_fA (k := 10) (pA_lA rfl) c4 rfl) (pI_lI rfl) p3 ln1 (by decide) c1 (by decide) (Or.inl rfl) ?_
    refine q_for 10 (fun j L M2 => L = [some (.ref 69), some (.int (nI h)), some (.int (nI z)), some (.int (nI x)), some (.int (nI l)), some (.int (nI r)), some (.int (nI r')), some (.int (nI j))] ∧ But [69, 78, 79, 80, 81, 82] M M2 ∧ M2.2.2 69 = .inr (11, fsRv th kn nl (nr + 1) pm fe bm) ∧ M2.2.2 78 = aI 0 1710 (upd ln r' (nI (nln s r))) ∧ (∃ f, M2.2.2 81 = aI 1 1710 f) ∧ (∃ f, M2.2.2 82 = aI 1 170 f) ∧
      ∃ ck' ct', M2.2.2 79 = aI 0 17100 ck' ∧ M2.2.2 80 = aI 0 17100 ct' ∧ ∀ q w, w < 10 → ck' (10 * q + w) = (if q = r' ∧ w < j then ck (10 * r + w) else ck (10 * q + w)) ∧ ct' (10 * q + w) = (if q = r' ∧ w < j then ct (10 * r + w) else ct (10 * q + w))) rfl (a := 0) rfl rfl (by decide) (by decide)
      ⟨rfl, (c3.mono (by decide)).set (by decide), (get_ne (by decide)).trans c4, get_at, ?_, ?_, ck, ct, (get_ne (by decide)).trans ((c3.2.2 _ (by decide)).trans d3), (get_ne (by decide)).trans ((c3.2.2 _ (by decide)).trans d4), fun q w _ => ?_⟩ ?_ ?_ ?_
    · obtain ⟨f, hf⟩ := c5; exact ⟨f, (get_ne (by decide)).trans hf⟩
    · obtain ⟨f, hf⟩ := c6; exact ⟨f, (get_ne (by decide)).trans hf⟩
    · rw [if_neg (fun t => absurd t.2 (Nat.not_lt_zero w)), if_neg (fun t => absurd t.2 (Nat.not_lt_zero w))]; exact ⟨rfl, rfl⟩
    · rintro j L M2 ⟨rfl, -⟩
      rfl
    · rintro j L M2 hj ⟨rfl, e1, e2, e3, ⟨f4, e4⟩, ⟨f5, e5⟩, ck', ct', e6, e7, e8⟩
      have p4 := pI_gI (t := 0) (L := [some (.ref 69), some (.int (nI h)), some (.int (nI z)), some (.int (nI x)), some (.int (nI l)), some (.int (nI r)), some (.int (nI r')), some (.int (nI j))]) (pA_fA (k := 11) (pA_lA (i := 0) rfl) e2 rfl) (pI_add (pI_mul (pI_cI (v := 10)) (pI_lI (i := 5) rfl)) (pI_lI (i := 7) rfl)) e6 (by rw [nI_mul10]; exact inb_nI (by omega) (by decide))
      rw [nI_mul10, nI_clamp (by omega), (e8 r j hj).1, if_neg (fun t => hrr t.1)] at p4
      have e22 : (setC M2 79 (aI 0 17100 (upd ck' (10 * r' + j) (ck (10 * r + j))))).2.2 69 = .inr (11, fsRv th kn nl (nr + 1) pm fe bm) := (get_ne (by decide)).trans e2
      have p5 := pI_gI (t := 0) (L := [some (.ref 69), some (.int (nI h)), some (.int (nI z)), some (.int (nI x)), some (.int (nI l)), some (.int (nI r)), some (.int (nI r')), some (.int (nI j))]) (pA_fA (k := 12) (pA_lA (i := 0) rfl) e22 rfl) (pI_add (pI_mul (pI_cI (v := 10)) (pI_lI (i := 5) rfl)) (pI_lI (i := 7) rfl)) ((get_ne (by decide)).trans e7) (by rw [nI_mul10]; exact inb_nI (by omega) (by decide))
      rw [nI_mul10, nI_clamp (by omega), (e8 r j hj).2, if_neg (fun t => hrr t.1)] at p5
      refine q_pa (j := 10 * r' + j) (pA_fA (k := 11) (pA_lA rfl) e2 rfl) (pI_eq (pI_add (pI_mul pI_cI (pI_lI rfl)) (pI_lI rfl)) (nI_mul10 _ _)) p4 e6 (by decide) (by omega) (by decide) (Or.inl rfl) ?_
      refine l_pa (j := 10 * r' + j) (pA_fA (k := 12) (pA_lA rfl) e22 rfl) (pI_eq (pI_add (pI_mul pI_cI (pI_lI rfl)) (pI_lI rfl)) (nI_mul10 _ _)) p5 ((get_ne (by decide)).trans e7) (by decide) (by omega) (by decide) (Or.inl rfl) (Or.inr ⟨by decide, by decide, rfl, rfl, rfl, (e1.set (by decide)).set (by decide), (get_ne (by decide)).trans e22, (get_ne (by decide)).trans ((get_ne (by decide)).trans e3), ⟨f4, (get_ne (by decide)).trans ((get_ne (by decide)).trans e4)⟩, ⟨f5, (get_ne (by decide)).trans ((get_ne (by decide)).trans e5)⟩, _, _, (get_ne (by decide)).trans get_at, get_at, fun q w hw => ?_⟩)
      unfold upd
      by_cases e : 10 * q + w = 10 * r' + j
      · have g1 : q = r' := by omega
        have g2 : w = j := by omega
        rw [if_pos e, if_pos e, if_pos ⟨g1, by omega⟩, if_pos ⟨g1, by omega⟩, g2]
        exact ⟨rfl, rfl⟩
      · rw [if_neg e, if_neg e]
        have e9 := e8 q w hw
        by_cases g : q = r' ∧ w < j
        · rw [if_pos g, if_pos g] at e9
          rw [if_pos ⟨g.1, by omega⟩, if_pos ⟨g.1, by omega⟩]
          exact e9
        · rw [if_neg g, if_neg g] at e9
          rw [if_neg (fun t => g ⟨t.1, by omega⟩), if_neg (fun t => g ⟨t.1, by omega⟩)]
          exact e9
    · rintro L M2 ⟨rfl, e1, e2, e3, ⟨f4, e4⟩, ⟨f5, e5⟩, ck', ct', e6, e7, e8⟩
      refine q_pa (j := 10 * l + x) (pA_fA (k := 9) (pA_lA rfl) e2 rfl) (pI_eq (pI_add (pI_mul pI_cI (pI_lI rfl)) (pI_lI rfl)) (nI_mul10 _ _)) (pI_lI rfl) ((e1.2.2 77 (by decide)).trans b1) (by decide) (by omega) (by decide) (Or.inl rfl) (wS_retV ⟨rfl, rfl, r', sNr s l x r' (nln s r) (ncd s r), ?_, ?_, if_pos rfl, fun w => if_pos rfl, (get_ne (by decide)).trans e2, (e1.mono (by decide)).set (by decide), ⟨f4, (get_ne (by decide)).trans e4⟩, ⟨f5, (get_ne (by decide)).trans e5⟩⟩)
      · refine hR.newr hl hf hl170 c1 c2 (d2 r hr1710).2 ((get_ne (by decide)).trans (e1.2.2 75 (by decide))) get_at ((get_ne (by decide)).trans e3) ((get_ne (by decide)).trans e6) ((get_ne (by decide)).trans e7) (fun m y hm hy => ?_) (fun q hq => ?_) (fun q w hq hw => ?_)
        · unfold upd
          by_cases e : 10 * m + y = 10 * l + x
          · rw [if_pos e, if_pos ⟨by omega, by omega⟩]
          · rw [if_neg e, if_neg (fun t => e (by omega))]
            exact (b2 m y hm hy).1
        · unfold upd
          by_cases e : q = r'
          · rw [if_pos e, if_pos e]
          · rw [if_neg e, if_neg e]
            exact (d2 q hq).1
        · rw [(e8 q w hw).1, (e8 q w hw).2]
          by_cases e : q = r'
          · rw [if_pos ⟨e, hw⟩, if_pos ⟨e, hw⟩, if_pos e]
            exact d5 r w hr1710 hw
          · rw [if_neg (fun t => e t.1), if_neg (fun t => e t.1), if_neg e]
            exact d5 q w hq hw
      · exact SSet_nr hl ⟨hl, fun j hj hne => ⟨rfl, hf j hj hne⟩, fun _ => rfl, fun _ _ _ _ => rfl, rfl, rfl⟩ c2 hk
end RJ
