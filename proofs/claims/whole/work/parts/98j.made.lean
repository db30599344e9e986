/-! made: counts of what is held, by places -/
def fstF (f : Nat → Option Nat) (i : Nat) : Bool := (f i).isSome && (List.range i).all fun j => !(decide (f j = f i))
theorem fstF_iff {f : Nat → Option Nat} {k l : Nat} (h : f k = some l) : fstF f k = true ↔ ¬ ∃ j, j < k ∧ f j = some l := by
  unfold fstF
  rw [h]
  simp only [Option.isSome, Bool.true_and, List.all_eq_true, List.mem_range, Bool.not_eq_true', decide_eq_false_iff_not]
  exact ⟨fun q ⟨j, hj, e⟩ => q j hj e, fun q j hj e => q ⟨j, hj, e⟩⟩
/-- so many names there are as places that are their first -/
theorem dst {B : Nat} {f : Nat → Option Nat} (N : Nat) (hB : ∀ i m, i < N → f i = some m → m < B) : (cn B fun r => decide (0 < cn N fun i => decide (f i = some r))) = cn N fun i => fstF f i := by
  induction N with
  | zero => exact cn_none fun r _ => rfl
  | succ N ih =>
    have ih := ih fun i m hi hm => hB i m (by omega) hm
    rw [cn]
    cases hq : f N with
    | none =>
      have e1 : fstF f N = false := by unfold fstF; rw [hq]; rfl
      rw [e1, ← ih, if_neg (by decide), Nat.add_zero]
      refine cn_congr fun r _ => ?_
      rw [cn, hq, if_neg (by simp), Nat.add_zero]
    | some l =>
      have hlB := hB N l (by omega) hq
      have stp : ∀ r, (cn (N + 1) fun i => decide (f i = some r)) = (cn N fun i => decide (f i = some r)) + if l = r then 1 else 0 := fun r => by
        rw [cn, hq]
        simp
      rw [← ih]
      have key := cn_at (p := fun r => decide (0 < cn (N + 1) fun i => decide (f i = some r))) (q := fun r => decide (0 < cn N fun i => decide (f i = some r))) hlB fun r _ hne => by
        rw [stp, if_neg (fun t => hne t.symm), Nat.add_zero]
      rw [if_pos (c := decide (0 < cn (N + 1) fun i => decide (f i = some l)) = true) (by rw [stp, if_pos rfl]; exact decide_eq_true (by omega))] at key
      by_cases e : ∃ j, j < N ∧ f j = some l
      · obtain ⟨j, hj, hjl⟩ := e
        have e1 : fstF f N = false := by rw [Bool.eq_false_iff, ne_eq, fstF_iff hq]; exact fun q => q ⟨j, hj, hjl⟩
        have e2 := cn_pos (p := fun i => decide (f i = some l)) hj (decide_eq_true hjl)
        rw [if_pos (c := decide (0 < cn N fun i => decide (f i = some l)) = true) (decide_eq_true (by omega))] at key
        rw [e1, if_neg (by decide)]
        omega
      · have e1 : fstF f N = true := (fstF_iff hq).mpr e
        have e2 : (cn N fun i => decide (f i = some l)) = 0 := cn_none fun j hj => decide_eq_false fun q => e ⟨j, hj, q⟩
        rw [if_neg (c := decide (0 < cn N fun i => decide (f i = some l)) = true) (by rw [e2]; decide)] at key
        rw [e1, if_pos rfl]
        omega
def rwf (s : SN) (i : Nat) : Option Nat := rwo s (i / 10) (i % 10)
def fstL (ab : AB) (k : Nat) : Bool := aly ab k && (List.range k).all fun j => !(asl ab j k)
def fstR (ab : AB) (i : Nat) : Bool := arp ab (i / 10) (i % 10) && (List.range i).all fun j => !(decide (j % 10 = i % 10) && asr ab (j / 10) (j % 10) (i / 10))
theorem fstL_eq {s : SN} {ab : AB} (hA : Ag s ab) {k : Nat} (hk : k < 160) : fstF (nf s) k = fstL ab k := by
  unfold fstF fstL
  rw [(hA k hk).1]
  cases hq : nf s k with
  | none => rfl
  | some l =>
    dsimp only [Option.isSome]
    rw [Bool.true_and, Bool.true_and, Bool.eq_iff_iff, List.all_eq_true, List.all_eq_true]
    refine forall_congr' fun j => forall_congr' fun hj => ?_
    have hj := List.mem_range.mp hj
    rw [(hA j (by omega)).2.1 k hk, hq]
    cases nf s j <;> simp
theorem fstR_eq {s : SN} {ab : AB} (hA : Ag s ab) (hX : RowX s) {i : Nat} (hi : i < 1600) : fstF (rwf s) i = fstR ab i := by
  have hk : i / 10 < 160 := by omega
  have hx : i % 10 < 10 := by omega
  unfold fstF fstR
  rw [((hA _ hk).2.2 _ hx).1]
  show ((rwf s i).isSome && _) = ((rwf s i).isSome && _)
  cases hq : rwf s i with
  | none => rfl
  | some r =>
    dsimp only [Option.isSome]
    rw [Bool.true_and, Bool.true_and, Bool.eq_iff_iff, List.all_eq_true, List.all_eq_true]
    refine forall_congr' fun j => forall_congr' fun hj => ?_
    have hj := List.mem_range.mp hj
    have hkj : j / 10 < 160 := by omega
    have hxj : j % 10 < 10 := by omega
    by_cases e : j % 10 = i % 10
    · rw [decide_eq_true e, Bool.true_and, ((hA _ hkj).2.2 _ hxj).2.1 _ hk, e]
      have h1 : rwo s (j / 10) (i % 10) = rwf s j := by unfold rwf; rw [e]
      have h2 : rwo s (i / 10) (i % 10) = rwf s i := rfl
      rw [h1, h2, hq]
      cases rwf s j <;> simp
    · rw [decide_eq_false e, Bool.false_and]
      have : ¬ rwf s j = some r := fun q => e (RowX_iff.mp hX _ _ _ _ r hkj hk hxj hx q hq)
      simp [this]
theorem rcF_pos {s : SN} {r : Nat} (hB : ∀ j m, j < 160 → nf s j = some m → m < BC) : 0 < rcF (ng s) (hcnt s) r ↔ ∃ k x, k < 160 ∧ x < 10 ∧ rwo s k x = some r := by
  constructor
  · intro h
    refine Classical.byContradiction fun hno => ?_
    rw [rcF_0 fun j x hj hx q => hno ⟨j, x, hj, hx, q⟩] at h
    exact absurd h (Nat.lt_irrefl 0)
  · rintro ⟨k, x, hk, hx, hr⟩
    cases hm : nf s k with
    | none => rw [rwo_none hm] at hr; cases hr
    | some m =>
      rw [rwo_some hm] at hr
      have h1 := sm_pos (p := fun l => if hcnt s l = 0 then 0 else cn 10 fun x => decide (ng s l x = some r)) (hB k m hk hm)
      have h2 := hcnt_pos hk hm
      rw [if_neg (c := hcnt s m = 0) (by omega)] at h1
      have h3 := cn_pos (p := fun x => decide (ng s m x = some r)) hx (decide_eq_true hr)
      exact Nat.lt_of_lt_of_le h3 h1
theorem rwf_ex (s : SN) (r : Nat) : 0 < (cn 1600 fun i => decide (rwf s i = some r)) ↔ ∃ k x, k < 160 ∧ x < 10 ∧ rwo s k x = some r := by
  constructor
  · intro h
    refine Classical.byContradiction fun hno => ?_
    have e0 : (cn 1600 fun i => decide (rwf s i = some r)) = 0 := cn_none fun i hi => decide_eq_false fun q => hno ⟨i / 10, i % 10, by omega, by omega, q⟩
    rw [e0] at h
    exact absurd h (Nat.lt_irrefl 0)
  · rintro ⟨k, x, hk, hx, hr⟩
    refine cn_pos (k := 10 * k + x) (p := fun i => decide (rwf s i = some r)) (show 10 * k + x < 1600 by omega) (decide_eq_true ?_)
    unfold rwf
    rw [show (10 * k + x) / 10 = k by omega, show (10 * k + x) % 10 = x by omega]
    exact hr
theorem lh_ab {s : SN} {ab : AB} (hA : Ag s ab) (hB : ∀ j m, j < 160 → nf s j = some m → m < BC) : lhF (hcnt s) = cn 160 (fstL ab) := by
  have h := dst (f := nf s) 160 hB
  rw [cn_congr (p := fun i => fstF (nf s) i) (q := fstL ab) fun i hi => fstL_eq hA hi] at h
  exact h
theorem rh_ab {s : SN} {ab : AB} (hA : Ag s ab) (hX : RowX s) (hB : ∀ j m, j < 160 → nf s j = some m → m < BC) (hR : ∀ j x r, j < 160 → x < 10 → rwo s j x = some r → r < BC) : rhF (rcF (ng s) (hcnt s)) = cn 1600 (fstR ab) := by
  have h := dst (B := BC) (f := rwf s) 1600 fun i m hi hm => hR _ _ m (by omega) (by omega) hm
  rw [cn_congr (p := fun i => fstF (rwf s) i) (q := fstR ab) fun i hi => fstR_eq hA hX hi] at h
  rw [← h]
  refine cn_congr fun r _ => ?_
  rw [decide_eq_decide, rcF_pos hB, rwf_ex]
def maV (w : Int32) (a : AS) : Int32 := if w = 0 then nI (znl a) else if w = 1 then nI (znr a) else if w = 2 then nI (cn 160 (fstL (zab a))) else if w = 3 then nI (cn 1600 (fstR (zab a))) else if w = 4 then nI (zkn a) else if w = 5 then nI (cn 12 fun s => oNe (zkp a s) 0) else if w = 6 then nI (zfe a) else -1
theorem maV_no {w : Int32} {a : AS} (h : ∀ k, k < 7 → ¬ w = nI k) : maV w a = -1 := by
  unfold maV
  rw [if_neg (show ¬ w = 0 from h 0 (by decide)), if_neg (show ¬ w = 1 from h 1 (by decide)), if_neg (show ¬ w = 2 from h 2 (by decide)), if_neg (show ¬ w = 3 from h 3 (by decide)), if_neg (show ¬ w = 4 from h 4 (by decide)), if_neg (show ¬ w = 5 from h 5 (by decide)), if_neg (show ¬ w = 6 from h 6 (by decide))]
section SW3
variable {L : Lv} {M : Mm} {Q : Lv → Mm → Nat → Option Value → Prop}
theorem wS_swD {e : DI} {cs : List DS} {d : DS} {w : Int32} (h : pI e L M w) (hn : ¬ (0 ≤ w.toInt ∧ w.toInt < cs.length)) (k : wS d L M fun L2 M2 c v => (c = 1 → Q L2 M2 0 none) ∧ (¬ c = 1 → Q L2 M2 c v)) : wS (swS e 0 cs d) L M Q := by
  obtain ⟨L2, M2, c, v, h3, h4, h5⟩ := k
  have hS : swS e 0 cs d L M = (d L M).map fun r => if r.2.2.1 = 1 then (r.1, r.2.1, 0, none) else r := by
    unfold swS
    rw [show e L M = some (w, M) from h]
    simp only [Option.bind_some]
    by_cases q : w.toInt < 0
    · rw [if_pos q]
    · rw [if_neg q, List.getElem?_eq_none (by omega)]
      rfl
  by_cases e1 : c = 1
  · refine ⟨L2, M2, 0, none, ?_, h4 e1⟩
    rw [hS, h3]
    simp only [Option.map_some]
    rw [if_pos e1]
  · refine ⟨L2, M2, c, v, ?_, h5 e1⟩
    rw [hS, h3]
    simp only [Option.map_some]
    rw [if_neg e1]
end SW3
theorem w_cases (w : Int32) (n : Nat) (hn : n < 100) : (∃ k, k < n ∧ w = nI k) ∨ (¬ (0 ≤ w.toInt ∧ w.toInt < n) ∧ ∀ k, k < n → ¬ w = nI k) := by
  by_cases q : 0 ≤ w.toInt ∧ w.toInt < n
  · exact Or.inl ⟨w.toInt.toNat, by omega, nI_tn q.1⟩
  · exact Or.inr ⟨q, fun k hk e => q (by rw [e, nI_toInt (by omega)]; omega)⟩
theorem ok2_made (L : Nat) (xs : Nat → Int32) (w : Int32) : OK2 (Inv2 L xs) F_X11_made F_X12_made [.int w] := by
  refine ok2_rd (maV w) (fun a M hO hb h => ?_) (fun a M hO hb h => wF_b rfl (Nat.le_of_ble_eq_true rfl) (r_st h rfl fun M0 h0 s0 => ?_))
  · obtain ⟨s, hC, hA⟩ := h.1.rep
    have hBC : BC = 700000 := rfl
    have m1 := h.1.2.2.2.2.2.2.1
    have h6 := hC.cl.2
    have hB : ∀ j m, j < 160 → nf s j = some m → m < BC := fun j m hj hm => by have := hC.lt hj hm; omega
    rw [lh_ab hA hB, rh_ab hA hC.2.2.2 hB fun j x r hj hx hr => by have := hC.rlt hj hx hr; omega] at h6
    refine wF_b rfl (Nat.le_of_ble_eq_true rfl) ?_
    rcases w_cases w 7 (by decide) with ⟨k, hk, rfl⟩ | ⟨hn, hne⟩
    · refine wS_swN (n := k) (pI_lI rfl) (by omega) ?_
      rcases (show k = 0 ∨ k = 1 ∨ k = 2 ∨ k = 3 ∨ k = 4 ∨ k = 5 ∨ k = 6 by omega) with rfl | rfl | rfl | rfl | rfl | rfl | rfl
      · exact l_ret (pI_fI (k := 0) (pA_fA (k := 0) (pA_lA rfl) h.1.o5 rfl) h6 rfl) ⟨fun q => absurd q (by decide), fun _ => ⟨rfl, rfl, h, COn.rf⟩⟩
      · exact l_ret (pI_fI (k := 1) (pA_fA (k := 0) (pA_lA rfl) h.1.o5 rfl) h6 rfl) ⟨fun q => absurd q (by decide), fun _ => ⟨rfl, rfl, h, COn.rf⟩⟩
      · exact l_ret (pI_fI (k := 2) (pA_fA (k := 0) (pA_lA rfl) h.1.o5 rfl) h6 rfl) ⟨fun q => absurd q (by decide), fun _ => ⟨rfl, rfl, h, COn.rf⟩⟩
      · exact l_ret (pI_fI (k := 3) (pA_fA (k := 0) (pA_lA rfl) h.1.o5 rfl) h6 rfl) ⟨fun q => absurd q (by decide), fun _ => ⟨rfl, rfl, h, COn.rf⟩⟩
      · exact l_ret (pI_fI (k := 5) (pA_fA (k := 1) (pA_lA rfl) h.1.o5 rfl) h.1.k7 rfl) ⟨fun q => absurd q (by decide), fun _ => ⟨rfl, rfl, h, COn.rf⟩⟩
      · have hsl : F_X11_slotsKeeping [.ref 5] M = some (some (.int (nI (cn 12 fun s => oNe (zkp a s) 0))), M) := by
          refine wF_eq (wF_b rfl (Nat.le_of_ble_eq_true rfl) (q_I rfl pI_cI ?_))
          refine q_for 12 (fun j L' M1 => L' = [some (.ref 5), some (.int (nI (cn j fun s => oNe (zkp a s) 0))), some (.int (nI j))] ∧ M1 = M) rfl (a := 0) rfl rfl (by decide) (by decide) ⟨rfl, rfl⟩ ?_ ?_ ?_
          · rintro j L' M1 ⟨rfl, -⟩
            rfl
          · rintro j L' M1 hj ⟨rfl, rfl⟩
            have p1 := pI_gI (t := 1) (L := [some (.ref 5), some (.int (nI (cn j fun s => oNe (zkp a s) 0))), some (.int (nI j))]) (pA_fA (k := 5) (pA_lA (i := 0) rfl) h.1.o5 rfl) (pI_lI (i := 2) rfl) h.1.2.2.2.1 (inb_nI hj (by decide))
            rw [nI_clamp (by omega)] at p1
            refine l_if (pC_kI p1 pI_cI) (fun hb => ?_) (fun hb => ?_)
            · refine l_inc rfl rfl (Or.inr ⟨by decide, by decide, rfl, rfl, ?_, rfl⟩)
              rw [cn, hb, if_pos rfl, nI_1]; rfl
            · refine wS_nop (Or.inr ⟨by decide, by decide, rfl, rfl, ?_, rfl⟩)
              rw [cn, hb]; rfl
          · rintro L' M1 ⟨rfl, rfl⟩
            exact l_ret (pI_lI rfl) ⟨rfl, rfl, rfl⟩
        exact l_ret (pI_vV (pR_A (pA_lA rfl) pR_0) h.1.o5 hsl) ⟨fun q => absurd q (by decide), fun _ => ⟨rfl, rfl, h, COn.rf⟩⟩
      · exact l_ret (pI_fI (k := 13) (pA_lA rfl) h.1.o5 rfl) ⟨fun q => absurd q (by decide), fun _ => ⟨rfl, rfl, h, COn.rf⟩⟩
    · refine wS_swD (pI_lI rfl) hn ?_
      refine l_ret pI_cI ⟨fun q => absurd q (by decide), fun _ => ⟨rfl, by rw [maV_no hne], h, COn.rf⟩⟩
  · obtain ⟨th, pm, bm, h69⟩ := id h0.2.2
    obtain ⟨s, hR, hA⟩ := h0.1.rep
    have hme := sp_meets h69 hR h0.2.1.2.1 h0.2.1.2.2.1
    have e2 : (cn 160 fun k => fst1 s k) = cn 160 (fstL (zab a)) := cn_congr fun i hi => fstL_eq hA hi
    rw [e2] at hme
    have back : ∀ M1, But [81, 82] M0 M1 → (∃ f, M1.2.2 82 = aI 1 170 f) → (∃ f, M1.2.2 81 = aI 1 1710 f) → RSt L xs a M1 := fun M1 b1 b2 b3 => by
      have := h0.put (s' := s) (b1.mono (by decide)) (hR.fr (sm_but b1 (by decide))) hA ((b1.2.2 69 (by decide)).trans h69) b3 b2
      exact this
    refine q_I rfl pI_cI ?_
    rcases w_cases w 7 (by decide) with ⟨k, hk, rfl⟩ | ⟨hn, hne⟩
    · refine wS_swN (n := k) (pI_lI rfl) (by omega) ?_
      rcases (show k = 0 ∨ k = 1 ∨ k = 2 ∨ k = 3 ∨ k = 4 ∨ k = 5 ∨ k = 6 by omega) with rfl | rfl | rfl | rfl | rfl | rfl | rfl
      · exact l_ret (pI_fI (k := 13) (pA_lA rfl) h69 rfl) ⟨fun q => absurd q (by decide), fun _ => ⟨rfl, rfl, h0, s0⟩⟩
      · exact l_ret (pI_fI (k := 14) (pA_lA rfl) h69 rfl) ⟨fun q => absurd q (by decide), fun _ => ⟨rfl, rfl, h0, s0⟩⟩
      · refine wS_retI (wI_vVw (pR_A (pA_lA rfl) pR_0) h69 (hme.mono ?_))
        rintro v M1 ⟨rfl, c1, c2, f, c3, c4⟩
        exact ⟨_, rfl, fun q => absurd q (by decide), fun _ => ⟨rfl, rfl, back M1 c1 c2 ⟨f, c3⟩, s0.tr (c1.ron (by decide))⟩⟩
      · refine q_Iw rfl (wI_vVw (pR_A (pA_lA rfl) pR_0) h69 (hme.mono ?_))
        rintro v M1 ⟨rfl, c1, c2, f, c3, c4⟩
        have h691 : M1.2.2 69 = .inr (11, fsRv th (zkn a) (znl a) (znr a) pm (zfe a) bm) := (c1.2.2 69 (by decide)).trans h69
        refine ⟨_, rfl, q_I rfl pI_cI ?_⟩
        refine q_for 1710 (fun j L' M2 => L' = [some (.ref 69), some (.int (nI 3)), some (.int (nI (cn j fun r => oNe (f r) 0))), some (.int (nI j))] ∧ M2 = M1) rfl (a := 0) rfl rfl (by decide) (by decide) ⟨rfl, rfl⟩ ?_ ?_ ?_
        · rintro j L' M1 ⟨rfl, -⟩
          rfl
        · rintro j L' M2 hj ⟨rfl, rfl⟩
          have p1 := pI_gI (t := 1) (L := [some (.ref 69), some (.int (nI 3)), some (.int (nI (cn j fun r => oNe (f r) 0))), some (.int (nI j))]) (pA_fA (k := 15) (pA_lA (i := 0) rfl) h691 rfl) (pI_lI (i := 3) rfl) c3 (inb_nI hj (by decide))
          rw [nI_clamp (by omega)] at p1
          exact l_I rfl (pI_eq (pI_add (pI_lI rfl) (pI_tI (pC_kI p1 pI_cI) pI_cI pI_cI)) (cn_add j _)) (Or.inr ⟨by decide, by decide, rfl, rfl, rfl, rfl⟩)
        · rintro L' M2 ⟨rfl, rfl⟩
          refine l_ret (pI_lI rfl) ⟨fun q => absurd q (by decide), fun _ => ⟨rfl, ?_, back M2 c1 c2 ⟨f, c3⟩, s0.tr (c1.ron (by decide))⟩⟩
          have e3 : (cn 1710 fun r => oNe (f r) 0) = cn 1600 (fstR (zab a)) := by
            obtain ⟨rw9, b1, b2⟩ := hR.2.1
            obtain ⟨hd, a1, a2⟩ := hR.1
            have h := dst (B := 1710) (f := rwf s) 1600 fun i m hi hm => by
              unfold rwf rwo at hm
              obtain ⟨l, hl, hm⟩ := Option.bind_eq_some_iff.mp hm
              exact (b2 l (i % 10) ((a2 (i / 10) (by omega)).2 l hl) (by omega)).2 m hm
            rw [cn_congr (p := fun i => fstF (rwf s) i) (q := fstR (zab a)) fun i hi => fstR_eq hA hR.2.2.2.2 hi] at h
            rw [← h]
            refine cn_congr fun r hr => ?_
            obtain ⟨g1, g2⟩ := c4 r hr
            have : oNe (f r) 0 = decide (f r = 1) := by
              unfold oNe
              rw [decide_eq_decide]
              rcases g1 with q | q <;> rw [q] <;> decide
            rw [this, decide_eq_decide, g2, rwf_ex]
          rw [e3]
          rfl
      · exact l_ret (pI_fI (k := 1) (pA_lA rfl) h69 rfl) ⟨fun q => absurd q (by decide), fun _ => ⟨rfl, rfl, h0, s0⟩⟩
      · refine q_for 12 (fun j L' M2 => L' = [some (.ref 69), some (.int (nI 5)), some (.int (nI (cn j fun s => oNe (zkp a s) 0))), some (.int (nI j))] ∧ M2 = M0) rfl (a := 0) rfl rfl (by decide) (by decide) ⟨rfl, rfl⟩ ?_ ?_ ?_
        · rintro j L' M1 ⟨rfl, -⟩
          rfl
        · rintro j L' M2 hj ⟨rfl, rfl⟩
          have p1 := pI_gI (t := 1) (L := [some (.ref 69), some (.int (nI 5)), some (.int (nI (cn j fun s => oNe (zkp a s) 0))), some (.int (nI j))]) (pA_fA (k := 8) (pA_lA (i := 0) rfl) h69 rfl) (pI_lI (i := 3) rfl) h0.1.2.2.2.1 (inb_nI hj (by decide))
          rw [nI_clamp (by omega)] at p1
          exact l_I rfl (pI_eq (pI_add (pI_lI rfl) (pI_tI (pC_kI p1 pI_cI) pI_cI pI_cI)) (cn_add j _)) (Or.inr ⟨by decide, by decide, rfl, rfl, rfl, rfl⟩)
        · rintro L' M2 ⟨rfl, rfl⟩
          exact l_ret (pI_lI rfl) ⟨fun q => absurd q (by decide), fun _ => ⟨rfl, rfl, h0, s0⟩⟩
      · exact l_ret (pI_fI (k := 26) (pA_lA rfl) h69 rfl) ⟨fun q => absurd q (by decide), fun _ => ⟨rfl, rfl, h0, s0⟩⟩
    · refine wS_swD (pI_lI rfl) hn ?_
      refine l_ret pI_cI ⟨fun q => absurd q (by decide), fun _ => ⟨rfl, by rw [maV_no hne], h0, s0⟩⟩
