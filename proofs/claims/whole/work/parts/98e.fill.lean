/-! many changes of one yard: how much is made at most; fill, replace -/
theorem sm_drop {n k d : Nat} {p q : Nat → Nat} (hk : k < n) (h : ∀ i, i < n → p i ≤ q i) (hd : p k + d ≤ q k) : sm n p + d ≤ sm n q := by
  induction n with
  | zero => omega
  | succ n ih =>
    rw [sm, sm]
    by_cases e : k = n
    · subst e
      have := sm_le (n := k) (p := p) (q := q) fun i hi => h i (by omega)
      omega
    · have := ih (by omega) fun i hi => h i (by omega)
      have := h n (by omega)
      omega
def pot (y : Nat) (ab : AB) : Nat := sm 10 fun z => b2n (shL ab (10 * y + z)) + sm 10 fun x => b2n (shR ab (10 * y + z) x)
def tot (y : Nat) (a : AS) : Nat := znl a + znr a + pot y (zab a)
theorem b2n_le (b : Bool) : b2n b ≤ 1 := by unfold b2n; split <;> omega
theorem b2n_mono {b c : Bool} (h : b = true → c = true) : b2n b ≤ b2n c := by
  unfold b2n
  by_cases e : b = true
  · rw [if_pos e, if_pos (h e)]; omega
  · rw [if_neg e]; omega
theorem pot_le (y : Nat) (ab : AB) : pot y ab ≤ 110 := by
  have h1 : ∀ z, (sm 10 fun x => b2n (shR ab (10 * y + z) x)) ≤ 10 := fun z => by
    have := sm_le (n := 10) (p := fun x => b2n (shR ab (10 * y + z) x)) (q := fun _ => 1) fun i _ => b2n_le _
    rw [sm_const] at this
    exact this
  have := sm_le (n := 10) (p := fun z => b2n (shL ab (10 * y + z)) + sm 10 fun x => b2n (shR ab (10 * y + z) x)) (q := fun _ => 11) fun i _ => by
    have := h1 i
    have := b2n_le (shL ab (10 * y + i))
    omega
  rw [sm_const] at this
  exact this
theorem shL_set {k x k2 : Nat} {c : Nat → Int32} {ab : AB} (h : shL (aSet k x c ab) k2 = true) : shL ab k2 = true ∧ k2 ≠ k := by
  obtain ⟨j, hj, hne, h⟩ := shL_iff.mp h
  have h : sepL k (asl ab) k2 j = true := h
  unfold sepL at h
  split at h
  · exact absurd (of_decide_eq_true h).symm hne
  · rename_i q
    exact ⟨shL_iff.mpr ⟨j, hj, hne, h⟩, fun t => q (Or.inl t)⟩
theorem shR_set {k x k2 x2 : Nat} {c : Nat → Int32} {ab : AB} (h : shR (aSet k x c ab) k2 x2 = true) : shR ab k2 x2 = true ∧ ¬ (k2 = k ∧ x2 = x) := by
  obtain ⟨j, hj, hne, h⟩ := shR_iff.mp h
  have h : sepR k x (asr ab) k2 x2 j = true := h
  unfold sepR at h
  split at h
  · exact absurd (of_decide_eq_true h).symm hne
  · rename_i q
    exact ⟨shR_iff.mpr ⟨j, hj, hne, h⟩, fun t => q ⟨t.2, Or.inl t.1⟩⟩
theorem pot_mono (u k x : Nat) (c : Nat → Int32) (ab : AB) : pot u (aSet k x c ab) ≤ pot u ab := sm_le fun z _ => Nat.add_le_add (b2n_mono fun h => (shL_set h).1) (sm_le fun x2 _ => b2n_mono fun h => (shR_set h).1)
theorem pot_set {y z x : Nat} (hz : z < 10) (hx : x < 10) (c : Nat → Int32) (ab : AB) : pot y (aSet (10 * y + z) x c ab) + (b2n (shL ab (10 * y + z)) + b2n (shR ab (10 * y + z) x)) ≤ pot y ab := by
  refine sm_drop hz (fun i _ => Nat.add_le_add (b2n_mono fun h => (shL_set h).1) (sm_le fun x2 _ => b2n_mono fun h => (shR_set h).1)) ?_
  have e1 : b2n (shL (aSet (10 * y + z) x c ab) (10 * y + z)) = 0 := if_neg fun h => (shL_set h).2 rfl
  have e2 := sm_drop (n := 10) (k := x) (d := b2n (shR ab (10 * y + z) x)) (p := fun x2 => b2n (shR (aSet (10 * y + z) x c ab) (10 * y + z) x2)) (q := fun x2 => b2n (shR ab (10 * y + z) x2)) hx (fun x2 _ => b2n_mono fun h => (shR_set h).1) (by
    rw [show b2n (shR (aSet (10 * y + z) x c ab) (10 * y + z) x) = 0 from if_neg fun h => (shR_set h).2 ⟨rfl, rfl⟩]
    omega)
  omega
theorem zch_tot {y c : Nat} (hc : c < 1000) (v : Int32) (a : AS) : tot y (zch y c v a) ≤ tot y a := by
  unfold zch
  split
  · have := pot_set (y := y) (z := c / 100) (x := c / 10 % 10) (by omega) (by omega) (fun u => if u = c % 10 then v else aat (zab a) (10 * y + c / 100) (c / 10 % 10) u) (zab a)
    show znl a + b2n _ + (znr a + b2n _) + pot y (aSet _ _ _ _) ≤ znl a + znr a + pot y (zab a)
    omega
  · exact Nat.le_refl _
theorem zch_pot (u y c : Nat) (v : Int32) (a : AS) : pot u (zab (zch y c v a)) ≤ pot u (zab a) := by
  unfold zch
  split
  · exact pot_mono _ _ _ _ _
  · exact Nat.le_refl _
theorem zch_bx (y c : Nat) (v : Int32) (a : AS) : zbx (zch y c v a) = zbx a := by
  unfold zch
  split <;> rfl
/-- what a cell has after a change -/
theorem cdA_zch {y c e u : Nat} {v : Int32} {a : AS} (hu : u < 16) (hy : y < 16) (hc : c < 1000) (he : e < 1000) : cdA (zab (zch y c v a)) u e = if u = y ∧ e = c ∧ ¬ cdA (zab a) y c = -1 then v else cdA (zab a) u e := by
  unfold zch
  by_cases hb : chB (zab a) y c v = true
  · rw [if_pos hb]
    show (if 10 * u + e / 100 = 10 * y + c / 100 ∧ e / 10 % 10 = c / 10 % 10 then (if e % 10 = c % 10 then v else aat (zab a) (10 * y + c / 100) (c / 10 % 10) (e % 10)) else aat (zab a) (10 * u + e / 100) (e / 10 % 10) (e % 10)) = _
    have hn : ¬ cdA (zab a) y c = -1 := fun q => by
      unfold chB at hb
      rw [q, show oEq (-1) (-1) = true from rfl, Bool.true_or] at hb
      exact absurd hb (by decide)
    by_cases q : 10 * u + e / 100 = 10 * y + c / 100 ∧ e / 10 % 10 = c / 10 % 10
    · rw [if_pos q]
      by_cases q2 : e % 10 = c % 10
      · have g : u = y ∧ e = c := by omega
        rw [if_pos q2, if_pos ⟨g.1, g.2, hn⟩]
      · have g : ¬ (u = y ∧ e = c ∧ ¬ cdA (zab a) y c = -1) := fun t => q2 (by rw [t.2.1])
        rw [if_neg q2, if_neg g]
        unfold cdA
        rw [q.1, q.2]
    · have g : ¬ (u = y ∧ e = c ∧ ¬ cdA (zab a) y c = -1) := fun t => q (by rw [t.1, t.2.1]; exact ⟨rfl, rfl⟩)
      rw [if_neg q, if_neg g]
      rfl
  · rw [if_neg hb]
    by_cases q : u = y ∧ e = c ∧ ¬ cdA (zab a) y c = -1
    · rw [if_pos q, q.1, q.2.1]
      unfold chB at hb
      rw [Bool.not_eq_true, Bool.not_eq_false', show oEq (cdA (zab a) y c) (-1) = false from decide_eq_false q.2.2, Bool.false_or] at hb
      exact of_decide_eq_true hb
    · rw [if_neg q]
def stp (y : Nat) (p : AS → Nat → Bool) (v : AS → Nat → Int32) (r : Nat × AS) (c : Nat) : Nat × AS := if p r.2 c = true then (r.1 + b2n (chB (zab r.2) y c (v r.2 c)), zch y c (v r.2 c) r.2) else r
/-- cells of yard y changed one after the other, where p says so, to what v says; how many were changed -/
def chG (y : Nat) (p : AS → Nat → Bool) (v : AS → Nat → Int32) (a : AS) (l : List Nat) : Nat × AS := l.foldl (stp y p v) (0, a)
theorem chG_app (y : Nat) (p : AS → Nat → Bool) (v : AS → Nat → Int32) (a : AS) (l : List Nat) (c : Nat) : chG y p v a (l ++ [c]) = stp y p v (chG y p v a l) c := by
  unfold chG
  rw [List.foldl_append]
  rfl
theorem chG_range (y : Nat) (p : AS → Nat → Bool) (v : AS → Nat → Int32) (a : AS) (j : Nat) : chG y p v a (List.range (j + 1)) = stp y p v (chG y p v a (List.range j)) j := by rw [List.range_succ, chG_app]
theorem chG_take (y : Nat) (p : AS → Nat → Bool) (v : AS → Nat → Int32) (a : AS) {l : List Nat} {j : Nat} (hj : j < l.length) : chG y p v a (l.take (j + 1)) = stp y p v (chG y p v a (l.take j)) (l.getD j 0) := by rw [take_step hj, chG_app]
theorem snoc_ind {P : List Nat → Prop} (h0 : P []) (h1 : ∀ l x, P l → P (l ++ [x])) (l : List Nat) : P l := by
  have key : ∀ m : List Nat, P m.reverse := by
    intro m
    induction m with
    | nil => exact h0
    | cons x m ih => rw [List.reverse_cons]; exact h1 _ _ ih
  have := key l.reverse
  rw [List.reverse_reverse] at this
  exact this
theorem chG_ind {y : Nat} {p : AS → Nat → Bool} {v : AS → Nat → Int32} {a : AS} {P : AS → Prop} (h0 : P a) (hs : ∀ b c, P b → c < 1000 → p b c = true → P (zch y c (v b c) b)) (l : List Nat) (hl : ∀ c ∈ l, c < 1000) : P (chG y p v a l).2 := by
  revert hl
  refine snoc_ind (P := fun l => (∀ c ∈ l, c < 1000) → P (chG y p v a l).2) (fun _ => h0) (fun l x ih hl => ?_) l
  have h1 := ih fun c hc => hl c (List.mem_append_left _ hc)
  rw [chG_app]
  unfold stp
  split
  · rename_i q
    exact hs _ _ h1 (hl x (List.mem_append_right _ (List.mem_singleton.mpr rfl))) q
  · exact h1
theorem chG_le {y : Nat} {p : AS → Nat → Bool} {v : AS → Nat → Int32} {a : AS} (l : List Nat) : (chG y p v a l).1 ≤ l.length := by
  refine snoc_ind (P := fun l => (chG y p v a l).1 ≤ l.length) (Nat.le_refl _) (fun l x ih => ?_) l
  rw [chG_app, List.length_append]
  unfold stp
  split
  · have := b2n_le (chB (zab (chG y p v a l).2) y x (v (chG y p v a l).2 x))
    show (chG y p v a l).1 + b2n _ ≤ _
    simp only [List.length_cons, List.length_nil]
    omega
  · simp only [List.length_cons, List.length_nil]
    omega
/-- what is told of a state that came of such changes -/
def From (y : Nat) (a b : AS) : Prop := OkA b ∧ zkn b = zkn a ∧ zbx b = zbx a ∧ zK b = zK a ∧ tot y b ≤ tot y a
theorem From.rf {y : Nat} {a : AS} (h : OkA a) : From y a a := ⟨h, rfl, rfl, rfl, Nat.le_refl _⟩
theorem From.ch {y c : Nat} {a b : AS} {v : Int32} (h : From y a b) (hy : y < 16) (hc : c < 1000) (hv : cOK (zkn a) v) : From y a (zch y c v b) := by
  obtain ⟨h1, h2, h3, h4, h5⟩ := h
  refine ⟨h1.ch hy hc (by rw [h2]; exact hv), (zch_kn _ _ _ _).trans h2, (zch_bx _ _ _ _).trans h3, ?_, Nat.le_trans (zch_tot hc v b) h5⟩
  rw [← h4]
  unfold zch
  split <;> rfl
theorem From.le {y : Nat} {a b : AS} (h : From y a b) : znl b + znr b ≤ znl a + znr a + 110 := by
  have h1 := h.2.2.2.2
  have h2 := pot_le y (zab a)
  unfold tot at h1
  omega
theorem chG_from {y : Nat} {p : AS → Nat → Bool} {v : AS → Nat → Int32} {a : AS} (hO : OkA a) (hy : y < 16) (hv : ∀ b c, From y a b → c < 1000 → p b c = true → cOK (zkn a) (v b c)) (l : List Nat) (hl : ∀ c ∈ l, c < 1000) : From y a (chG y p v a l).2 := chG_ind (From.rf hO) (fun b c h hc hp => h.ch hy hc (hv b c h hc hp)) l hl
theorem range_lt {n : Nat} (hn : n ≤ 1000) : ∀ c ∈ List.range n, c < 1000 := fun c hc => by have := List.mem_range.mp hc; omega
def fiR (y : Nat) (k t : Int32) (a : AS) (n : Nat) : Nat × AS := chG y (fun _ c => hld (zbx a) c) (fun _ _ => cdf k t) a (List.range n)
def fiS (y k t : Int32) (a : AS) : Int32 × AS := if ((isY y && isIn k 0 (nI (zkn a))) && isT t) = true then (nI (fiR y.toNatClampNeg k t a 1000).1, (fiR y.toNatClampNeg k t a 1000).2) else (-1, a)
theorem not3 (a b c : Bool) : ((!a || !b) || !c) = !((a && b) && c) := by cases a <;> cases b <;> cases c <;> rfl
theorem ok2_fill (L : Nat) (xs : Nat → Int32) (y k t : Int32) : OK2 (Inv2 L xs) F_X11_fill F_X12_fill [.int y, .int k, .int t] := by
  refine ok2_of (fiS y k t) (fun a M hO hb h => ?_) (fun a M hO hb h => wF_b rfl (Nat.le_of_ble_eq_true rfl) (r_st h rfl fun M0 h0 s0 => ?_)) (fun a hO => ?_)
  · unfold fiS
    refine wF_b rfl (Nat.le_of_ble_eq_true rfl) (q_if (pC_eq (pC_or (pC_or (pC_not (pC_nz (pI_vS (pR_I (pI_lI rfl) pR_0) (sp_isYardC _ _)))) (pC_not (pC_nz (pI_vV (pR_A (pA_kinds h.1 rfl) (pR_I (pI_lI rfl) pR_0)) h.1.k7 (sp_isKOC hO.1 h.1.k7 k))))) (pC_not (pC_nz (pI_vS (pR_I (pI_lI rfl) pR_0) (sp_isTurn _ _))))) (not3 _ _ _)) (fun hb1 => ?_) (fun hb1 => ?_))
    · rw [Bool.not_eq_true'] at hb1
      rw [if_neg (by rw [show ((isY y && isIn k 0 (nI (zkn a))) && isT t) = false from hb1]; decide)]
      exact q_ret pI_cI ⟨rfl, rfl, h, COn.rf⟩
    · rw [Bool.not_eq_false'] at hb1
      have hb1 : ((isY y && isIn k 0 (nI (zkn a))) && isT t) = true := hb1
      rw [if_pos hb1]
      dsimp only
      obtain ⟨g0, g3⟩ := Bool.and_eq_true_iff.mp hb1
      obtain ⟨g1, g2⟩ := Bool.and_eq_true_iff.mp g0
      obtain ⟨yn, hy, rfl⟩ := isY_nat g1
      rw [nI_clamp (by omega)]
      have hk := in_nat hO.1 g2
      have ht := isT_in g3
      have hv := cdf_ok hO.1 hk.1 hk.2 ht.1 ht.2
      refine q_I rfl (pI_vS (pR_I (pI_lI rfl) (pR_I (pI_lI rfl) pR_0)) (sp_codeOf _ _ _)) (q_I rfl pI_cI ?_)
      refine q_for 1000 (fun j L' M1 => L' = [some (.ref 5), some (.int (nI yn)), some (.int k), some (.int t), some (.int (cdf k t)), some (.int (nI (fiR yn k t a j).1)), some (.int (nI j))] ∧ CSt L xs (fiR yn k t a j).2 M1 ∧ FrH yn M M1) rfl (a := 0) rfl rfl (by decide) (by decide) ⟨rfl, h, fun _ _ _ _ => rfl⟩ ?_ ?_ ?_
      · rintro j L' M1 ⟨rfl, -⟩
        rfl
      · rintro j L' M1 hj ⟨rfl, c1, c2⟩
        have hfr : From yn a (fiR yn k t a j).2 := chG_from hO (by omega) (fun _ _ _ _ _ => hv.1) _ (range_lt (by omega))
        have hle := hfr.le
        have est : fiR yn k t a (j + 1) = stp yn (fun _ c => hld (zbx a) c) (fun _ _ => cdf k t) (fiR yn k t a j) j := chG_range _ _ _ _ _
        have hh : F_X0_holds [.ref 13, .int (nI j)] M1 = some (some (.int (bz (hld (zbx a) j))), M1) := by rw [← hfr.2.2.1]; exact sp_holdsC c1.1 hj
        refine wS_if (wC_and (wC_p (pC_nz (pI_vV (pR_A (pA_fA (k := 2) (pA_lA rfl) c1.1.o5 rfl) (pR_I (pI_lI rfl) pR_0)) c1.1.1.2.1 hh)) ⟨fun hb2 => ?_, fun hb2 => ⟨fun q => (by cases q), fun _ => wS_nop (Or.inr ⟨by decide, by decide, rfl, rfl, ?_, ?_, c2⟩)⟩⟩))
        · have est2 : fiR yn k t a (j + 1) = ((fiR yn k t a j).1 + b2n (chB (zab (fiR yn k t a j).2) yn j (cdf k t)), zch yn j (cdf k t) (fiR yn k t a j).2) := by rw [est]; exact if_pos hb2
          refine wC_kI (wI_vVw (pR_A (pA_yard c1.1.1 c1.1.o5 hy rfl rfl) (pR_I (pI_lI rfl) (pR_I (pI_lI rfl) pR_0))) (c1.1.y hy) ((sp_changeC c1 hy hj hv.2 (by omega)).mono ?_))
          rintro r M2 ⟨rfl, d1, d2⟩
          refine ⟨_, rfl, wI_cI ?_⟩
          rw [bz_ne]
          refine ⟨fun hb3 => l_inc rfl rfl (Or.inr ⟨by decide, by decide, rfl, rfl, ?_, ?_, c2.tr d2⟩), fun hb3 => wS_nop (Or.inr ⟨by decide, by decide, rfl, rfl, ?_, ?_, c2.tr d2⟩)⟩
          · rw [est2, hb3, nI_1]; rfl
          · rw [est2]; exact d1
          · rw [est2, hb3]; rfl
          · rw [est2]; exact d1
        · rw [show fiR yn k t a (j + 1) = fiR yn k t a j from est.trans (if_neg (by show ¬ hld (zbx a) j = true; rw [hb2]; decide))]; rfl
        · rw [show fiR yn k t a (j + 1) = fiR yn k t a j from est.trans (if_neg (by show ¬ hld (zbx a) j = true; rw [hb2]; decide))]; exact c1
      · rintro L' M1 ⟨rfl, c1, c2⟩
        exact l_ret (pI_lI rfl) ⟨rfl, rfl, c1, c2.con (by omega)⟩
  · obtain ⟨th, pm, bm, h69⟩ := id h0.2.2
    unfold fiS
    refine q_if (pC_eq (pC_or (pC_or (pC_not (pC_nz (pI_vS (pR_I (pI_lI rfl) pR_0) (sp_isYardR _ _)))) (pC_not (pC_nz (pI_vV (pR_A (pA_lA rfl) (pR_I (pI_lI rfl) pR_0)) h69 (sp_isKOR h0.2.2 k))))) (pC_not (pC_nz (pI_vS (pR_I (pI_lI rfl) pR_0) (sp_isTurnR _ _))))) (not3 _ _ _)) (fun hb1 => ?_) (fun hb1 => ?_)
    · rw [Bool.not_eq_true'] at hb1
      rw [if_neg (by rw [show ((isY y && isIn k 0 (nI (zkn a))) && isT t) = false from hb1]; decide)]
      exact q_ret pI_cI ⟨rfl, rfl, h0, s0⟩
    · rw [Bool.not_eq_false'] at hb1
      have hb1 : ((isY y && isIn k 0 (nI (zkn a))) && isT t) = true := hb1
      rw [if_pos hb1]
      dsimp only
      obtain ⟨g0, g3⟩ := Bool.and_eq_true_iff.mp hb1
      obtain ⟨g1, g2⟩ := Bool.and_eq_true_iff.mp g0
      obtain ⟨yn, hy, rfl⟩ := isY_nat g1
      rw [nI_clamp (by omega)]
      have hk := in_nat hO.1 g2
      have hkn := hO.1
      have ht := isT_in g3
      have hv := cdf_ok hO.1 hk.1 hk.2 ht.1 ht.2
      refine q_I rfl pI_cI ?_
      refine q_for 1000 (fun j L' M1 => L' = [some (.ref 69), some (.int (nI yn)), some (.int k), some (.int t), some (.int (nI (fiR yn k t a j).1)), some (.int (nI j))] ∧ RSt L xs (fiR yn k t a j).2 M1 ∧ ROn M0 M1) rfl (a := 0) rfl rfl (by decide) (by decide) ⟨rfl, h0, ROn.rf⟩ ?_ ?_ ?_
      · rintro j L' M1 ⟨rfl, -⟩
        rfl
      · rintro j L' M1 hj ⟨rfl, c1, c2⟩
        obtain ⟨th', pm', bm', h69'⟩ := id c1.2.2
        have hfr : From yn a (fiR yn k t a j).2 := chG_from hO (by omega) (fun _ _ _ _ _ => hv.1) _ (range_lt (by omega))
        have est : fiR yn k t a (j + 1) = stp yn (fun _ c => hld (zbx a) c) (fun _ _ => cdf k t) (fiR yn k t a j) j := chG_range _ _ _ _ _
        have hh : F_X12_isIn [.ref 69, .int (nI j)] M1 = some (some (.int (bz (hld (zbx a) j))), M1) := by rw [← hfr.2.2.1]; exact sp_isInR c1.1 c1.2.2 hj
        have hcj := hfr.1.av.cd (y := yn) (by omega) hj
        refine wS_if (wC_and (wC_p (pC_andD (pC_nz (pI_vV (pR_A (pA_lA rfl) (pR_I (pI_lI rfl) pR_0)) h69' hh)) fun _ => pC_kI (pI_vV (pR_A (pA_lA rfl) (pR_I (pI_lI rfl) (pR_I (pI_lI rfl) pR_0))) h69' (sp_kindR2 c1.1 c1.2.2 (by omega) hj)) pI_cI) ⟨fun hb2 => ?_, fun hb2 => ⟨fun q => (by cases q), fun _ => wS_nop ?_⟩⟩))
        · obtain ⟨hb2, hb3⟩ := Bool.and_eq_true_iff.mp hb2
          rw [oNe_not, kR_no hcj, Bool.not_eq_true'] at hb3
          have hne : ¬ cdA (zab (fiR yn k t a j).2) yn j = -1 := of_decide_eq_false hb3
          have est2 : fiR yn k t a (j + 1) = ((fiR yn k t a j).1 + b2n (chB (zab (fiR yn k t a j).2) yn j (cdf k t)), zch yn j (cdf k t) (fiR yn k t a j).2) := by rw [est]; exact if_pos hb2
          refine wC_kI (wI_vVw (pR_A (pA_lA rfl) (pR_I (pI_lI rfl) (pR_I (pI_lI rfl) (pR_I (pI_lI rfl) (pR_I (pI_lI rfl) pR_0))))) h69' ((sp_changeAt c1 hy hj hne hk.1 (by omega) ht.1 ht.2).mono ?_))
          rintro r M2 ⟨rfl, d1, d2⟩
          refine ⟨_, rfl, wI_cI ?_⟩
          rw [bz_ne]
          refine ⟨fun hb3 => l_inc rfl rfl (Or.inr ⟨by decide, by decide, rfl, rfl, ?_, ?_, c2.tr (d2.ron (by decide))⟩), fun hb3 => wS_nop (Or.inr ⟨by decide, by decide, rfl, rfl, ?_, ?_, c2.tr (d2.ron (by decide))⟩)⟩
          · rw [est2, hb3, nI_1]; rfl
          · rw [est2]; exact d1
          · rw [est2, hb3]; rfl
          · rw [est2]; exact d1
        · have est2 : fiR yn k t a (j + 1) = fiR yn k t a j := by
            rw [est]
            unfold stp
            by_cases q : hld (zbx a) j = true
            · rw [if_pos q]
              rw [q, Bool.true_and, oNe_not, kR_no hcj, Bool.not_eq_false'] at hb2
              have e1 : chB (zab (fiR yn k t a j).2) yn j (cdf k t) = false := by unfold chB; rw [hb2]; rfl
              unfold zch
              rw [e1, if_neg (by decide)]
              rfl
            · rw [if_neg q]
          exact Or.inr ⟨by decide, by decide, rfl, rfl, by rw [est2]; rfl, by rw [est2]; exact c1, c2⟩
      · rintro L' M1 ⟨rfl, c1, c2⟩
        exact l_ret (pI_lI rfl) ⟨rfl, rfl, c1, s0.tr c2⟩
  · unfold fiS
    split
    · rename_i hb1
      obtain ⟨g0, g3⟩ := Bool.and_eq_true_iff.mp hb1
      obtain ⟨g1, g2⟩ := Bool.and_eq_true_iff.mp g0
      obtain ⟨yn, hy, rfl⟩ := isY_nat g1
      rw [nI_clamp (by omega)]
      have hk := in_nat hO.1 g2
      have ht := isT_in g3
      have hv := cdf_ok hO.1 hk.1 hk.2 ht.1 ht.2
      dsimp only
      have hfr : From yn a (fiR yn k t a 1000).2 := chG_from hO (by omega) (fun _ _ _ _ _ => hv.1) _ (range_lt (by omega))
      exact ⟨hfr.1, Nat.le_trans hfr.le (by omega)⟩
    · exact ⟨hO, Nat.le_add_right _ _⟩
