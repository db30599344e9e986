/-! cells read one by one: the box, a grid, neighbours -/
def hld (b : Nat → Nat → Int32) (c : Nat) : Bool := ((((oGe (nI (c / 100)) (b 0 0) && oLe (nI (c / 100)) (b 1 0)) && oGe (nI (c / 10 % 10)) (b 0 1)) && oLe (nI (c / 10 % 10)) (b 1 1)) && oGe (nI (c % 10)) (b 0 2)) && oLe (nI (c % 10)) (b 1 2)
section GR
variable {L : Nat} {xs : Nat → Int32} {M : Mm} {a : AS} {Lc : Lv} {Q : Lv → Mm → Nat → Option Value → Prop}
theorem sp_holdsC (h : CCo L xs a M) {c : Nat} (hc : c < 1000) : F_X0_holds [.ref 13, .int (nI c)] M = some (some (.int (bz (hld (zbx a) c))), M) := by
  have hG := h.1.2.1
  obtain ⟨b0, b1⟩ := h.2.2.1
  refine wF_eq (wF_b rfl (Nat.le_of_ble_eq_true rfl) (q_I rfl (pI_vS (pR_I (pI_lI rfl) pR_0) (sp_zOf hc M)) (q_I rfl (pI_vS (pR_I (pI_lI rfl) pR_0) (sp_xOf hc M)) (q_I rfl (pI_vS (pR_I (pI_lI rfl) pR_0) (sp_wOf hc M)) ?_))))
  have pf : ∀ (Lx : Lv) (i : Nat) (v : Int32), v = nI i → i < 3 → lkp Lx 0 = some (.ref 13) → pI (gI 0 (fA 0 0 (lA 0)) (cI v)) Lx M (zbx a 0 i) := fun Lx i v hv hi h0 => by
    have h9 := pI_gI (t := 0) (L := Lx) (pA_fA (k := 0) (pA_lA (i := 0) h0) hG rfl) (pI_cI (v := v)) b0 (by rw [hv]; exact inb_nI hi (by decide))
    rw [hv, nI_clamp (by omega), ← hv] at h9
    exact h9
  have pt : ∀ (Lx : Lv) (i : Nat) (v : Int32), v = nI i → i < 3 → lkp Lx 0 = some (.ref 13) → pI (gI 0 (fA 0 1 (lA 0)) (cI v)) Lx M (zbx a 1 i) := fun Lx i v hv hi h0 => by
    have h9 := pI_gI (t := 0) (L := Lx) (pA_fA (k := 1) (pA_lA (i := 0) h0) hG rfl) (pI_cI (v := v)) b1 (by rw [hv]; exact inb_nI hi (by decide))
    rw [hv, nI_clamp (by omega), ← hv] at h9
    exact h9
  exact l_retZ (v := hld (zbx a) c) (pI_zI (pC_and (pC_and (pC_and (pC_and (pC_and (pC_kI (pI_lI rfl) (pf _ 0 _ rfl (by decide) rfl)) (pC_kI (pI_lI rfl) (pt _ 0 _ rfl (by decide) rfl))) (pC_kI (pI_lI rfl) (pf _ 1 _ rfl (by decide) rfl))) (pC_kI (pI_lI rfl) (pt _ 1 _ rfl (by decide) rfl))) (pC_kI (pI_lI rfl) (pf _ 2 _ rfl (by decide) rfl))) (pC_kI (pI_lI rfl) (pt _ 2 _ rfl (by decide) rfl)))) ⟨rfl, rfl, rfl⟩
theorem sp_isInR (h : RCo L xs a M) (ho : RO a M) {c : Nat} (hc : c < 1000) : F_X12_isIn [.ref 69, .int (nI c)] M = some (some (.int (bz (hld (zbx a) c))), M) := by
  obtain ⟨th, pm, bm, h69⟩ := ho
  obtain ⟨b0, b1⟩ := h.2.2.1
  have pf : ∀ (Lx : Lv) (i : Nat) (v : Int32), v = nI i → i < 3 → lkp Lx 0 = some (.ref 69) → pI (gI 0 (fA 11 17 (lA 0)) (cI v)) Lx M (zbx a 0 i) := fun Lx i v hv hi h0 => by
    have h9 := pI_gI (t := 0) (L := Lx) (pA_fA (k := 17) (pA_lA (i := 0) h0) h69 rfl) (pI_cI (v := v)) b0 (by rw [hv]; exact inb_nI hi (by decide))
    rw [hv, nI_clamp (by omega), ← hv] at h9
    exact h9
  have pt : ∀ (Lx : Lv) (i : Nat) (v : Int32), v = nI i → i < 3 → lkp Lx 0 = some (.ref 69) → pI (gI 0 (fA 11 18 (lA 0)) (cI v)) Lx M (zbx a 1 i) := fun Lx i v hv hi h0 => by
    have h9 := pI_gI (t := 0) (L := Lx) (pA_fA (k := 18) (pA_lA (i := 0) h0) h69 rfl) (pI_cI (v := v)) b1 (by rw [hv]; exact inb_nI hi (by decide))
    rw [hv, nI_clamp (by omega), ← hv] at h9
    exact h9
  have e : ((isIn (nI (c / 100)) (zbx a 0 0) (zbx a 1 0) && isIn (nI (c / 10 % 10)) (zbx a 0 1) (zbx a 1 1)) && isIn (nI (c % 10)) (zbx a 0 2) (zbx a 1 2)) = hld (zbx a) c := by
    unfold isIn hld oGe oLe
    simp only [Bool.and_assoc]
  exact wF_eq (wF_b rfl (Nat.le_of_ble_eq_true rfl) (l_retZ (v := hld (zbx a) c) (pI_eq (pI_zI (pC_and (pC_and (pC_nz (pI_vS (pR_I (pI_eq (pI_div (pI_lI rfl) pI_cI (by decide)) (nI_div rfl (by omega) (by decide) (by decide))) (pR_I (pf _ 0 _ rfl (by decide) rfl) (pR_I (pt _ 0 _ rfl (by decide) rfl) pR_0))) (sp_in _ _ _ _)))
    (pC_nz (pI_vS (pR_I (pI_eq (pI_rem (pI_eq (pI_div (pI_lI rfl) pI_cI (by decide)) (nI_div (m := 10) rfl (by omega) (by decide) (by decide))) pI_cI (by decide)) (nI_rem rfl (by omega) (by decide) (by decide))) (pR_I (pf _ 1 _ rfl (by decide) rfl) (pR_I (pt _ 1 _ rfl (by decide) rfl) pR_0))) (sp_in _ _ _ _))))
    (pC_nz (pI_vS (pR_I (pI_eq (pI_rem (pI_lI rfl) pI_cI (by decide)) (nI_rem rfl (by omega) (by decide) (by decide))) (pR_I (pf _ 2 _ rfl (by decide) rfl) (pR_I (pt _ 2 _ rfl (by decide) rfl) pR_0))) (sp_in _ _ _ _))))) (by rw [e]; rfl)) ⟨rfl, rfl, rfl⟩))
/-- a loop that counts i up while a condition says that it is below N -/
theorem wS_forC {i : Nat} {c : DC} {b : DS} (N : Nat) (hN : N < big) (J : Nat → Lv → Mm → Prop) (hc : ∀ j L M, j ≤ N → J j L M → pC c L M (decide (j < N)))
    (hb : ∀ j L M, j < N → J j L M → wS b L M fun L2 M2 k v => (k = 1 → Q L2 M2 0 none) ∧ (k = 3 → Q L2 M2 3 v) ∧ (¬ k = 1 → ¬ k = 3 → lkp L2 i = some (.int (nI j)) ∧ J (j + 1) (stL i (.int (nI (j + 1))) L2) M2))
    (he : ∀ L M, J N L M → Q L M 0 none) {j : Nat} (hj : j ≤ N) (h0 : J j Lc M) : wS (whS c b (incI i 1)) Lc M Q := by
  refine wS_wh (I := fun m L M => ∃ j, m + j = N ∧ J j L M) ?_ (N - j) Lc M ⟨j, by omega, h0⟩ (by omega)
  rintro m L M ⟨j, hm, hJ⟩
  refine wC_p (hc j L M (by omega) hJ) ⟨fun hr => ?_, fun hr => ?_⟩
  · have e : j = N := by have := of_decide_eq_false hr; omega
    subst e
    exact he _ _ hJ
  · have hl : j < N := of_decide_eq_true hr
    refine (hb j L M hl hJ).mono ?_
    rintro L2 M2 k v ⟨h1, h2, h3⟩
    refine ⟨h1, h2, fun k1 k3 => ?_⟩
    obtain ⟨g1, g2⟩ := h3 k1 k3
    refine wS_inc g1 rfl ⟨rfl, m - 1, by omega, j + 1, by omega, ?_⟩
    rw [← nI_succ]
    exact g2
theorem q_forC {i s a : Nat} {e0 : DI} {c : DC} {body b : DS} (N : Nat) (J : Nat → Lv → Mm → Prop) (hk : kil i Lc = Lc) (ha : pI e0 Lc M (nI a)) (hN : N < big) (haN : a ≤ N) (h0 : J a (Lc.set i (some (.int (nI a)))) M) (hc : ∀ j L M, j ≤ N → J j L M → pC c L M (decide (j < N)))
    (hb : ∀ j L M, j < N → J j L M → wS body L M (bdQ i s j J Q)) (he : ∀ L M, J N L M → wS b (clr s L) M Q) : wS (seqS (scp s (seqS (setI i e0) (whS c body (incI i 1)))) b) Lc M Q := by
  refine q_scp (q_I hk ha (wS_forC N hN J hc (fun j L M hj hJ => ?_) (fun L M hJ => ⟨fun _ => he L M hJ, fun q => absurd rfl q⟩) haN h0))
  refine (hb j L M hj hJ).mono fun L2 M2 c v h => ?_
  rcases h with ⟨rfl, h⟩ | ⟨h3, h1, h4, h5, h6⟩
  · exact ⟨fun q => absurd q (by decide), fun _ => ⟨fun q => absurd q (by decide), fun _ => h⟩, fun _ q => absurd rfl q⟩
  · refine ⟨fun q => absurd q h1, fun q => absurd q h3, fun _ _ => ⟨h4, ?_⟩⟩
    unfold stL
    rw [h5]
    exact h6
end GR
def blk (g : Nat → Int32) (c : Nat) : Bool := oGt (g c) 0
def bls (g : Nat → Int32) (n : Nat) : List Nat := (List.range n).filter (blk g)
theorem bls_succ (g : Nat → Int32) (n : Nat) : bls g (n + 1) = bls g n ++ if blk g n = true then [n] else [] := by
  unfold bls
  rw [List.range_succ, List.filter_append, List.filter_cons, List.filter_nil]
theorem bls_len (g : Nat → Int32) (n : Nat) : (bls g n).length ≤ n := by
  have := List.length_filter_le (blk g) (List.range n)
  rw [List.length_range] at this
  exact this
theorem bls_skip {g : Nat → Int32} {n m : Nat} (h : n ≤ m) (hg : ∀ c, n ≤ c → c < m → g c = -1) : bls g m = bls g n := by
  induction m with
  | zero => rw [show n = 0 by omega]
  | succ m ih =>
    by_cases e : n = m + 1
    · rw [e]
    · have hb : blk g m = false := by unfold blk; rw [hg m (by omega) (by omega)]; rfl
      rw [bls_succ, hb, ih (by omega) fun c h1 h2 => hg c h1 (by omega)]
      exact List.append_nil _
/-- a grid under way: cells below T are read -/
def GI (M : Mm) (q : Nat) (g : Nat → Int32) (T : Nat) : Prop := M.2.2 q = .inr (1, [.ref (q + 1), .ref (q + 2), .int (nI (bls g T).length)]) ∧ (∃ f, M.2.2 (q + 1) = aI 0 1000 f ∧ ∀ c, c < 1000 → f c = if c < T then g c else -1) ∧ ∃ ls, M.2.2 (q + 2) = aI 0 1000 ls ∧ ∀ i, i < (bls g T).length → ls i = nI ((bls g T).getD i 0)
/-- a grid that has been read: the codes, the list of blocks -/
def GrC (M : Mm) (q : Nat) (g : Nat → Int32) (bs : List Nat) : Prop := M.2.2 q = .inr (1, [.ref (q + 1), .ref (q + 2), .int (nI bs.length)]) ∧ (∃ f, M.2.2 (q + 1) = aI 0 1000 f ∧ ∀ c, c < 1000 → f c = g c) ∧ ∃ ls, M.2.2 (q + 2) = aI 0 1000 ls ∧ ∀ i, i < bs.length → ls i = nI (bs.getD i 0)
theorem GI.skip {M : Mm} {q T T' : Nat} {g : Nat → Int32} (h : GI M q g T) (hT : T ≤ T') (hg : ∀ c, T ≤ c → c < T' → g c = -1) : GI M q g T' := by
  obtain ⟨h1, ⟨f, h2, h3⟩, ls, h4, h5⟩ := h
  unfold GI
  rw [bls_skip hT hg]
  refine ⟨h1, ⟨f, h2, fun c hc => ?_⟩, ls, h4, h5⟩
  rw [h3 c hc]
  by_cases e : c < T
  · rw [if_pos e, if_pos (by omega)]
  · by_cases e2 : c < T'
    · rw [if_neg e, if_pos e2, hg c (by omega) e2]
    · rw [if_neg e, if_neg e2]
theorem getD_app {l : List Nat} {x i : Nat} (hi : i < l.length + 1) : (l ++ [x]).getD i 0 = if i = l.length then x else l.getD i 0 := by
  by_cases e : i = l.length
  · rw [if_pos e, e]
    simp
  · rw [if_neg e, List.getD_eq_getElem?_getD, List.getElem?_append_left (by omega), ← List.getD_eq_getElem?_getD]
theorem sp_readRow {M : Mm} {q m : Nat} {g : Nat → Int32} {o : Option Nat} (h : GI M q g (10 * m)) (hm : m < 100) (hq : 5 ≤ q) (hq97 : q + 2 < 97) (hno : o = none → ∀ w, w < 10 → g (10 * m + w) = -1) (hso : ∀ r, o = some r → ∃ n cr x, 97 ≤ r ∧ M.2.2 r = .inr (7, [.ref (r + 1), x]) ∧ M.2.2 (r + 1) = aI 0 n cr ∧ n ≤ 10 ∧ (∀ w, w < n → g (10 * m + w) = cr w) ∧ ∀ w, n ≤ w → w < 10 → g (10 * m + w) = -1) :
    wF F_X1_readRow [.ref q, va_rf o, .int (nI (10 * m))] M fun v M' => v = none ∧ But [q, q + 1, q + 2] M M' ∧ GI M' q g (10 * (m + 1)) := by
  cases o with
  | none =>
    refine wF_b rfl (Nat.le_of_ble_eq_true rfl) (q_if (v := true) (pC_isN (pA_lO (r := none) rfl)) (fun _ => q_retV ⟨rfl, rfl, But.rf, h.skip (by omega) fun c h1 h2 => ?_⟩) (fun q => (by cases q)))
    have := hno rfl (c - 10 * m) (by omega)
    rw [show 10 * m + (c - 10 * m) = c by omega] at this
    exact this
  | some r =>
    obtain ⟨n, cr, x, r97, r1, r2, r3, r4, r5⟩ := hso r rfl
    refine wF_b rfl (Nat.le_of_ble_eq_true rfl) (q_if (v := false) (pC_isN (pA_lO (r := some r) rfl)) (fun q => (by cases q)) (fun _ => ?_))
    refine q_forC n (fun j L M1 => L = [some (.ref q), some (.ref r), some (.int (nI (10 * m))), some (.int (nI j))] ∧ But [q, q + 1, q + 2] M M1 ∧ GI M1 q g (10 * m + j)) rfl (a := 0) pI_cI (by have : big = 1000000 := rfl; omega) (Nat.zero_le _) ⟨rfl, But.rf, h⟩ ?_ ?_ ?_
    · rintro j L M1 hj ⟨rfl, b1, -⟩
      have e1 : M1.2.2 r = .inr (7, [.ref (r + 1), x]) := (b1.2.2 r (by simp; omega)).trans r1
      have e2 : M1.2.2 (r + 1) = aI 0 n cr := (b1.2.2 _ (by simp; omega)).trans r2
      refine pC_eq (pC_and (pC_kI (pI_lI rfl) (pI_nA (pA_fA (k := 0) (pA_lA rfl) e1 rfl) e2 (by decide))) (pC_kI (pI_lI rfl) pI_cI)) ?_
      show (oLt (nI j) (nI n) && oLt (nI j) 10) = _
      rw [oLt_nI (by omega) (by omega), show oLt (nI j) 10 = decide (j < 10) from oLt_nI (b := 10) (by omega) (by decide), ← Bool.decide_and, decide_eq_decide]
      omega
    · rintro j L M1 hj ⟨rfl, b1, g1, ⟨f, g2, g3⟩, ls, g4, g5⟩
      have e1 : M1.2.2 r = .inr (7, [.ref (r + 1), x]) := (b1.2.2 r (by simp; omega)).trans r1
      have e2 : M1.2.2 (r + 1) = aI 0 n cr := (b1.2.2 _ (by simp; omega)).trans r2
      have ev : ∀ Mx : Mm, Mx.2.2 r = .inr (7, [.ref (r + 1), x]) → Mx.2.2 (r + 1) = aI 0 n cr → pI (gI 0 (fA 7 0 (lA 1)) (lI 3)) [some (.ref q), some (.ref r), some (.int (nI (10 * m))), some (.int (nI j))] Mx (cr j) := fun Mx m1 m2 => by
        have h9 := pI_gI (t := 0) (L := [some (.ref q), some (.ref r), some (.int (nI (10 * m))), some (.int (nI j))]) (pA_fA (k := 0) (pA_lA (i := 1) rfl) m1 rfl) (pI_lI (i := 3) rfl) m2 (inb_nI hj (by omega))
        rw [nI_clamp (by omega)] at h9
        exact h9
      have hlen := bls_len g (10 * m + j)
      have hg := r4 j hj
      have fst : ∀ c, c < 1000 → upd f (10 * m + j) (cr j) c = if c < 10 * m + j + 1 then g c else -1 := fun c hc => by
        unfold upd
        by_cases e : c = 10 * m + j
        · rw [if_pos e, if_pos (by omega), e, hg]
        · rw [if_neg e, g3 c hc]
          by_cases e2 : c < 10 * m + j
          · rw [if_pos e2, if_pos (by omega)]
          · rw [if_neg e2, if_neg (by omega)]
      refine q_pa (j := 10 * m + j) (pA_fA (k := 0) (pA_lA rfl) g1 rfl) (pI_eq (pI_add (pI_lI rfl) (pI_lI rfl)) (nI_add _ _)) (ev M1 e1 e2) g2 (by omega) (by omega) (by decide) (Or.inl rfl) ?_
      have g1' : (setC M1 (q + 1) (aI 0 1000 (upd f (10 * m + j) (cr j)))).2.2 q = .inr (1, [.ref (q + 1), .ref (q + 2), .int (nI (bls g (10 * m + j)).length)]) := (get_ne (by omega)).trans g1
      refine l_if (v := blk g (10 * m + j)) (pC_eq (pC_kI (ev _ ((get_ne (by omega)).trans e1) ((get_ne (by omega)).trans e2)) pI_cI) (by unfold blk; rw [hg])) (fun hb => ?_) (fun hb => ?_)
      · have ebl : bls g (10 * m + j + 1) = bls g (10 * m + j) ++ [10 * m + j] := by rw [bls_succ, if_pos hb]
        refine q_pa (j := (bls g (10 * m + j)).length) (pA_fA (k := 1) (pA_lA rfl) g1' rfl) (pI_fI (k := 2) (pA_lA rfl) g1' rfl) (pI_eq (pI_add (pI_lI rfl) (pI_lI rfl)) (nI_add _ _)) ((get_ne (by omega)).trans g4) (by omega) (by omega) (by decide) (Or.inl rfl) ?_
        refine l_up (pA_lA rfl) pI_cI ((get_ne (by omega)).trans g1') rfl (Nat.le_of_ble_eq_true rfl) (Or.inr ⟨by decide, by decide, rfl, rfl, rfl, ((b1.set (by simp)).set (by simp)).set (by simp), ?_, ⟨_, (get_ne (by omega)).trans ((get_ne (by omega)).trans get_at), fst⟩, _, (get_ne (by omega)).trans get_at, fun i hi => ?_⟩)
        · show _ = Sum.inr (1, [Value.ref (q + 1), .ref (q + 2), .int (nI (bls g (10 * m + j + 1)).length)])
          rw [get_at, ebl, List.length_append, nI_1]
          rfl
        · rw [show 10 * m + (j + 1) = 10 * m + j + 1 by omega, ebl, List.length_append] at hi
          show upd ls (bls g (10 * m + j)).length (nI (10 * m + j)) i = nI ((bls g (10 * m + j + 1)).getD i 0)
          rw [ebl, getD_app (by simpa using hi)]
          unfold upd
          by_cases e : i = (bls g (10 * m + j)).length
          · rw [if_pos e, if_pos e]
          · rw [if_neg e, if_neg e]
            refine g5 i ?_
            simp at hi
            omega
      · have ebl : bls g (10 * m + j + 1) = bls g (10 * m + j) := by rw [bls_succ, hb]; exact List.append_nil _
        refine wS_nop (Or.inr ⟨by decide, by decide, rfl, rfl, rfl, b1.set (by simp), ?_⟩)
        show GI _ q g (10 * m + j + 1)
        unfold GI
        rw [ebl]
        exact ⟨g1', ⟨_, get_at, fst⟩, ls, (get_ne (by omega)).trans g4, g5⟩
    · rintro L M1 ⟨rfl, b1, g1⟩
      refine wS_retV ⟨rfl, rfl, b1, g1.skip (by omega) fun c h1 h2 => ?_⟩
      have := r5 (c - 10 * m) (by omega) (by omega)
      rw [show 10 * m + (c - 10 * m) = c by omega] at this
      exact this
