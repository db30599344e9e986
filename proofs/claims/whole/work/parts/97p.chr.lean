/-! the reference's changes of cells -/
theorem RSt.put {L : Nat} {xs : Nat → Int32} {a : AS} {M M' : Mm} {s' : SN} {nl' nr' : Nat} {ab' : AB} {th pm bm : Int32} (h : RSt L xs a M) (hb : But [69, 75, 77, 78, 79, 80, 81, 82] M M') (hR : RRep M' s') (hA : Ag s' ab') (h69 : M'.2.2 69 = .inr (11, fsRv th (zkn a) nl' nr' pm (zfe a) bm)) (h81 : ∃ f, M'.2.2 81 = aI 1 1710 f) (h82 : ∃ f, M'.2.2 82 = aI 1 170 f) : RSt L xs (zSet a nl' nr' ab') M' := by
  obtain ⟨⟨a1, ⟨k0, k1, k2, k3, k4⟩, ⟨b0, b1⟩, c, ⟨d1, d2⟩, -⟩, ⟨h2, -, -, ⟨f5, h5⟩⟩, -⟩ := h
  have s : ∀ b, b ∉ [69, 75, 77, 78, 79, 80, 81, 82] → M'.2.2 b = M.2.2 b := hb.2.2
  refine ⟨⟨fun b hb => (s b ?_).trans (a1 b hb), ⟨(s _ (by decide)).trans k0, (s _ (by decide)).trans k1, (s _ (by decide)).trans k2, (s _ (by decide)).trans k3, (s _ (by decide)).trans k4⟩, ⟨(s _ (by decide)).trans b0, (s _ (by decide)).trans b1⟩, (s _ (by decide)).trans c, ⟨(s _ (by decide)).trans d1, (s _ (by decide)).trans d2⟩, ⟨s', hR, hA⟩⟩, ⟨fun b hb => ?_, h81, h82, ⟨f5, (s _ (by decide)).trans h5⟩⟩, ⟨th, pm, bm, h69⟩⟩
  · simp only [List.mem_cons, List.not_mem_nil, or_false]
    omega
  · obtain ⟨f, hf⟩ := h2 b hb
    have all : ∀ b ∈ [85, 86, 88, 89, 90, 93, 94, 95], b ∉ [69, 75, 77, 78, 79, 80, 81, 82] := by decide
    exact ⟨f, (s b (all b hb)).trans hf⟩
theorem RRep.cel {M M' : Mm} {s : SN} {r w : Nat} {k t v : Int32} {ck ct : Nat → Int32} (hR : RRep M s) (hr : r < 1710) (hw : w < 10) (h79 : M.2.2 79 = aI 0 17100 ck) (h80 : M.2.2 80 = aI 0 17100 ct) (hO : ∀ b, b ≠ 79 → b ≠ 80 → M'.2.2 b = M.2.2 b) (e79 : M'.2.2 79 = aI 0 17100 (upd ck (10 * r + w) k)) (e80 : M'.2.2 80 = aI 0 17100 (upd ct (10 * r + w) t))
    (k1 : 0 ≤ k.toInt) (k2 : k.toInt ≤ 30) (t1 : 0 ≤ t.toInt) (t2 : t.toInt < 24) (h0 : k = 0 → t = 0) (hv : v = 24 * k + t) : RRep M' (sCel s r w v) := by
  obtain ⟨⟨hd, a1, a2⟩, ⟨rw9, b1, b2⟩, ⟨ln, c1, c2⟩, ⟨ck', ct', d1, d2, d3⟩, e⟩ := hR
  have ec : ck' = ck := by rw [d1] at h79; injection h79 with h; injection h with _ h; injection h with _ h; injection h with h
  have et : ct' = ct := by rw [d2] at h80; injection h80 with h; injection h with _ h; injection h with _ h; injection h with h
  subst ec et
  refine ⟨⟨hd, (hO _ (by decide) (by decide)).trans a1, a2⟩, ⟨rw9, (hO _ (by decide) (by decide)).trans b1, b2⟩, ⟨ln, (hO _ (by decide) (by decide)).trans c1, c2⟩, ⟨_, _, e79, e80, fun q u hq hu => ?_⟩, e⟩
  show _ ∧ _ ∧ _ ∧ _ ∧ _ ∧ (if q = r ∧ u = w then v else ncd s q u) = _
  unfold upd
  by_cases g : 10 * q + u = 10 * r + w
  · rw [if_pos g, if_pos g, if_pos ⟨by omega, by omega⟩]
    exact ⟨k1, k2, t1, t2, h0, hv⟩
  · rw [if_neg g, if_neg g, if_neg (fun q => g (by omega))]
    exact d3 q u hq hu
theorem cdf_eq (k t : Int32) : cdf k t = 24 * k + (if oEq k 0 = true then 0 else t) := by
  unfold cdf
  by_cases e : oEq k 0 = true
  · rw [if_pos e, if_pos e]
    have : k = 0 := of_decide_eq_true e
    subst this
    rfl
  · rw [if_neg e, if_neg e]
theorem code_eq {k t k' t' : Int32} (h1 : 0 ≤ k.toInt) (h2 : k.toInt ≤ 30) (h3 : 0 ≤ t.toInt) (h4 : t.toInt < 24) (h1' : 0 ≤ k'.toInt) (h2' : k'.toInt ≤ 30) (h3' : 0 ≤ t'.toInt) (h4' : t'.toInt < 24) : oEq (24 * k + t) (24 * k' + t') = (oEq k k' && oEq t t') := by
  unfold oEq
  rw [← Bool.decide_and, decide_eq_decide]
  refine ⟨fun e => ⟨?_, ?_⟩, fun ⟨a, b⟩ => by rw [a, b]⟩
  · rw [← code_div h1 h2 h3 h4, e, code_div h1' h2' h3' h4']
  · rw [← code_rem h1 h2 h3 h4, e, code_rem h1' h2' h3' h4']
theorem sp_changeR {L : Nat} {xs : Nat → Int32} {a : AS} {M : Mm} {y z x w : Nat} {k0 t0 : Int32} (h : RSt L xs a M) (hy : y < 4) (hz : z < 10) (hx : x < 10) (hw : w < 10) (hne : ¬ aat (zab a) (10 * y + z) x w = -1) (k1 : 0 ≤ k0.toInt) (k2 : k0.toInt ≤ 30) (t1 : 0 ≤ t0.toInt) (t2 : t0.toInt < 24) :
    wF F_X12_change [.ref 69, .int (nI y), .int (nI z), .int (nI x), .int (nI w), .int k0, .int t0] M fun r M' => r = some (.int (bz (chB (zab a) y (100 * z + 10 * x + w) (cdf k0 t0)))) ∧ RSt L xs (zch y (100 * z + 10 * x + w) (cdf k0 t0) a) M' ∧ But [69, 75, 77, 78, 79, 80, 81, 82] M M' := by
  have hk : 10 * y + z < 160 := by omega
  obtain ⟨s, hR, hA⟩ := h.1.rep
  obtain ⟨th, pm, bm, h69⟩ := id h.2.2
  obtain ⟨l, r, hl, hr, hkr, hwl, -, -, hev⟩ := hA.there hk hx hw hne
  obtain ⟨p1, hr1710⟩ := sp_cell h69 hR (h := y) (by omega) hz hx hw hkr
  obtain ⟨ck, ct, d1, d2, d3⟩ := hR.2.2.2.1
  obtain ⟨c1, c2, c3, c4, c5, c6⟩ := d3 r w hr1710 hw
  let t : Int32 := if oEq k0 0 = true then 0 else t0
  have ht1 : 0 ≤ t.toInt := by show 0 ≤ (if oEq k0 0 = true then (0 : Int32) else t0).toInt; split <;> first | decide | exact t1
  have ht2 : t.toInt < 24 := by show (if oEq k0 0 = true then (0 : Int32) else t0).toInt < 24; split <;> first | decide | exact t2
  have hcd : cdA (zab a) y (100 * z + 10 * x + w) = 24 * ck (10 * r + w) + ct (10 * r + w) := by rw [cdA_at _ hx hw, hev, c6]
  have hcn : ¬ cdA (zab a) y (100 * z + 10 * x + w) = -1 := by rw [cdA_at _ hx hw]; exact hne
  have hch : chB (zab a) y (100 * z + 10 * x + w) (cdf k0 t0) = !(oEq (ck (10 * r + w)) k0 && oEq (ct (10 * r + w)) t) := by
    unfold chB
    rw [show oEq (cdA (zab a) y (100 * z + 10 * x + w)) (-1) = false from decide_eq_false hcn, Bool.false_or, hcd, cdf_eq, code_eq c1 c2 c3 c4 k1 k2 ht1 ht2]
  have hpc : ∀ Mx : Mm, Mx.2.2 69 = .inr (11, fsRv th (zkn a) (znl a) (znr a) pm (zfe a) bm) → True := fun _ _ => trivial
  refine wF_b rfl (Nat.le_of_ble_eq_true rfl) (q_assoc (q_I (v := t) rfl (pI_tI (pC_kI (pI_lI rfl) pI_cI) pI_cI (pI_lI rfl)) (q_I rfl (pI_vV (pR_A (pA_lA rfl) (pR_I (pI_lI rfl) (pR_I (pI_lI rfl) (pR_I (pI_lI rfl) (pR_I (pI_lI rfl) pR_0))))) h69 p1) ?_)))
  have g1 := pI_gI (t := 0) (L := ((mkL 9 [.ref 69, .int (nI y), .int (nI z), .int (nI x), .int (nI w), .int k0, .int t0]).set 7 (some (.int t))).set 8 (some (.int (nI (10 * r + w))))) (pA_fA (k := 11) (pA_lA (i := 0) rfl) h69 rfl) (pI_lI (i := 8) rfl) d1 (inb_nI (by omega) (by decide))
  have g2 := pI_gI (t := 0) (L := ((mkL 9 [.ref 69, .int (nI y), .int (nI z), .int (nI x), .int (nI w), .int k0, .int t0]).set 7 (some (.int t))).set 8 (some (.int (nI (10 * r + w))))) (pA_fA (k := 12) (pA_lA (i := 0) rfl) h69 rfl) (pI_lI (i := 8) rfl) d2 (inb_nI (by omega) (by decide))
  rw [nI_clamp (by omega)] at g1 g2
  refine q_if (pC_and (pC_kI g1 (pI_lI rfl)) (pC_kI g2 (pI_lI rfl))) (fun hb => ?_) (fun hb => ?_)
  · have e : chB (zab a) y (100 * z + 10 * x + w) (cdf k0 t0) = false := by rw [hch, hb]; rfl
    refine q_retZ (v := false) pI_cI ⟨rfl, by rw [e], ?_, But.rf⟩
    unfold zch
    rw [if_neg (by rw [e]; decide)]
    exact h
  · have e : chB (zab a) y (100 * z + 10 * x + w) (cdf k0 t0) = true := by rw [hch, hb]; rfl
    refine q_ex (wV_Vw (pR_A (pA_lA rfl) (pR_I (pI_lI rfl) (pR_I (pI_lI rfl) pR_0))) h69 ((sp_aloneLayer h69 hR (h := y) (by omega) hz hl).mono ?_))
    rintro _ M1 ⟨rfl, l', s1, e1, e2, e3, e4⟩
    refine ⟨rfl, ?_⟩
    have hl1 : nf s1 (10 * y + z) = some l' := e2.1
    have hf1 : ∀ j, j < 160 → j ≠ 10 * y + z → nf s1 j ≠ some l' := fun j hj hn => by rw [(e2.2.1 j hj hn).1]; exact (e2.2.1 j hj hn).2
    have hr1 : ng s1 l' x = some r := by rw [e2.2.2.1]; exact hr
    obtain ⟨f81, h81⟩ := h.2.1.2.1
    obtain ⟨f82, h82⟩ := h.2.1.2.2.1
    refine q_ex (wV_Vw (pR_A (pA_lA rfl) (pR_I (pI_lI rfl) (pR_I (pI_lI rfl) (pR_I (pI_lI rfl) pR_0)))) e3 ((sp_aloneRow e3 e1 ⟨_, (e4.2.2 81 (by decide)).trans h81⟩ ⟨_, (e4.2.2 82 (by decide)).trans h82⟩ (h := y) (by omega) hz hx hl1 hf1 hr1).mono ?_))
    rintro _ M2 ⟨rfl, r', s2, i1, i2, i3, i4, i5, i6, i7, i8⟩
    refine ⟨rfl, ?_⟩
    have hkr2 : rwo s2 (10 * y + z) x = some r' := by rw [rwo_some i2.1]; exact i2.2.2.1
    obtain ⟨p2, hr2⟩ := sp_cell i5 i1 (h := y) (by omega) hz hx hw hkr2
    obtain ⟨ck2, ct2, j1, j2, -⟩ := i1.2.2.2.1
    refine q_I rfl (pI_vV (pR_A (pA_lA rfl) (pR_I (pI_lI rfl) (pR_I (pI_lI rfl) (pR_I (pI_lI rfl) (pR_I (pI_lI rfl) pR_0))))) i5 p2) ?_
    refine q_pa (j := 10 * r' + w) (pA_fA (k := 11) (pA_lA rfl) i5 rfl) (pI_lI rfl) (pI_lI rfl) j1 (by decide) (by omega) (by decide) (Or.inl rfl) ?_
    refine q_pa (j := 10 * r' + w) (pA_fA (k := 12) (pA_lA rfl) ((get_ne (by decide)).trans i5) rfl) (pI_lI rfl) (pI_lI rfl) ((get_ne (by decide)).trans j2) (by decide) (by omega) (by decide) (Or.inl rfl) ?_
    have hbut : But [69, 75, 77, 78, 79, 80, 81, 82] M (setC (setC M2 79 (aI 0 17100 (upd ck2 (10 * r' + w) k0))) 80 (aI 0 17100 (upd ct2 (10 * r' + w) t))) := (((e4.mono (by decide)).tr (i6.mono (by decide))).set (by decide)).set (by decide)
    refine l_retZ (v := true) pI_cI ⟨rfl, by rw [e], ?_, hbut⟩
    unfold zch
    rw [if_pos e, show (100 * z + 10 * x + w) / 100 = z by omega, show (100 * z + 10 * x + w) / 10 % 10 = x by omega, show (100 * z + 10 * x + w) % 10 = w by omega]
    have q1 : (if 2 ≤ hcnt s l then 1 else 0) = b2n (shL (zab a) (10 * y + z)) := by
      by_cases q : shL (zab a) (10 * y + z) = true
      · rw [b2n, if_pos q, if_pos (by rw [shL_cn hA hk hl]; exact q)]
      · rw [b2n, if_neg q, if_neg (by rw [shL_cn hA hk hl]; exact q)]
    have q2 : (if 2 ≤ rcnt 170 s1 r then 1 else 0) = b2n (shR (zab a) (10 * y + z) x) := by
      obtain ⟨hd1, a1, a2⟩ := e1.1
      have h2 : 2 ≤ rcnt 170 s1 r ↔ shR (zab a) (10 * y + z) x = true := by
        rw [rcnt_two hk hx e1.2.2.2.2 hl1 hf1 hr1 fun j m hj hm => (a2 j hj).2 m hm, ← shR_cn hA hk hx hkr]
        refine exists_congr fun j => and_congr_right fun hj => and_congr_right fun _ => ?_
        rw [e2.rw hl hj]
      by_cases q : shR (zab a) (10 * y + z) x = true
      · rw [b2n, if_pos q, if_pos (h2.mpr q)]
      · rw [b2n, if_neg q, if_neg (fun t => q (h2.mp t))]
    rw [q1, q2] at i5
    have hset := SSet.own i2 e2 hl hk
    refine h.put hbut (i1.cel hr2 hw j1 j2 (fun b h1 h2 => (get_ne h2).trans (get_ne h1)) ((get_ne (by decide)).trans get_at) get_at k1 k2 ht1 ht2 (fun q => ?_) (cdf_eq k0 t0)) (Ag_set hA hk hx hl hset.cel fun u hu => ?_) ((get_ne (by decide)).trans ((get_ne (by decide)).trans i5)) ?_ ?_
    · show (if oEq k0 0 = true then (0 : Int32) else t0) = 0
      rw [if_pos (c := oEq k0 0 = true) (decide_eq_true q)]
    · show (if u = w then cdf k0 t0 else aat (zab a) (10 * y + z) x u) = if u < nln s2 r' then (if r' = r' ∧ u = w then cdf k0 t0 else ncd s2 r' u) else -1
      have hn2 : nln s2 r' = nln s r := by rw [i3, e2.2.2.2.2.1]
      rw [hn2]
      by_cases eu : u = w
      · rw [if_pos eu, if_pos (by omega), if_pos ⟨rfl, eu⟩]
      · rw [if_neg eu, if_neg (c := r' = r' ∧ u = w) (fun t => eu t.2), ((hA _ hk).2.2 _ hx).2.2 u hu]
        unfold cdo
        rw [hkr]
        dsimp only
        by_cases eu2 : u < nln s r
        · rw [if_pos eu2, if_pos eu2, i4 u, e2.2.2.2.2.2]
        · rw [if_neg eu2, if_neg eu2]
    · obtain ⟨f, hf⟩ := i7; exact ⟨f, (get_ne (by decide)).trans ((get_ne (by decide)).trans hf)⟩
    · obtain ⟨f, hf⟩ := i8; exact ⟨f, (get_ne (by decide)).trans ((get_ne (by decide)).trans hf)⟩
theorem cell_eq (c : Nat) : 100 * (c / 100) + 10 * (c / 10 % 10) + c % 10 = c := by omega
theorem sp_changeAt {L : Nat} {xs : Nat → Int32} {a : AS} {M : Mm} {y c : Nat} {k0 t0 : Int32} (h : RSt L xs a M) (hy : y < 4) (hc : c < 1000) (hne : ¬ cdA (zab a) y c = -1) (k1 : 0 ≤ k0.toInt) (k2 : k0.toInt ≤ 30) (t1 : 0 ≤ t0.toInt) (t2 : t0.toInt < 24) :
    wF F_X12_changeAt [.ref 69, .int (nI y), .int (nI c), .int k0, .int t0] M fun r M' => r = some (.int (bz (chB (zab a) y c (cdf k0 t0)))) ∧ RSt L xs (zch y c (cdf k0 t0) a) M' ∧ But [69, 75, 77, 78, 79, 80, 81, 82] M M' := by
  obtain ⟨th, pm, bm, h69⟩ := id h.2.2
  have key := sp_changeR h hy (z := c / 100) (x := c / 10 % 10) (w := c % 10) (by omega) (by omega) (by omega) hne k1 k2 t1 t2
  rw [cell_eq] at key
  refine wF_b rfl (Nat.le_of_ble_eq_true rfl) (wS_retZ (wI_vVw (pR_A (pA_lA rfl) (pR_I (pI_lI rfl) (pR_I (pI_eq (pI_div (pI_lI rfl) pI_cI (by decide)) (nI_div rfl (by omega) (by decide) (by decide))) (pR_I (pI_eq (pI_rem (pI_eq (pI_div (pI_lI rfl) pI_cI (by decide)) (nI_div (m := 10) rfl (by omega) (by decide) (by decide))) pI_cI (by decide)) (nI_rem rfl (by omega) (by decide) (by decide))) (pR_I (pI_eq (pI_rem (pI_lI rfl) pI_cI (by decide)) (nI_rem rfl (by omega) (by decide) (by decide))) (pR_I (pI_lI rfl) (pR_I (pI_lI rfl) pR_0))))))) h69 (key.mono ?_)))
  rintro v M' ⟨rfl, e1, e2⟩
  exact ⟨_, rfl, bz_01 _, rfl, rfl, e1, e2⟩
