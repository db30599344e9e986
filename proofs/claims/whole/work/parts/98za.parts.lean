/-! parts: the reference's side -/
theorem SB.seen {g : Nat → Int32} {p i : Nat} {lb0 lb : Nat → Option Nat} {qs : List Nat} {T : Nat → Prop} (h : SB g p lb0 i lb qs T) (h0 : LB g p lb0) (hp : lead g p) (hi : i < qs.length) {e k : Nat} (hl : lnk g (qs.getD i 0) e) (hk : lb e = some k) : e ∈ qs := by
  obtain ⟨a1, a2, a3, -⟩ := h
  refine Classical.byContradiction fun q => ?_
  rw [a2 e q, lb_none h0 hp hl.1.2.1 (con_snoc (a3 _ (getD_mem hi)).1 hl)] at hk
  cases hk
theorem SB.len {g : Nat → Int32} {p i : Nat} {lb0 lb : Nat → Option Nat} {qs : List Nat} {T : Nat → Prop} (h : SB g p lb0 i lb qs T) : qs.length ≤ 1000 := by
  obtain ⟨-, -, -, -, -, -, -, a8⟩ := h
  rw [← a8]
  exact cn_le _ _
theorem SB.room {g : Nat → Int32} {p i : Nat} {lb0 lb : Nat → Option Nat} {qs : List Nat} {T : Nat → Prop} (h : SB g p lb0 i lb qs T) {c : Nat} (hc : c < 1000) (hn : lb c = none) : cn 1000 (fun c => (lb0 c).isSome) + qs.length < 1000 := by
  obtain ⟨-, -, -, -, -, -, a7, -⟩ := h
  have h1 := cn_one (P := fun x => (dsU lb c 0 x).isSome) (Q := fun x => (lb x).isSome) (c := c) hc (fun x _ hx => by unfold dsU; rw [if_neg hx]) (by unfold dsU; rw [if_pos rfl]; rfl) (by rw [hn]; rfl)
  have h2 := cn_le 1000 fun x => (dsU lb c 0 x).isSome
  omega
def PSR (a : AS) (g : Nat → Int32) (p q : Nat) (lb : Nat → Option Nat) (M : Mm) : Prop := ∃ th bm fl ff, M.2.2 69 = .inr (11, fsRv th (zkn a) (znl a) (znr a) (nI (cn p (ldB g))) (zfe a) bm) ∧ M.2.2 88 = aI 0 1000 fl ∧ M.2.2 89 = aI 0 1000 ff ∧ (∀ c, c < 1000 → fl c = oI (lb c)) ∧ ∀ f, lead g f → f < q → ff (cn f (ldB g)) = nI f
section PRt
variable {L : Nat} {xs : Nat → Int32} {M : Mm} {a : AS}
theorem sp_findPartsR (h : RSt L xs a M) (hO : OkA a) {y : Nat} (hy : y < 4) : wF F_X12_findParts [.ref 69, .int (nI y)] M fun v M' => v = none ∧ RSt L xs a M' ∧ ROn M M' ∧ ∃ lb, LB (cdA (zab a) y) 1000 lb ∧ PSR a (cdA (zab a) y) 1000 1000 lb M' := by
  have hbig : big = 1000000 := rfl
  obtain ⟨th, pm, bm, h69⟩ := id h.2.2
  refine wF_b rfl (Nat.le_of_ble_eq_true rfl) (q_pf (pA_lA rfl) pI_cI h69 (Nat.le_of_ble_eq_true rfl) ?_)
  have h1 : RSt L xs a (setC M 69 (.inr (11, fsRv th (zkn a) (znl a) (znr a) 0 (zfe a) bm))) := h.set69
  have s1 : ROn M (setC M 69 (.inr (11, fsRv th (zkn a) (znl a) (znr a) 0 (zfe a) bm))) := ron_set (by decide) (by decide)
  obtain ⟨M1, hM1⟩ : ∃ M1, M1 = setC M 69 (.inr (11, fsRv th (zkn a) (znl a) (znr a) 0 (zfe a) bm)) := ⟨_, rfl⟩
  have e69 : M1.2.2 69 = .inr (11, fsRv th (zkn a) (znl a) (znr a) 0 (zfe a) bm) := by rw [hM1]; exact get_at
  have hgoal : setC M 69 (.inr (11, (fsRv th (zkn a) (znl a) (znr a) pm (zfe a) bm).set 24 (.int 0))) = M1 := hM1.symm
  rw [hgoal]
  rw [← hM1] at h1 s1
  obtain ⟨g, hg⟩ : ∃ g, g = cdA (zab a) y := ⟨_, rfl⟩
  rw [← hg]
  have hcd : ∀ c, c < 1000 → cOK (zkn a) (g c) := fun c hc => by rw [hg]; exact hO.av.cd (by omega) hc
  have pkd : ∀ (Mx : Mm) (Lx : Lv) (q c : Nat), RSt L xs a Mx → c < 1000 → lkp Lx 0 = some (.ref 69) → lkp Lx 1 = some (.int (nI y)) → lkp Lx q = some (.int (nI c)) → pC (kI oLe (vI (ivV 11 F_X12_kindOf (rA (lA 0) (rI (lI 1) (rI (lI q) (r0)))))) (cI 0)) Lx Mx (!(blk g c)) := fun Mx Lx q c hR hc q0 q1 q2 => by
    obtain ⟨t1, t2, t3, t4⟩ := hR.2.2
    refine pC_eq (pC_kI (pI_vV (pR_A (pA_lA q0) (pR_I (pI_lI q1) (pR_I (pI_lI q2) pR_0))) t4 (sp_kindR2 hR.1 hR.2.2 (by omega) hc)) pI_cI) ?_
    rw [← hg]
    exact blk_kR (hcd c hc)
  obtain ⟨f0, h88⟩ := h1.2.1.1 88 (by decide)
  obtain ⟨f1, h89⟩ := h1.2.1.1 89 (by decide)
  refine q_for 1000 (fun j L' M3 => L' = [some (.ref 69), some (.int (nI y)), some (.int (nI j)), none, none, none, none] ∧ KA [88] M1 M3 ∧ ∃ fs, M3.2.2 88 = aI 0 1000 fs ∧ ∀ c, c < j → fs c = -1) rfl (a := 0) rfl rfl (by decide) (by decide) ⟨rfl, KA.rf, f0, h88, fun c hc => absurd hc (Nat.not_lt_zero c)⟩ ?_ ?_ ?_
  · rintro j L' M3 ⟨rfl, -⟩
    rfl
  · rintro j L' M3 hj ⟨rfl, b1, fs, b2, b3⟩
    refine l_pa (j := j) (pA_fA (k := 22) (pA_lA rfl) ((b1.but.2.2 69 (by decide)).trans e69) rfl) (pI_lI rfl) pI_cI b2 (by decide) hj (by decide) (Or.inl rfl) (Or.inr ⟨by decide, by decide, rfl, rfl, rfl, b1.set (by decide) b2, _, get_at, fun c hc => ?_⟩)
    unfold upd
    by_cases e : c = j
    · rw [if_pos e]
    · rw [if_neg e]; exact b3 c (by omega)
  rintro L' M3 ⟨rfl, b1, fs, b2, b3⟩
  have h3 := h1.ka b1 (by decide)
  have s3 := s1.tr (b1.ron (by decide))
  refine q_for 1000 (fun p L' M4 => L' = [some (.ref 69), some (.int (nI y)), some (.int (nI p)), none, none, none, none] ∧ RSt L xs a M4 ∧ ROn M M4 ∧ ∃ lb, LB g p lb ∧ PSR a g p p lb M4) rfl (a := 0) rfl rfl (by decide) (by decide) ⟨rfl, h3, s3, fun _ => none, LB.zero, th, bm, fs, f1, (b1.but.2.2 69 (by decide)).trans e69, b2, (b1.but.2.2 89 (by decide)).trans h89, b3, fun f _ hf => absurd hf (Nat.not_lt_zero f)⟩ ?_ ?_ ?_
  · rintro p L' M4 ⟨rfl, -⟩
    rfl
  · rintro p L' M4 hp ⟨rfl, h4, s4, lb, hL, th, bm, fl, ff, p1, p2, p3, p4, p5⟩
    have hlk : ∀ (k : Nat), lb p = some k → k ≤ 1000 := fun k q => by
      have h9 := lb_lt hL hp q
      have := cn_le p (ldB g)
      omega
    have h9 := pI_gI (t := 0) (L := [some (.ref 69), some (.int (nI y)), some (.int (nI p)), none, none, none, none]) (pA_fA (k := 22) (pA_lA (i := 0) rfl) p1 rfl) (pI_lI (i := 2) rfl) p2 (inb_nI hp (by decide))
    rw [nI_clamp (by omega), p4 _ hp] at h9
    refine l_scp (q_if (pC_or (pC_eq (pC_kI h9 pI_cI) (oI_isS _ hlk)) (pkd M4 _ 2 p h4 hp rfl rfl rfl)) (fun hb => ?_) (fun hb => ?_))
    · have hnl : ¬ lead g p := fun q => by
        obtain ⟨q1, q2⟩ := (hL.ld hp).mp q
        rw [q1, q2] at hb
        cases hb
      refine q_cnt (Or.inr ⟨by decide, by decide, rfl, rfl, rfl, h4, s4, lb, hL.skip hnl, th, bm, fl, ff, by rw [cn_ld_skip hnl]; exact p1, p2, p3, p4, fun f hf hfp => ?_⟩)
      by_cases q : f = p
      · rw [q] at hf; exact absurd hf hnl
      · exact p5 f hf (by omega)
    · obtain ⟨hb1, hb2⟩ := Bool.or_eq_false_iff.mp hb
      rw [Bool.not_eq_false'] at hb2
      have hn : lb p = none := by
        cases q : lb p with
        | none => rfl
        | some k => rw [q] at hb1; cases hb1
      have hld := (hL.ld hp).mpr ⟨hb2, hn⟩
      have hk0 : cn p (ldB g) ≤ p := cn_le _ _
      obtain ⟨k0, ek⟩ : ∃ k0, k0 = cn p (ldB g) := ⟨_, rfl⟩
      rw [← ek] at p1 hk0
      obtain ⟨fq, h90⟩ := h4.2.1.1 90 (by decide)
      refine q_I rfl pI_cI (q_pa (j := 0) (pA_fA (k := 25) (pA_lA rfl) p1 rfl) (pI_cI (v := 0)) (pI_lI rfl) h90 (by decide) (by decide) (by decide) (Or.inl rfl) ?_)
      have c1 : KA [88, 90] M4 (setC M4 90 (aI 0 1000 (upd fq 0 (nI p)))) := KA.rf.set (by decide) h90
      have p1' : (setC M4 90 (aI 0 1000 (upd fq 0 (nI p)))).2.2 69 = .inr (11, fsRv th (zkn a) (znl a) (znr a) (nI k0) (zfe a) bm) := (get_ne (by decide)).trans p1
      refine q_pa (j := p) (pA_fA (k := 22) (pA_lA rfl) p1' rfl) (pI_lI rfl) (pI_fI (pA_lA rfl) p1' rfl) ((get_ne (by decide)).trans p2) (by decide) hp (by decide) (Or.inl rfl) ?_
      have c2 : KA [88, 90] M4 (setC (setC M4 90 (aI 0 1000 (upd fq 0 (nI p)))) 88 (aI 0 1000 (upd fl p (nI k0)))) := c1.set (by decide) ((get_ne (by decide)).trans p2)
      have SB0 := SB.start hL hld
      rw [← ek] at SB0
      have PB0 : PB 88 90 (setC (setC M4 90 (aI 0 1000 (upd fq 0 (nI p)))) 88 (aI 0 1000 (upd fl p (nI k0)))) (dsU lb p k0) [p] := by
        refine ⟨_, _, get_at, (get_ne (by decide)).trans get_at, fun x hx => ?_, fun j hj => ?_⟩
        · unfold upd dsU
          by_cases e : x = p
          · rw [if_pos e, if_pos e]; rfl
          · rw [if_neg e, if_neg e]; exact p4 x hx
        · have : j = 0 := by have : j < 1 := hj; omega
          rw [this]
          exact if_pos rfl
      refine q_scp (q_I rfl pI_cI (wS_wh (I := fun m L' M5 => ∃ i lb2 qs, m + i = 1000 ∧ L' = [some (.ref 69), some (.int (nI y)), some (.int (nI p)), some (.int (nI qs.length)), some (.int (nI i)), none, none] ∧ KA [88, 90] M4 M5 ∧ PB 88 90 M5 lb2 qs ∧ SB g p lb i lb2 qs fun _ => False) ?_ 1000 _ _ ⟨0, _, _, rfl, rfl, c2, PB0, SB0⟩ (by omega)))
      rintro m L' M5 ⟨i, lb2, qs, hmi, rfl, d1, ⟨gl, gq, u1, u2, u3, u4⟩, d3⟩
      have hql := d3.len
      have h5 := h4.ka d1 (by decide)
      have p15 : M5.2.2 69 = .inr (11, fsRv th (zkn a) (znl a) (znr a) (nI k0) (zfe a) bm) := (d1.but.2.2 69 (by decide)).trans p1
      refine wC_p (pC_eq (pC_kI (pI_lI rfl) (pI_lI rfl)) (oLt_nI (by omega) (by omega))) ⟨fun hr => ⟨fun _ => ?_, fun q => absurd rfl q⟩, fun hr => ?_⟩
      · -- the part is whole
        have hi := of_decide_eq_false hr
        have p35 : M5.2.2 89 = aI 0 1000 ff := (d1.but.2.2 89 (by decide)).trans p3
        refine q_pa (j := k0) (pA_fA (k := 23) (pA_lA rfl) p15 rfl) (pI_fI (pA_lA rfl) p15 rfl) (pI_lI rfl) p35 (by decide) (by omega) (by decide) (Or.inl rfl) ?_
        have c6 : KA [89] M5 (setC M5 89 (aI 0 1000 (upd ff k0 (nI p)))) := KA.rf.set (by decide) p35
        have h6 := h5.ka c6 (by decide)
        have p16 : (setC M5 89 (aI 0 1000 (upd ff k0 (nI p)))).2.2 69 = .inr (11, fsRv th (zkn a) (znl a) (znr a) (nI k0) (zfe a) bm) := (get_ne (by decide)).trans p15
        refine l_up (pA_lA rfl) pI_cI p16 rfl (Nat.le_of_ble_eq_true rfl) (Or.inr ⟨by decide, by decide, rfl, rfl, rfl, ?_, ?_, lb2, d3.done hL hld (by omega), th, bm, gl, upd ff k0 (nI p), ?_, ?_, ?_, u3, fun f hf hfp => ?_⟩)
        · exact h6.set69
        · exact ((s4.tr (d1.ron (by decide))).tr (c6.ron (by decide))).tr (ron_set (by decide) (by decide))
        · rw [cn_ld_succ hld, ← ek, ← nI_1]
          exact get_at
        · exact (get_ne (by decide)).trans ((get_ne (by decide)).trans u1)
        · exact (get_ne (by decide)).trans get_at
        · unfold upd
          by_cases q : f = p
          · rw [q, ek, if_pos rfl]
          · have hlt := cn_mono (ldB g) (show f + 1 ≤ p by omega)
            rw [cn_ld_succ hf] at hlt
            rw [if_neg (by omega)]
            exact p5 f hf (by omega)
      · have hi := of_decide_eq_true hr
        obtain ⟨c0, hc0⟩ : ∃ c0, c0 = qs.getD i 0 := ⟨_, rfl⟩
        have hcon : con g p c0 ∧ c0 < 1000 := by rw [hc0]; exact d3.2.2.1 _ (getD_mem hi)
        have hbl0 := (con_in hcon.1 hp hb2).2
        refine l_for 6 (fun d L' M6 => ∃ lb2 qs, L' = [some (.ref 69), some (.int (nI y)), some (.int (nI p)), some (.int (nI qs.length)), some (.int (nI i)), some (.int (nI d)), none] ∧ KA [88, 90] M4 M6 ∧ PB 88 90 M6 lb2 qs ∧ SB g p lb i lb2 qs (fun e => ∃ d', d' < d ∧ nbO c0 (sw d') = some e) ∧ i < qs.length ∧ qs.getD i 0 = c0) rfl (a := 0) rfl rfl (by decide) (by decide) ⟨lb2, qs, rfl, d1, ⟨gl, gq, u1, u2, u3, u4⟩, d3.mono fun e ⟨d', e1, _⟩ => absurd e1 (Nat.not_lt_zero d'), hi, hc0.symm⟩ ?_ ?_ ?_
        · rintro d L' M6 ⟨lb2, qs, rfl, -⟩
          rfl
        · rintro d L' M6 hd ⟨lb2, qs, rfl, d1, ⟨gl, gq, u1, u2, u3, u4⟩, d3, hi, hc0⟩
          have hql := d3.len
          have h6 := h4.ka d1 (by decide)
          have p16 : M6.2.2 69 = .inr (11, fsRv th (zkn a) (znl a) (znr a) (nI k0) (zfe a) bm) := (d1.but.2.2 69 (by decide)).trans p1
          have hlk2 : ∀ e, e < 1000 → ∀ k, lb2 e = some k → k ≤ 1000 := fun e he k q => by
            by_cases q2 : e ∈ qs
            · rw [d3.1 e q2] at q
              cases q
              omega
            · rw [d3.2.1 e q2] at q
              have := lb_lt hL he q
              omega
          have h9 := pI_gI (t := 0) (L := [some (.ref 69), some (.int (nI y)), some (.int (nI p)), some (.int (nI qs.length)), some (.int (nI i)), some (.int (nI d)), none]) (pA_fA (k := 25) (pA_lA (i := 0) rfl) p16 rfl) (pI_lI (i := 4) rfl) u2 (inb_nI (show i < 1000 by omega) (by decide))
          rw [nI_clamp (by omega), u4 i hi, hc0] at h9
          refine l_scp (q_I rfl (pI_vS (pR_I h9 (pR_I (pI_lI rfl) pR_0)) (sp_next hcon.2 hd M6)) ?_)
          cases hs : nbO c0 (sw d) with
          | none =>
            refine q_if (v := true) (pC_orT (pC_orT (pC_eq (pC_kI (pI_lI rfl) pI_cI) rfl))) (fun _ => ?_) (fun q => absurd q (by decide))
            refine q_cnt (Or.inr ⟨by decide, by decide, rfl, rfl, lb2, qs, rfl, d1, ⟨gl, gq, u1, u2, u3, u4⟩, d3.mono fun e ⟨d', e1, e2⟩ => ?_, hi, hc0⟩)
            by_cases q : d' = d
            · rw [q, hs] at e2; cases e2
            · exact Or.inl ⟨d', by omega, e2⟩
          | some e =>
            have he := nbO_lt hcon.2 hs
            have hadj : adj c0 e := ⟨hcon.2, he, sw d, sw_lt hd, hs⟩
            have h8 := pI_gI (t := 0) (L := [some (.ref 69), some (.int (nI y)), some (.int (nI p)), some (.int (nI qs.length)), some (.int (nI i)), some (.int (nI d)), some (.int (nI e))]) (pA_fA (k := 22) (pA_lA (i := 0) rfl) p16 rfl) (pI_lI (i := 6) rfl) u1 (inb_nI he (by decide))
            rw [nI_clamp (by omega), u3 _ he] at h8
            refine q_if (v := (false || (lb2 e).isSome) || !(blk g e)) (pC_or (pC_or (pC_eq (pC_kI (pI_lI rfl) pI_cI) (by
              have := oI_isS (some e) fun k q => by cases q; omega
              rw [oNe_not] at this
              have this : (!(oEq (oI (some e)) (-1))) = true := this
              rw [Bool.not_eq_true'] at this
              exact this)) (pC_eq (pC_kI h8 pI_cI) (oI_isS _ (hlk2 e he)))) (pkd M6 _ 6 e h6 he rfl rfl rfl)) (fun hq => ?_) (fun hq => ?_)
            · refine q_cnt (Or.inr ⟨by decide, by decide, rfl, rfl, lb2, qs, rfl, d1, ⟨gl, gq, u1, u2, u3, u4⟩, d3.mono fun e' ⟨d', e1, e2⟩ => ?_, hi, hc0⟩)
              by_cases q : d' = d
              · rw [q, hs] at e2
                cases e2
                right
                by_cases ql : lnk g (qs.getD i 0) e
                · right
                  have hbe := ql.2.2
                  cases q2 : lb2 e with
                  | none => rw [q2, hbe] at hq; cases hq
                  | some k => exact d3.seen hL hld hi ql q2
                · exact Or.inl ql
              · exact Or.inl ⟨d', by omega, e2⟩
            · obtain ⟨hq1, hq2⟩ := Bool.or_eq_false_iff.mp hq
              rw [Bool.not_eq_false'] at hq2
              rw [Bool.false_or] at hq1
              have hn2 : lb2 e = none := by
                cases q : lb2 e with
                | none => rfl
                | some k => rw [q] at hq1; cases hq1
              have hlk : lnk g (qs.getD i 0) e := by rw [hc0]; exact ⟨hadj, hbl0, hq2⟩
              have hroom := d3.room he hn2
              have hpush := d3.push hL hld hi hlk hn2
              rw [← ek] at hpush
              refine q_pa (j := e) (pA_fA (k := 22) (pA_lA rfl) p16 rfl) (pI_lI rfl) (pI_fI (pA_lA rfl) p16 rfl) u1 (by decide) he (by decide) (Or.inl rfl) ?_
              have w1 : KA [88, 90] M4 (setC M6 88 (aI 0 1000 (upd gl e (nI k0)))) := d1.set (by decide) u1
              refine q_pa (j := qs.length) (pA_fA (k := 25) (pA_lA rfl) ((get_ne (by decide)).trans p16) rfl) (pI_lI rfl) (pI_lI rfl) ((get_ne (by decide)).trans u2) (by decide) (by omega) (by decide) (Or.inl rfl) ?_
              refine l_inc rfl rfl (Or.inr ⟨by decide, by decide, rfl, rfl, dsU lb2 e k0, qs ++ [e], ?_, w1.set (by decide) ((get_ne (by decide)).trans u2), pb_push (by decide) u3 u4, hpush.mono fun e' ⟨d', e1, e2⟩ => ?_, ?_, ?_⟩)
              · rw [List.length_append, nI_1]; rfl
              · by_cases q : d' = d
                · rw [q, hs] at e2
                  cases e2
                  exact Or.inl (Or.inr rfl)
                · exact Or.inl (Or.inl ⟨d', by omega, e2⟩)
              · rw [List.length_append]; omega
              · rw [getD_app1 hi]; exact hc0
        · rintro L' M6 ⟨lb2, qs, rfl, d1, d2, d3, hi, hc0⟩
          refine ⟨fun q => absurd q (by decide), fun q => absurd q (by decide), fun _ _ => wS_inc rfl rfl ⟨rfl, m - 1, by omega, i + 1, lb2, qs, by omega, ?_, d1, d2, d3.next fun e he => ?_⟩⟩
          · rw [nI_1]; rfl
          · rw [hc0] at he
            obtain ⟨-, -, d, hd, h9⟩ := he.1
            exact ⟨sw d, sw_lt hd, by rw [sw_sw]; exact h9⟩
  · rintro L' M4 ⟨rfl, h4, s4, lb, hL, hP⟩
    exact wS_retV ⟨rfl, rfl, h4, s4, lb, hL, hP⟩
end PRt
