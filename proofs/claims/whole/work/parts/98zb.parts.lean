/-! parts: the class's side -/
def LMP (M : Mm) (v : Int32) : Prop := M.2.2 57 = .inr (6, [.ref 58, .ref 59, .ref 60, .ref 61, .int v])
/-- labels and members in the memory -/
def PBm (M : Mm) (lb : Nat → Option Nat) (ms : List Nat) : Prop := ∃ fl fm, M.2.2 58 = aI 0 1000 fl ∧ M.2.2 59 = aI 0 1000 fm ∧ (∀ c, c < 1000 → fl c = oI (lb c)) ∧ ∀ j, j < ms.length → fm j = nI (ms.getD j 0)
theorem getD_appR {l r : List Nat} {j : Nat} : (l ++ r).getD (l.length + j) 0 = r.getD j 0 := by
  rw [List.getD_eq_getElem?_getD, List.getD_eq_getElem?_getD, List.getElem?_append_right (by omega), Nat.add_sub_cancel_left]
section PCs
variable {M : Mm} {g : Nat → Int32} {bs : List Nat}
theorem pbm_push {c k : Nat} {lb : Nat → Option Nat} {ms : List Nat} {fl fm : Nat → Int32} (h3 : ∀ c, c < 1000 → fl c = oI (lb c)) (h4 : ∀ j, j < ms.length → fm j = nI (ms.getD j 0)) : PBm (setC (setC M 58 (aI 0 1000 (upd fl c (nI k)))) 59 (aI 0 1000 (upd fm ms.length (nI c)))) (dsU lb c k) (ms ++ [c]) := by
  refine ⟨_, _, (get_ne (by decide)).trans get_at, get_at, fun x hx => ?_, fun j hj => ?_⟩
  · unfold upd dsU
    by_cases e : x = c
    · rw [if_pos e, if_pos e]; rfl
    · rw [if_neg e, if_neg e]; exact h3 x hx
  · rw [List.length_append] at hj
    have hj : j < ms.length + 1 := hj
    unfold upd
    by_cases e : j = ms.length
    · rw [if_pos e, e, getD_app2]
    · rw [if_neg e, getD_app1 (by omega)]
      exact h4 j (by omega)
theorem GrC.b58 {M' : Mm} (h : GrC M 51 g bs) (hb : But [58, 59] M M') : GrC M' 51 g bs := h.fr (hb.2.2 _ (by decide)) (hb.2.2 _ (by decide)) (hb.2.2 _ (by decide))
theorem sp_gather (h : GrC M 51 g bs) {p k0 : Nat} {lb : Nat → Option Nat} {mem : List Nat} (hL : LB g p lb) (hld : lead g p) (ek : k0 = cn p (ldB g)) (h57 : LMP M (nI k0)) (hP : PBm M lb mem) (hm : mem.length = cn 1000 fun c => (lb c).isSome) : wF F_X6_gather [.ref 57, .ref 51, .int (nI p), .int (nI mem.length)] M fun r M' => But [58, 59] M M' ∧ ∃ lb2 qs, r = some (.int (nI (mem ++ qs).length)) ∧ PBm M' lb2 (mem ++ qs) ∧ SB g p lb qs.length lb2 qs fun _ => False := by
  have hbig : big = 1000000 := rfl
  obtain ⟨fl, fm, p1, p2, p3, p4⟩ := id hP
  have hp := hld.1
  have SB0 := SB.start hL hld
  rw [← ek] at SB0
  have hk0 : k0 ≤ p := by rw [ek]; exact cn_le _ _
  have hroom0 : mem.length < 1000 := by
    have h1 := cn_one (P := fun x => (dsU lb p 0 x).isSome) (Q := fun x => (lb x).isSome) (c := p) hp (fun x _ hx => by unfold dsU; rw [if_neg hx]) (by unfold dsU; rw [if_pos rfl]; rfl) (by rw [lb_none hL hld hp (con_rf p)]; rfl)
    have h2 := cn_le 1000 fun x => (dsU lb p 0 x).isSome
    omega
  refine wF_b rfl (Nat.le_of_ble_eq_true rfl) (q_pa (j := p) (pA_fA (k := 0) (pA_lA rfl) h57 rfl) (pI_lI rfl) (pI_fI (pA_lA rfl) h57 rfl) p1 (by decide) hp (by decide) (Or.inl rfl) ?_)
  refine q_pa (j := mem.length) (pA_fA (k := 1) (pA_lA rfl) ((get_ne (by decide)).trans h57) rfl) (pI_lI rfl) (pI_lI rfl) ((get_ne (by decide)).trans p2) (by decide) hroom0 (by decide) (Or.inl rfl) ?_
  refine q_I rfl (pI_eq (pI_add (pI_lI rfl) pI_cI) (nI_1 mem.length)) ?_
  refine q_scp (q_I rfl (pI_lI rfl) (wS_wh (I := fun m L' M5 => ∃ i lb2 qs, m + i = 1000 ∧ L' = [some (.ref 57), some (.ref 51), some (.int (nI p)), some (.int (nI mem.length)), some (.int (nI (mem ++ qs).length)), some (.int (nI (mem.length + i))), none, none] ∧ But [58, 59] M M5 ∧ PBm M5 lb2 (mem ++ qs) ∧ SB g p lb i lb2 qs fun _ => False) ?_ 1000 _ _ ⟨0, _, [p], rfl, ?_, (But.rf.set (by decide)).set (by decide), pbm_push p3 p4, SB0⟩ (by omega)))
  rotate_left
  · rw [List.length_append]; rfl
  rintro m L' M5 ⟨i, lb2, qs, hmi, rfl, d1, ⟨gl, gq, u1, u2, u3, u4⟩, d3⟩
  have hql := d3.len
  have hlen : (mem ++ qs).length = mem.length + qs.length := List.length_append ..
  have htot : mem.length + qs.length ≤ 1000 := by
    rw [hm, ← d3.2.2.2.2.2.2.1]
    exact cn_le _ _
  have h575 : LMP M5 (nI k0) := (d1.2.2 57 (by decide)).trans h57
  refine wC_p (pC_eq (pC_and (pC_eq (pC_kI (pI_lI rfl) (pI_lI rfl)) (oLt_nI (by omega) (by omega))) (pC_eq (pC_kI (pI_lI rfl) pI_cI) (oLt_nI (b := 1000) (by omega) (by decide)))) (show _ = decide (i < qs.length) by
    rw [hlen, ← Bool.decide_and, decide_eq_decide]
    omega)) ⟨fun hr => ⟨fun _ => ?_, fun q => absurd rfl q⟩, fun hr => ?_⟩
  · have hi := of_decide_eq_false hr
    refine l_ret (pI_lI rfl) ⟨rfl, d1, lb2, qs, rfl, ⟨gl, gq, u1, u2, u3, u4⟩, ?_⟩
    obtain ⟨a1, a2, a3, a4, a5, a6, a7⟩ := d3
    exact ⟨a1, a2, a3, a4, fun j _ hj2 => a5 j (by omega) hj2, fun e he => he.elim, a7⟩
  · have hi := of_decide_eq_true hr
    obtain ⟨c0, hc0⟩ : ∃ c0, c0 = qs.getD i 0 := ⟨_, rfl⟩
    have hcon : con g p c0 ∧ c0 < 1000 := by rw [hc0]; exact d3.2.2.1 _ (getD_mem hi)
    have hbl0 := (con_in hcon.1 hp hld.2.1).2
    refine l_for 6 (fun d L' M6 => ∃ lb2 qs, L' = [some (.ref 57), some (.ref 51), some (.int (nI p)), some (.int (nI mem.length)), some (.int (nI (mem ++ qs).length)), some (.int (nI (mem.length + i))), some (.int (nI d)), none] ∧ But [58, 59] M M6 ∧ PBm M6 lb2 (mem ++ qs) ∧ SB g p lb i lb2 qs (fun e => ∃ d', d' < d ∧ nbO c0 d' = some e) ∧ i < qs.length ∧ qs.getD i 0 = c0) rfl (a := 0) rfl rfl (by decide) (by decide) ⟨lb2, qs, rfl, d1, ⟨gl, gq, u1, u2, u3, u4⟩, d3.mono fun e ⟨d', e1, _⟩ => absurd e1 (Nat.not_lt_zero d'), hi, hc0.symm⟩ ?_ ?_ ?_
    · rintro d L' M6 ⟨lb2, qs, rfl, -⟩
      rfl
    · rintro d L' M6 hd ⟨lb2, qs, rfl, d1, ⟨gl, gq, u1, u2, u3, u4⟩, d3, hi, hc0⟩
      have hlen : (mem ++ qs).length = mem.length + qs.length := List.length_append ..
      have htot : mem.length + qs.length ≤ 1000 := by
        rw [hm, ← d3.2.2.2.2.2.2.1]
        exact cn_le _ _
      have h576 : LMP M6 (nI k0) := (d1.2.2 57 (by decide)).trans h57
      have g6 := h.b58 d1
      have hlk2 : ∀ e, e < 1000 → ∀ k, lb2 e = some k → k ≤ 1000 := fun e he k q => by
        by_cases q2 : e ∈ qs
        · rw [d3.1 e q2] at q
          cases q
          omega
        · rw [d3.2.1 e q2] at q
          have := lb_lt hL he q
          omega
      have h9 := pI_gI (t := 0) (L := [some (.ref 57), some (.ref 51), some (.int (nI p)), some (.int (nI mem.length)), some (.int (nI (mem ++ qs).length)), some (.int (nI (mem.length + i))), some (.int (nI d)), none]) (pA_fA (k := 1) (pA_lA (i := 0) rfl) h576 rfl) (pI_lI (i := 5) rfl) u2 (inb_nI (show mem.length + i < 1000 by omega) (by decide))
      rw [nI_clamp (by omega), u4 _ (by omega), getD_appR, hc0] at h9
      refine l_scp (q_I rfl (pI_vS (pR_I h9 (pR_I (pI_lI rfl) pR_0)) (sp_beside hcon.2 hd M6)) ?_)
      cases hs : nbO c0 d with
      | none =>
        refine l_if (v := false) (pC_andF (pC_andF (pC_nz (pI_vV (pR_A (pA_lA rfl) (pR_I (pI_lI rfl) pR_0)) g6.1 (sp_isBlock g6 (-1)))))) (fun q => absurd q (by decide)) (fun _ => wS_nop (Or.inr ⟨by decide, by decide, rfl, rfl, lb2, qs, rfl, d1, ⟨gl, gq, u1, u2, u3, u4⟩, d3.mono fun e ⟨d', e1, e2⟩ => ?_, hi, hc0⟩))
        by_cases q : d' = d
        · rw [q, hs] at e2; cases e2
        · exact Or.inl ⟨d', by omega, e2⟩
      | some e =>
        have he := nbO_lt hcon.2 hs
        have hadj : adj c0 e := ⟨hcon.2, he, d, hd, hs⟩
        have h8 := pI_gI (t := 0) (L := [some (.ref 57), some (.ref 51), some (.int (nI p)), some (.int (nI mem.length)), some (.int (nI (mem ++ qs).length)), some (.int (nI (mem.length + i))), some (.int (nI d)), some (.int (nI e))]) (pA_fA (k := 0) (pA_lA (i := 0) rfl) h576 rfl) (pI_lI (i := 7) rfl) u1 (inb_nI he (by decide))
        rw [nI_clamp (by omega), u3 _ he] at h8
        have hq1 : oEq (oI (lb2 e)) (-1) = !((lb2 e).isSome) := by
          rw [← oI_isS (lb2 e) (hlk2 e he), oNe_not, Bool.not_not]
        refine l_if (v := (blk g e && !((lb2 e).isSome)) && decide (mem.length + qs.length < 1000)) (pC_and (pC_and (pC_nz (pI_eq (pI_vV (pR_A (pA_lA rfl) (pR_I (pI_lI rfl) pR_0)) g6.1 (sp_isBlock g6 _)) (show bz (oGt (gAt g (nI e)) 0) = bz (blk g e) by rw [gAt_nI g he]; rfl))) (pC_eq (pC_kI h8 pI_cI) hq1)) (pC_eq (pC_kI (pI_lI rfl) pI_cI) (by rw [← hlen]; exact oLt_nI (b := 1000) (by omega) (by decide)))) (fun hq => ?_) (fun hq => ?_)
        · obtain ⟨hq0, hq3⟩ := Bool.and_eq_true_iff.mp hq
          obtain ⟨hq1, hq2⟩ := Bool.and_eq_true_iff.mp hq0
          have hn2 : lb2 e = none := by
            cases q : lb2 e with
            | none => rfl
            | some k => rw [q] at hq2; cases hq2
          have hlk : lnk g (qs.getD i 0) e := by rw [hc0]; exact ⟨hadj, hbl0, hq1⟩
          have hroom := of_decide_eq_true hq3
          have hpush := d3.push hL hld hi hlk hn2
          rw [← ek] at hpush
          refine q_pa (j := e) (pA_fA (k := 0) (pA_lA rfl) h576 rfl) (pI_lI rfl) (pI_fI (pA_lA rfl) h576 rfl) u1 (by decide) he (by decide) (Or.inl rfl) ?_
          refine q_pa (j := (mem ++ qs).length) (pA_fA (k := 1) (pA_lA rfl) ((get_ne (by decide)).trans h576) rfl) (pI_lI rfl) (pI_lI rfl) ((get_ne (by decide)).trans u2) (by decide) (by omega) (by decide) (Or.inl rfl) ?_
          have hpb := pbm_push (M := M6) (c := e) (k := k0) u3 u4
          rw [List.append_assoc] at hpb
          refine l_inc rfl rfl (Or.inr ⟨by decide, by decide, rfl, rfl, dsU lb2 e k0, qs ++ [e], ?_, (d1.set (by decide)).set (by decide), hpb, hpush.mono fun e' ⟨d', e1, e2⟩ => ?_, ?_, ?_⟩)
          · rw [← List.append_assoc, List.length_append (as := mem ++ qs), nI_1]; rfl
          · by_cases q : d' = d
            · rw [q, hs] at e2
              cases e2
              exact Or.inl (Or.inr rfl)
            · exact Or.inl (Or.inl ⟨d', by omega, e2⟩)
          · rw [List.length_append]; omega
          · rw [getD_app1 hi]; exact hc0
        · refine wS_nop (Or.inr ⟨by decide, by decide, rfl, rfl, lb2, qs, rfl, d1, ⟨gl, gq, u1, u2, u3, u4⟩, d3.mono fun e' ⟨d', e1, e2⟩ => ?_, hi, hc0⟩)
          by_cases q : d' = d
          · rw [q, hs] at e2
            cases e2
            right
            by_cases ql : lnk g (qs.getD i 0) e
            · right
              cases q2 : lb2 e with
              | none =>
                have hroom := d3.room he q2
                rw [q2, ql.2.2, decide_eq_true (by omega)] at hq
                cases hq
              | some k => exact d3.seen hL hld hi ql q2
            · exact Or.inl ql
          · exact Or.inl ⟨d', by omega, e2⟩
    · rintro L' M6 ⟨lb2, qs, rfl, d1, d2, d3, hi, hc0⟩
      refine ⟨fun q => absurd q (by decide), fun q => absurd q (by decide), fun _ _ => wS_inc rfl rfl ⟨rfl, m - 1, by omega, i + 1, lb2, qs, by omega, ?_, d1, d2, d3.next fun e he => ?_⟩⟩
      · rw [nI_1]; rfl
      · rw [hc0] at he
        obtain ⟨-, -, d, hd, h9⟩ := he.1
        exact ⟨d, hd, h9⟩
end PCs
