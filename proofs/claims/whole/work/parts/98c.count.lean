/-! the reference's reads, next, kindBeside; count, differs -/
def KA (S : List Nat) (M M' : Mm) : Prop := M'.1 = M.1 ∧ M'.2.1 = M.2.1 ∧ ∀ b, M'.2.2 b = M.2.2 b ∨ (b ∈ S ∧ ∃ t n f f', M.2.2 b = aI t n f ∧ M'.2.2 b = aI t n f')
theorem aI_inj {t n t' n' : Nat} {f f' : Nat → Int32} (h : aI t n f = aI t' n' f') : t = t' ∧ n = n' ∧ f = f' := by
  injection h with h; injection h with h1 h; injection h with h2 h; injection h with h
  exact ⟨h1, h2, h⟩
theorem KA.rf {S : List Nat} {M : Mm} : KA S M M := ⟨rfl, rfl, fun _ => Or.inl rfl⟩
theorem KA.set {S : List Nat} {M M1 : Mm} {b t n : Nat} {f f' : Nat → Int32} (h : KA S M M1) (hb : b ∈ S) (he : M1.2.2 b = aI t n f) : KA S M (setC M1 b (aI t n f')) := by
  refine ⟨h.1, h.2.1, fun x => ?_⟩
  by_cases e : x = b
  · subst e
    right
    refine ⟨hb, ?_⟩
    rcases h.2.2 x with q | ⟨-, t', n', g, g', q1, q2⟩
    · exact ⟨t, n, f, f', q.symm.trans he, get_at⟩
    · rw [he] at q2
      obtain ⟨rfl, rfl, -⟩ := aI_inj q2
      exact ⟨_, _, g, f', q1, get_at⟩
  · rw [get_ne e]
    exact h.2.2 x
theorem KA.tr {S : List Nat} {M M1 M2 : Mm} (h : KA S M M1) (g : KA S M1 M2) : KA S M M2 := by
  refine ⟨g.1.trans h.1, g.2.1.trans h.2.1, fun b => ?_⟩
  rcases g.2.2 b with q | ⟨hb, t, n, f, f', q1, q2⟩
  · rw [q]; exact h.2.2 b
  · rcases h.2.2 b with p | ⟨-, t', n', k, k', p1, p2⟩
    · exact Or.inr ⟨hb, t, n, f, f', p.symm.trans q1, q2⟩
    · rw [q1] at p2
      obtain ⟨rfl, rfl, -⟩ := aI_inj p2
      exact Or.inr ⟨hb, _, _, k, f', p1, q2⟩
theorem KA.mono {S T : List Nat} {M M1 : Mm} (h : KA S M M1) (hs : ∀ x ∈ S, x ∈ T) : KA T M M1 := ⟨h.1, h.2.1, fun b => (h.2.2 b).elim Or.inl fun q => Or.inr ⟨hs b q.1, q.2⟩⟩
theorem KA.but {S : List Nat} {M M1 : Mm} (h : KA S M M1) : But S M M1 := ⟨h.1, h.2.1, fun b hb => (h.2.2 b).elim id fun q => absurd q.1 hb⟩
theorem KA.arr {S : List Nat} {M M1 : Mm} (h : KA S M M1) {b t n : Nat} {f : Nat → Int32} (he : M.2.2 b = aI t n f) : ∃ f', M1.2.2 b = aI t n f' := by
  rcases h.2.2 b with q | ⟨-, t', n', g, g', q1, q2⟩
  · exact ⟨f, q.trans he⟩
  · rw [he] at q1
    obtain ⟨rfl, rfl, -⟩ := aI_inj q1
    exact ⟨g', q2⟩
abbrev sRa : List Nat := [81, 82, 85, 86, 87, 88, 89, 90, 93, 94, 95]
theorem RSt.ka {L : Nat} {xs : Nat → Int32} {a : AS} {M M' : Mm} {S : List Nat} (h : RSt L xs a M) (hk : KA S M M') (hs : ∀ b ∈ S, b ∈ sRa) : RSt L xs a M' := by
  obtain ⟨h1, ⟨h2, ⟨f3, h3⟩, ⟨f4, h4⟩, ⟨f5, h5⟩⟩, ⟨th, pm, bm, h6⟩⟩ := h
  have hb := hk.but
  refine ⟨h1.fr fun b hb1 _ => hb.2.2 b fun q => ?_, ⟨fun b hb => ?_, hk.arr h3, hk.arr h4, hk.arr h5⟩, ⟨th, pm, bm, (hb.2.2 69 fun q => ?_).trans h6⟩⟩
  · have all : ∀ b ∈ sRa, b ∈ sRs := by decide
    exact hb1 (all b (hs b q))
  · obtain ⟨f, hf⟩ := h2 b hb
    exact hk.arr hf
  · exact absurd (hs 69 q) (by decide)
theorem KA.ron {M M' : Mm} {S : List Nat} (hk : KA S M M') (hs : ∀ b ∈ S, b ∈ sRa) : ROn M M' := hk.but.ron fun b hb => by
  have all : ∀ b ∈ sRa, 69 ≤ b ∧ b < 96 := by decide
  exact all b (hs b hb)
section SW2
variable {L : Lv} {M : Mm} {Q : Lv → Mm → Nat → Option Value → Prop}
theorem wS_swN {e : DI} {cs : List DS} {d : DS} {n : Nat} (h : pI e L M (nI n)) (hn : n < 2 ^ 31) (k : wS ((cs[n]?).getD d) L M fun L2 M2 c v => (c = 1 → Q L2 M2 0 none) ∧ (¬ c = 1 → Q L2 M2 c v)) : wS (swS e 0 cs d) L M Q := by
  obtain ⟨L2, M2, c, v, h3, h4, h5⟩ := k
  have hlt : ¬ (nI n).toInt < 0 := by rw [nI_toInt hn]; omega
  have hix : ((nI n).toInt - 0).toNat = n := by rw [nI_toInt hn]; omega
  have hS : swS e 0 cs d L M = (((cs[n]?).getD d) L M).map fun r => if r.2.2.1 = 1 then (r.1, r.2.1, 0, none) else r := by
    unfold swS
    rw [show e L M = some (nI n, M) from h]
    simp only [Option.bind_some]
    rw [if_neg hlt, hix]
  by_cases e1 : c = 1
  · refine ⟨L2, M2, 0, none, ?_, h4 e1⟩
    rw [hS, h3]
    simp only [Option.map_some]
    rw [if_pos e1]
  · refine ⟨L2, M2, c, v, ?_, h5 e1⟩
    rw [hS, h3]
    simp only [Option.map_some]
    rw [if_neg e1]
end SW2
theorem sp_next {c d : Nat} (hc : c < 1000) (hd : d < 6) (M : Mm) : F_X12_next [.int (nI c), .int (nI d)] M = some (some (.int (oI (nbO c (sw d)))), M) := by
  refine wF_eq (wF_b rfl (Nat.le_of_ble_eq_true rfl) (q_assoc (q_I (v := nI (c / 100)) rfl (pI_eq (pI_div (pI_lI rfl) pI_cI (by decide)) (nI_div rfl (by omega) (by decide) (by decide))) (q_assoc (q_I (v := nI (c / 10 % 10)) rfl (pI_eq (pI_rem (pI_eq (pI_div (pI_lI rfl) pI_cI (by decide)) (nI_div (m := 10) rfl (by omega) (by decide) (by decide))) pI_cI (by decide)) (nI_rem rfl (by omega) (by decide) (by decide))) (q_I (v := nI (c % 10)) rfl (pI_eq (pI_rem (pI_lI rfl) pI_cI (by decide)) (nI_rem rfl (by omega) (by decide) (by decide))) (wS_swN (n := d) (pI_lI rfl) (by omega) ?_)))))))
  have up : ∀ (i k : Nat) (Lx : Lv) (t s : Int32), t = nI 9 → s = nI (stN k) → lkp Lx 0 = some (.int (nI c)) → lkp Lx i = some (.int (nI (c / stN k % 10))) → k < 3 → pI (tI (kI oLt (lI i) (cI t)) (bI oAdd (lI 0) (cI s)) (cI (-1))) Lx M (oI (nbO c (2 * k))) := fun i k Lx t s ht hs h0 hi hk => by
    subst ht hs
    have hm : c / stN k % 10 < 10 := Nat.mod_lt _ (by decide)
    refine pI_eq (pI_tI (pC_eq (pC_kI (pI_lI hi) pI_cI) (oLt_nI (by omega) (by decide))) (pI_eq (pI_add (pI_lI h0) pI_cI) (nI_add _ _)) pI_cI) ?_
    unfold nbO
    rw [show 2 * k / 2 = k by omega, if_pos (show 2 * k % 2 = 0 by omega)]
    by_cases e : c / stN k % 10 < 9
    · rw [if_pos (decide_eq_true e), if_pos e]; rfl
    · rw [if_neg (fun q => e (of_decide_eq_true q)), if_neg e]; rfl
  have dn : ∀ (i k : Nat) (Lx : Lv) (t s : Int32), t = nI 0 → s = nI (stN k) → lkp Lx 0 = some (.int (nI c)) → lkp Lx i = some (.int (nI (c / stN k % 10))) → k < 3 → pI (tI (kI oGt (lI i) (cI t)) (bI oSub (lI 0) (cI s)) (cI (-1))) Lx M (oI (nbO c (2 * k + 1))) := fun i k Lx t s ht hs h0 hi hk => by
    subst ht hs
    have hm : c / stN k % 10 < 10 := Nat.mod_lt _ (by decide)
    have hst := stN_cs k
    refine pI_eq (pI_tI (pC_eq (pC_kI (pI_lI hi) pI_cI) (oGt_nI (by omega) (by decide))) (pI_sub (pI_lI h0) pI_cI) pI_cI) ?_
    unfold nbO
    rw [show (2 * k + 1) / 2 = k by omega, if_neg (show ¬ (2 * k + 1) % 2 = 0 by omega)]
    by_cases e : 0 < c / stN k % 10
    · have hle : stN k ≤ c := by
        rcases hst with ⟨a, -⟩ | ⟨a, -⟩ | ⟨a, -⟩ <;> rw [a] at e ⊢ <;> omega
      rw [if_pos (decide_eq_true e), if_pos e, nI_sub hle (by omega)]; rfl
    · rw [if_neg (fun q => e (of_decide_eq_true q)), if_neg e]; rfl
  have hz : c / 100 = c / stN 0 % 10 := by show c / 100 = c / 100 % 10; omega
  have hx : c / 10 % 10 = c / stN 1 % 10 := rfl
  have hw : c % 10 = c / stN 2 % 10 := by show c % 10 = c / 1 % 10; rw [Nat.div_one]
  rw [hz, hx, hw]
  rcases (show d = 0 ∨ d = 1 ∨ d = 2 ∨ d = 3 ∨ d = 4 ∨ d = 5 by omega) with rfl | rfl | rfl | rfl | rfl | rfl
  · exact l_ret (dn 2 0 _ 0 100 rfl rfl rfl rfl (by decide)) ⟨fun q => absurd q (by decide), fun _ => ⟨rfl, rfl, rfl⟩⟩
  · exact l_ret (up 2 0 _ 9 100 rfl rfl rfl rfl (by decide)) ⟨fun q => absurd q (by decide), fun _ => ⟨rfl, rfl, rfl⟩⟩
  · exact l_ret (dn 3 1 _ 0 10 rfl rfl rfl rfl (by decide)) ⟨fun q => absurd q (by decide), fun _ => ⟨rfl, rfl, rfl⟩⟩
  · exact l_ret (up 3 1 _ 9 10 rfl rfl rfl rfl (by decide)) ⟨fun q => absurd q (by decide), fun _ => ⟨rfl, rfl, rfl⟩⟩
  · exact l_ret (dn 4 2 _ 0 1 rfl rfl rfl rfl (by decide)) ⟨fun q => absurd q (by decide), fun _ => ⟨rfl, rfl, rfl⟩⟩
  · exact l_ret (up 4 2 _ 9 1 rfl rfl rfl rfl (by decide)) ⟨fun q => absurd q (by decide), fun _ => ⟨rfl, rfl, rfl⟩⟩
theorem oI_m1 {o : Option Nat} (ho : ∀ m, o = some m → m < 2 ^ 31) : oEq (oI o) (-1) = o.isNone := oI_noe ho
theorem sp_kindBeside {L : Nat} {xs : Nat → Int32} {a : AS} {M : Mm} (h : RCo L xs a M) (ho : RO a M) {y c d : Nat} (hy : y < 16) (hc : c < 1000) (hd : d < 6) : F_X12_kindBeside [.ref 69, .int (nI y), .int (nI c), .int (nI d)] M = some (some (.int (kR (gO (cdA (zab a) y) (nbO c (sw d))))), M) := by
  obtain ⟨th, pm, bm, h69⟩ := id ho
  refine wF_eq (wF_b rfl (Nat.le_of_ble_eq_true rfl) (q_I rfl (pI_vS (pR_I (pI_lI rfl) (pR_I (pI_lI rfl) pR_0)) (sp_next hc hd M)) (l_ret (v := kR (gO (cdA (zab a) y) (nbO c (sw d)))) (pI_eq (pI_tD (x := kR (gO (cdA (zab a) y) (nbO c (sw d)))) (y := kR (gO (cdA (zab a) y) (nbO c (sw d)))) (pC_kI (pI_lI rfl) pI_cI) (fun hb => ?_) (fun hb => ?_)) (ite_self _)) ⟨rfl, rfl, rfl⟩)))
  · cases e : nbO c (sw d) with
    | none => exact pI_cI
    | some m => rw [e, oI_some (by have := nbO_lt hc e; omega)] at hb; cases hb
  · cases e : nbO c (sw d) with
    | none => rw [e] at hb; cases hb
    | some m => exact pI_vV (pR_A (pA_lA rfl) (pR_I (pI_lI rfl) (pR_I (pI_lI rfl) pR_0))) h69 (sp_kindR2 h ho hy (nbO_lt hc e))
/-- what the reference has read of a yard -/
def RdR (M : Mm) (g : Nat → Int32) : Prop := ∃ fk ft, M.2.2 85 = aI 0 1000 fk ∧ M.2.2 86 = aI 0 1000 ft ∧ ∀ c, c < 1000 → fk c = kR (g c) ∧ ft c = if oEq (kR (g c)) (-1) = true then 0 else tn (g c)
theorem sp_reads {L : Nat} {xs : Nat → Int32} {a : AS} {M : Mm} (h : RSt L xs a M) (hv : AV (zkn a) (zab a)) {y : Nat} (hy : y < 4) : wF F_X12_reads [.ref 69, .int (nI y)] M fun v M' => v = none ∧ KA [85, 86] M M' ∧ RdR M' (cdA (zab a) y) := by
  obtain ⟨f0, h85⟩ := h.2.1.1 85 (by decide)
  obtain ⟨t0, h86⟩ := h.2.1.1 86 (by decide)
  refine wF_b rfl (Nat.le_of_ble_eq_true rfl) ?_
  refine q_for 1000 (fun j L' M1 => L' = [some (.ref 69), some (.int (nI y)), some (.int (nI j))] ∧ KA [85, 86] M M1 ∧ ∃ fk ft, M1.2.2 85 = aI 0 1000 fk ∧ M1.2.2 86 = aI 0 1000 ft ∧ ∀ c, c < j → fk c = kR (cdA (zab a) y c) ∧ ft c = if oEq (kR (cdA (zab a) y c)) (-1) = true then 0 else tn (cdA (zab a) y c)) rfl (a := 0) rfl rfl (by decide) (by decide) ⟨rfl, KA.rf, _, _, h85, h86, fun c hc => absurd hc (Nat.not_lt_zero c)⟩ ?_ ?_ ?_
  · rintro j L' M1 ⟨rfl, -⟩
    rfl
  · rintro j L' M1 hj ⟨rfl, b1, fk, ft, c1, c2, c3⟩
    have h1 := h.ka b1 (by decide)
    obtain ⟨th, pm, bm, h69⟩ := id h1.2.2
    have b2 : KA [85, 86] M (setC M1 85 (aI 0 1000 (upd fk j (kR (cdA (zab a) y j))))) := b1.set (by decide) c1
    have h2 := h.ka b2 (by decide)
    obtain ⟨th', pm', bm', h69'⟩ := id h2.2.2
    refine q_pa (j := j) (pA_fA (k := 19) (pA_lA rfl) h69 rfl) (pI_lI rfl) (pI_vV (pR_A (pA_lA rfl) (pR_I (pI_lI rfl) (pR_I (pI_lI rfl) pR_0))) h69 (sp_kindR2 h1.1 h1.2.2 (by omega) hj)) c1 (by decide) hj (by decide) (Or.inl rfl) ?_
    have p1 := pI_gI (t := 0) (L := [some (.ref 69), some (.int (nI y)), some (.int (nI j))]) (pA_fA (k := 19) (pA_lA (i := 0) rfl) h69' rfl) (pI_lI (i := 2) rfl) get_at (inb_nI hj (by decide))
    rw [nI_clamp (by omega), show upd fk j (kR (cdA (zab a) y j)) j = kR (cdA (zab a) y j) from if_pos rfl] at p1
    refine l_pa (j := j) (pA_fA (k := 20) (pA_lA rfl) h69' rfl) (pI_lI rfl) (pI_tD (x := 0) (y := tn (cdA (zab a) y j)) (pC_kI p1 pI_cI) (fun _ => pI_cI) (fun hb => pI_vV (pR_A (pA_lA rfl) (pR_I (pI_lI rfl) (pR_I (pI_lI rfl) pR_0))) h69' (sp_turnR2 h2.1 h2.2.2 (by omega) hj fun q => ?_))) ((get_ne (by decide)).trans c2) (by decide) hj (by decide) (Or.inl rfl) (Or.inr ⟨by decide, by decide, rfl, rfl, rfl, b2.set (by decide) ((get_ne (by decide)).trans c2), _, _, (get_ne (by decide)).trans get_at, get_at, fun c hc => ?_⟩)
    · rw [q] at hb; cases hb
    · unfold upd
      by_cases e : c = j
      · rw [if_pos e, if_pos e, e]
        exact ⟨rfl, rfl⟩
      · rw [if_neg e, if_neg e]
        exact c3 c (by omega)
  · rintro L' M1 ⟨rfl, b1, fk, ft, c1, c2, c3⟩
    exact wS_retV ⟨rfl, rfl, b1, fk, ft, c1, c2, c3⟩
-- count
theorem kR_kd {v k : Int32} (hk : ¬ k = -1) : oEq (kR v) k = (oNe v (-1) && oEq (kd v) k) := by
  unfold kR kd oEq oNe
  by_cases e : v = -1
  · rw [if_pos e]
    simp [e, Ne.symm hk]
  · rw [if_neg e]
    simp [e]
def coP (a : AS) (y : Nat) (k : Int32) (c : Nat) : Bool := hld (zbx a) c && (oNe (cdA (zab a) y c) (-1) && oEq (kd (cdA (zab a) y c)) k)
def coV (y k : Int32) (a : AS) : Int32 := if (isY y && isIn k 0 (nI (zkn a))) = true then nI (cn 1000 (coP a y.toNatClampNeg k)) else -1
theorem ok2_count (L : Nat) (xs : Nat → Int32) (y k : Int32) : OK2 (Inv2 L xs) F_X11_count F_X12_count [.int y, .int k] := by
  refine ok2_rd (coV y k) (fun a M hO hb h => ?_) (fun a M hO hb h => wF_b rfl (Nat.le_of_ble_eq_true rfl) (r_st h rfl fun M0 h0 s0 => ?_))
  · unfold coV
    refine wF_b rfl (Nat.le_of_ble_eq_true rfl) (q_if (pC_eq (pC_or (pC_not (pC_nz (pI_vS (pR_I (pI_lI rfl) pR_0) (sp_isYardC _ _)))) (pC_not (pC_nz (pI_vV (pR_A (pA_kinds h.1 rfl) (pR_I (pI_lI rfl) pR_0)) h.1.k7 (sp_isKOC hO.1 h.1.k7 k))))) (not_or_n _ _)) (fun hb1 => ?_) (fun hb1 => ?_))
    · rw [Bool.not_eq_true'] at hb1
      rw [if_neg (by rw [hb1]; decide)]
      exact q_ret pI_cI ⟨rfl, rfl, h, COn.rf⟩
    · rw [Bool.not_eq_false'] at hb1
      rw [if_pos hb1]
      obtain ⟨g1, g2⟩ := Bool.and_eq_true_iff.mp hb1
      obtain ⟨yn, hy, rfl⟩ := isY_nat g1
      rw [nI_clamp (by omega)]
      refine q_I rfl pI_cI ?_
      refine q_for 1000 (fun j L' M1 => L' = [some (.ref 5), some (.int (nI yn)), some (.int k), some (.int (nI (cn j (coP a yn k)))), some (.int (nI j)), none] ∧ M1 = M) rfl (a := 0) rfl rfl (by decide) (by decide) ⟨rfl, rfl⟩ ?_ ?_ ?_
      · rintro j L' M1 ⟨rfl, -⟩
        rfl
      · rintro j L' M1 hj ⟨rfl, rfl⟩
        refine l_scp (q_I rfl (pI_tI (pC_nz (pI_vV (pR_A (pA_fA (k := 2) (pA_lA rfl) h.1.o5 rfl) (pR_I (pI_lI rfl) pR_0)) h.1.1.2.1 (sp_holdsC h.1 hj))) (pI_vV (pR_A (pA_yard h.1.1 h.1.o5 hy rfl rfl) (pR_I (pI_lI rfl) pR_0)) (h.1.y hy) (sp_codeA h.1 hy hj)) pI_cI) ?_)
        refine l_if (v := coP a yn k j) (pC_eq (pC_and (pC_kI (pI_lI rfl) pI_cI) (pC_kI (pI_vS (pR_I (pI_lI rfl) pR_0) (sp_kindOf _ _)) (pI_lI rfl))) ?_) (fun hb => ?_) (fun hb => ?_)
        · unfold coP
          cases hld (zbx a) j with
          | true => rfl
          | false => rfl
        · refine l_inc rfl rfl (Or.inr ⟨by decide, by decide, rfl, rfl, ?_, rfl⟩)
          rw [cn, hb, if_pos rfl, nI_1]; rfl
        · refine wS_nop (Or.inr ⟨by decide, by decide, rfl, rfl, ?_, rfl⟩)
          rw [cn, hb]; rfl
      · rintro L' M1 ⟨rfl, rfl⟩
        exact l_ret (pI_lI rfl) ⟨rfl, rfl, h, COn.rf⟩
  · obtain ⟨th, pm, bm, h69⟩ := id h0.2.2
    unfold coV
    refine q_if (pC_eq (pC_or (pC_not (pC_nz (pI_vS (pR_I (pI_lI rfl) pR_0) (sp_isYardR _ _)))) (pC_not (pC_nz (pI_vV (pR_A (pA_lA rfl) (pR_I (pI_lI rfl) pR_0)) h69 (sp_isKOR h0.2.2 k))))) (not_or_n _ _)) (fun hb1 => ?_) (fun hb1 => ?_)
    · rw [Bool.not_eq_true'] at hb1
      rw [if_neg (by rw [hb1]; decide)]
      exact q_ret pI_cI ⟨rfl, rfl, h0, s0⟩
    · rw [Bool.not_eq_false'] at hb1
      rw [if_pos hb1]
      obtain ⟨g1, g2⟩ := Bool.and_eq_true_iff.mp hb1
      obtain ⟨yn, hy, rfl⟩ := isY_nat g1
      rw [nI_clamp (by omega)]
      have hk : ¬ k = -1 := fun q => by
        have := in_nat hO.1 g2
        rw [q] at this
        exact absurd this.1 (by decide)
      refine q_I rfl pI_cI ?_
      refine q_for 1000 (fun j L' M1 => L' = [some (.ref 69), some (.int (nI yn)), some (.int k), some (.int (nI (cn j (coP a yn k)))), some (.int (nI j))] ∧ M1 = M0) rfl (a := 0) rfl rfl (by decide) (by decide) ⟨rfl, rfl⟩ ?_ ?_ ?_
      · rintro j L' M1 ⟨rfl, -⟩
        rfl
      · rintro j L' M1 hj ⟨rfl, rfl⟩
        refine l_I rfl (pI_eq (pI_add (pI_lI rfl) (pI_tI (b := coP a yn k j) (pC_eq (pC_and (pC_nz (pI_vV (pR_A (pA_lA rfl) (pR_I (pI_lI rfl) pR_0)) h69 (sp_isInR h0.1 h0.2.2 hj))) (pC_kI (pI_vV (pR_A (pA_lA rfl) (pR_I (pI_lI rfl) (pR_I (pI_lI rfl) pR_0))) h69 (sp_kindR2 h0.1 h0.2.2 (by omega) hj)) (pI_lI rfl))) ?_) pI_cI pI_cI)) (cn_add j _)) (Or.inr ⟨by decide, by decide, rfl, rfl, rfl, rfl⟩)
        rw [kR_kd hk]
        rfl
      · rintro L' M1 ⟨rfl, rfl⟩
        exact l_ret (pI_lI rfl) ⟨rfl, rfl, h0, s0⟩
-- differs
theorem code_id {kn : Nat} {v : Int32} (hkn : kn ≤ 30) (h : cOK kn v) (hne : ¬ v = -1) : v = 24 * kd v + tn v := by
  obtain ⟨k1, k2⟩ := kd_in hkn h hne
  obtain ⟨t1, t2⟩ := tn_in h hne
  have hv := cOK_code hkn h hne
  apply Int32.toInt_inj.mp
  rw [code_int k1 (by omega) t1 t2]
  have e1 : (kd v).toInt = v.toInt / 24 := dvI (n := 24) rfl (by decide) hv.1
  have e2 : (tn v).toInt = v.toInt % 24 := rmI (n := 24) rfl hv.1
  omega
def diP (ab : AB) (y u c : Nat) : Bool := oNe (cdA ab y c) (cdA ab u c)
def diV (y u : Int32) (a : AS) : Int32 := if (isY y && isY u) = true then nI (cn 1000 (diP (zab a) y.toNatClampNeg u.toNatClampNeg)) else -1
theorem alike {kn : Nat} {v w : Int32} (hkn : kn ≤ 30) (hv : cOK kn v) (hw : cOK kn w) : (oEq (kR w) (kR v) && (oEq (kR w) (-1) || (if oEq (kR w) (-1) = true then false else oEq (tn w) (if oEq (kR v) (-1) = true then 0 else tn v)))) = !(oNe v w) := by
  rw [oNe_not, Bool.not_not, kR_no hw, kR_no hv]
  by_cases e1 : w = -1
  · subst e1
    by_cases e2 : v = -1
    · subst e2; rfl
    · have h1 : oEq (kR (-1)) (kR v) = false := by
        rcases kR_cs hv with ⟨q, -⟩ | ⟨q, e⟩ | ⟨-, h2, -⟩
        · exact absurd q e2
        · rw [e]; rfl
        · exact decide_eq_false fun q => by rw [← q] at h2; exact absurd h2 (by decide)
      rw [h1, show oEq v (-1) = false from decide_eq_false e2]; rfl
  · have h0 : oEq w (-1) = false := decide_eq_false e1
    rw [h0, Bool.false_or, if_neg (by decide)]
    by_cases e2 : v = -1
    · subst e2
      have h1 : oEq (kR w) (kR (-1)) = false := by
        rcases kR_cs hw with ⟨q, -⟩ | ⟨q, e⟩ | ⟨-, h2, -⟩
        · exact absurd q e1
        · rw [e]; rfl
        · exact decide_eq_false fun q => by rw [q] at h2; exact absurd h2 (by decide)
      rw [h1, show oEq (-1) w = false from decide_eq_false (Ne.symm e1)]; rfl
    · rw [show oEq v (-1) = false from decide_eq_false e2, if_neg (by decide)]
      have k1 : kR w = kd w := if_neg e1
      have k2 : kR v = kd v := if_neg e2
      rw [k1, k2]
      unfold oEq
      rw [← Bool.decide_and, decide_eq_decide]
      refine ⟨fun ⟨p, q⟩ => ?_, fun q => by rw [q]; exact ⟨rfl, rfl⟩⟩
      rw [code_id hkn hv e2, code_id hkn hw e1, p, q]
theorem ok2_differs (L : Nat) (xs : Nat → Int32) (y u : Int32) : OK2 (Inv2 L xs) F_X11_differs F_X12_differs [.int y, .int u] := by
  refine ok2_rd (diV y u) (fun a M hO hb h => ?_) (fun a M hO hb h => wF_b rfl (Nat.le_of_ble_eq_true rfl) (r_st h rfl fun M0 h0 s0 => ?_))
  · unfold diV
    refine wF_b rfl (Nat.le_of_ble_eq_true rfl) (q_if (pC_eq (pC_or (pC_not (pC_nz (pI_vS (pR_I (pI_lI rfl) pR_0) (sp_isYardC _ _)))) (pC_not (pC_nz (pI_vS (pR_I (pI_lI rfl) pR_0) (sp_isYardC _ _))))) (not_or_n _ _)) (fun hb1 => ?_) (fun hb1 => ?_))
    · rw [Bool.not_eq_true'] at hb1
      rw [if_neg (by rw [hb1]; decide)]
      exact q_ret pI_cI ⟨rfl, rfl, h, COn.rf⟩
    · rw [Bool.not_eq_false'] at hb1
      rw [if_pos hb1]
      obtain ⟨g1, g2⟩ := Bool.and_eq_true_iff.mp hb1
      obtain ⟨yn, hy, rfl⟩ := isY_nat g1
      obtain ⟨un, hu, rfl⟩ := isY_nat g2
      rw [nI_clamp (by omega), nI_clamp (by omega)]
      refine q_I rfl pI_cI ?_
      refine q_for 1000 (fun j L' M1 => L' = [some (.ref 5), some (.int (nI yn)), some (.int (nI un)), some (.int (nI (cn j (diP (zab a) yn un)))), some (.int (nI j))] ∧ M1 = M) rfl (a := 0) rfl rfl (by decide) (by decide) ⟨rfl, rfl⟩ ?_ ?_ ?_
      · rintro j L' M1 ⟨rfl, -⟩
        rfl
      · rintro j L' M1 hj ⟨rfl, rfl⟩
        refine l_if (v := diP (zab a) yn un j) (pC_kI (pI_vV (pR_A (pA_yard h.1.1 h.1.o5 hy rfl rfl) (pR_I (pI_lI rfl) pR_0)) (h.1.y hy) (sp_codeA h.1 hy hj)) (pI_vV (pR_A (pA_yard h.1.1 h.1.o5 hu rfl rfl) (pR_I (pI_lI rfl) pR_0)) (h.1.y hu) (sp_codeA h.1 hu hj))) (fun hb => ?_) (fun hb => ?_)
        · refine l_inc rfl rfl (Or.inr ⟨by decide, by decide, rfl, rfl, ?_, rfl⟩)
          rw [cn, hb, if_pos rfl, nI_1]; rfl
        · refine wS_nop (Or.inr ⟨by decide, by decide, rfl, rfl, ?_, rfl⟩)
          rw [cn, hb]; rfl
      · rintro L' M1 ⟨rfl, rfl⟩
        exact l_ret (pI_lI rfl) ⟨rfl, rfl, h, COn.rf⟩
  · obtain ⟨th, pm, bm, h69⟩ := id h0.2.2
    unfold diV
    refine q_if (pC_eq (pC_or (pC_not (pC_nz (pI_vS (pR_I (pI_lI rfl) pR_0) (sp_isYardR _ _)))) (pC_not (pC_nz (pI_vS (pR_I (pI_lI rfl) pR_0) (sp_isYardR _ _))))) (not_or_n _ _)) (fun hb1 => ?_) (fun hb1 => ?_)
    · rw [Bool.not_eq_true'] at hb1
      rw [if_neg (by rw [hb1]; decide)]
      exact q_ret pI_cI ⟨rfl, rfl, h0, s0⟩
    · rw [Bool.not_eq_false'] at hb1
      rw [if_pos hb1]
      obtain ⟨g1, g2⟩ := Bool.and_eq_true_iff.mp hb1
      obtain ⟨yn, hy, rfl⟩ := isY_nat g1
      obtain ⟨un, hu, rfl⟩ := isY_nat g2
      rw [nI_clamp (by omega), nI_clamp (by omega)]
      refine q_ex (wV_Vw (pR_A (pA_lA rfl) (pR_I (pI_lI rfl) pR_0)) h69 ((sp_reads h0 hO.av hy).mono ?_))
      rintro v M2 ⟨rfl, k1, fk, ft, k2, k3, k4⟩
      have h2 := h0.ka k1 (by decide)
      obtain ⟨th', pm', bm', h69'⟩ := id h2.2.2
      refine ⟨rfl, q_I rfl pI_cI ?_⟩
      refine q_for 1000 (fun j L' M1 => L' = [some (.ref 69), some (.int (nI yn)), some (.int (nI un)), some (.int (nI (cn j (diP (zab a) yn un)))), some (.int (nI j)), none, none] ∧ M1 = M2) rfl (a := 0) rfl rfl (by decide) (by decide) ⟨rfl, rfl⟩ ?_ ?_ ?_
      · rintro j L' M1 ⟨rfl, -⟩
        rfl
      · rintro j L' M1 hj ⟨rfl, rfl⟩
        have hal := alike hO.1 (hO.av.cd (y := yn) (by omega) hj) (hO.av.cd (y := un) (by omega) hj)
        have pk : ∀ Lx : Lv, lkp Lx 0 = some (.ref 69) → lkp Lx 4 = some (.int (nI j)) → pI (gI 0 (fA 11 19 (lA 0)) (lI 4)) Lx M1 (kR (cdA (zab a) yn j)) := fun Lx q0 q4 => by
          have h9 := pI_gI (t := 0) (L := Lx) (pA_fA (k := 19) (pA_lA q0) h69' rfl) (pI_lI q4) k2 (inb_nI hj (by decide))
          rw [nI_clamp (by omega), (k4 j hj).1] at h9
          exact h9
        have pt : ∀ Lx : Lv, lkp Lx 0 = some (.ref 69) → lkp Lx 4 = some (.int (nI j)) → pI (gI 0 (fA 11 20 (lA 0)) (lI 4)) Lx M1 (if oEq (kR (cdA (zab a) yn j)) (-1) = true then 0 else tn (cdA (zab a) yn j)) := fun Lx q0 q4 => by
          have h9 := pI_gI (t := 0) (L := Lx) (pA_fA (k := 20) (pA_lA q0) h69' rfl) (pI_lI q4) k3 (inb_nI hj (by decide))
          rw [nI_clamp (by omega), (k4 j hj).2] at h9
          exact h9
        refine l_scp (q_I rfl (pI_vV (pR_A (pA_lA rfl) (pR_I (pI_lI rfl) (pR_I (pI_lI rfl) pR_0))) h69' (sp_kindR2 h2.1 h2.2.2 (by omega) hj)) ?_)
        refine q_I rfl (pI_zI (pC_eq (pC_and (pC_kI (pI_lI rfl) (pk _ rfl rfl)) (pC_orD (y := if oEq (kR (cdA (zab a) un j)) (-1) = true then false else oEq (tn (cdA (zab a) un j)) (if oEq (kR (cdA (zab a) yn j)) (-1) = true then 0 else tn (cdA (zab a) yn j))) (pC_kI (pI_lI rfl) pI_cI) fun hb => ?_)) hal)) ?_
        · have hb' : ¬ oEq (kR (cdA (zab a) un j)) (-1) = true := by rw [hb]; decide
          rw [if_neg hb']
          refine pC_kI (pI_vV (pR_A (pA_lA rfl) (pR_I (pI_lI rfl) (pR_I (pI_lI rfl) pR_0))) h69' (sp_turnR2 h2.1 h2.2.2 (by omega) hj fun q => ?_)) (pt _ rfl rfl)
          rw [q] at hb; cases hb
        · refine l_I rfl (pI_eq (pI_add (pI_lI rfl) (pI_tI (b := !(diP (zab a) yn un j)) (pC_eq (pC_kI (pI_lI rfl) pI_cI) ?_) pI_cI pI_cI)) ?_) (Or.inr ⟨by decide, by decide, rfl, rfl, rfl, rfl⟩)
          · exact bz_ne _
          · rw [← cn_add]
            cases diP (zab a) yn un j <;> rfl
      · rintro L' M1 ⟨rfl, rfl⟩
        exact l_ret (pI_lI rfl) ⟨rfl, rfl, h2, s0.tr (k1.ron (by decide))⟩
