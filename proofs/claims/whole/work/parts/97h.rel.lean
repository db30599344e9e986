/-! a layer let go, a layer put in a place, a row put into a layer -/
section CP
variable {M : Mm} {s : SN} {hc rc : Nat → Nat} {DL DR : Nat → Prop}
theorem cn_split (n : Nat) (p : Nat → Bool) {j : Nat} (hj : j < n) (h : p j = true) : cn j p + 1 ≤ cn n p := by
  have h1 := cn_mono p (show j + 1 ≤ n by omega)
  rw [cn, if_pos h] at h1
  exact h1
theorem sp_lrel {nl nr l : Nat} (h : CL M s hc DL DR nl nr) (hl : DL l) (hB : M.1 ≤ BC) (hb : hc l ≤ 1000) (h1 : 1 ≤ hc l) : wF F_X4_release [.ref l, .ref 6] M fun v M' => v = none ∧ CL M' s (updN hc l (hc l - 1)) DL DR nl nr ∧ Fr6 M M' := by
  obtain ⟨hC, h6⟩ := h
  obtain ⟨⟨l1, l2, l3, gl, l4, l5⟩, l6⟩ := hC.1 l hl
  have hBC : BC = 700000 := rfl
  have hlB : l < BC := by omega
  have e1 : nI (hc l) - 1 = nI (hc l - 1) := nI_sub (b := 1) h1 (by omega)
  have u1 : hc l = updN hc l (hc l - 1) l + 1 := by rw [updN, if_pos rfl]; omega
  have u2 : ∀ m, m ≠ l → hc m = updN hc l (hc l - 1) m := fun m hm => (if_neg hm).symm
  have u3 : updN hc l (hc l - 1) l = hc l - 1 := if_pos rfl
  have eL := lhF_up hlB u1 u2
  have eR : ∀ r, rcF (ng s) hc r = rcF (ng s) (updN hc l (hc l - 1)) r + (if updN hc l (hc l - 1) l = 0 then cn 10 fun x => decide (ng s l x = some r) else 0) := rcF_up hlB u1 u2
  rw [u3] at eL eR
  have hCl := hC.setL hl (hc l - 1)
  rw [← e1] at hCl
  have hled : lhF hc ≤ BC := cn_le _ _
  refine wF_b rfl (Nat.le_of_ble_eq_true rfl) (q_dn (pA_lA rfl) pI_cI l3 rfl (Nat.le_of_ble_eq_true rfl) (q_if (pC_kI (pI_fI (pA_lA rfl) get_at rfl) pI_cI) (fun hz => ?_) (fun hz => ?_)))
  · rw [e1, nI_z (by omega), decide_eq_true_eq] at hz
    rw [if_pos hz] at eL
    have e0 : (fun r => rcF (ng s) hc r - cn 0 fun x => decide (ng s l x = some r)) = rcF (ng s) hc := funext fun r => by rw [cn, Nat.sub_zero]
    have e2 : nI (lhF hc) - 1 = nI (lhF hc - 1) := nI_sub (b := 1) (by omega) (by omega)
    refine q_assoc (q_dn (pA_lA rfl) pI_cI ((get_ne (by omega)).trans h6) rfl (Nat.le_of_ble_eq_true rfl) ?_)
    refine q_for 10 (fun j L M1 => L = [some (.ref l), some (.ref 6), some (.int (nI j))] ∧ COb M1 s (updN hc l (hc l - 1)) (fun r => rcF (ng s) hc r - cn j fun x => decide (ng s l x = some r)) DL DR ∧ M1.2.2 6 = led nl nr (lhF hc - 1) (rhF fun r => rcF (ng s) hc r - cn j fun x => decide (ng s l x = some r)) ∧ Fr6 M M1) rfl (a := 0) rfl rfl (by decide) (by decide) ⟨rfl, by rw [e0]; exact hCl.low (by decide), by rw [e0, get_at, led, ← e2]; rfl, (Fr6.hi l1).tr Fr6.six⟩ ?_ ?_ ?_
    · rintro j L M1 ⟨rfl, -⟩
      rfl
    · rintro j L M1 hj ⟨rfl, c1, c2, c3⟩
      have hg := pA_rows (Lc := [some (.ref l), some (.ref 6), some (.int (nI j))]) (i := 0) (k := 2) (c1.1 l hl).1 rfl rfl hj
      have stp : ∀ r, (cn (j + 1) fun x => decide (ng s l x = some r)) = (cn j fun x => decide (ng s l x = some r)) + (if ng s l j = some r then 1 else 0) := fun r => by rw [cn]; simp only [decide_eq_true_eq]
      cases hq : ng s l j with
      | none =>
        rw [hq] at hg
        have stp2 : (fun r => rcF (ng s) hc r - cn (j + 1) fun x => decide (ng s l x = some r)) = fun r => rcF (ng s) hc r - cn j fun x => decide (ng s l x = some r) := by
          funext r
          rw [stp, hq]
          simp
        refine l_if (pC_notN hg) (fun q => (by cases q)) (fun _ => wS_nop (Or.inr ⟨by decide, by decide, rfl, rfl, rfl, ?_⟩))
        rw [stp2]
        exact ⟨c1, c2, c3⟩
      | some r =>
        rw [hq] at hg
        have hr : DR r := l6 j r hj hq
        have hrB : r < BC := by
          have := (c1.2 r hr).2.1
          have := c3.1
          omega
        have hle := rcF_le (ng s) hc r
        have hcn := cn_split 10 (fun x => decide (ng s l x = some r)) hj (decide_eq_true hq)
        have eRr := eR r
        rw [if_pos hz] at eRr
        have hpos : 1 ≤ rhF fun r => rcF (ng s) hc r - cn j fun x => decide (ng s l x = some r) := cn_pos hrB (decide_eq_true (by show 0 < rcF (ng s) hc r - cn j fun x => decide (ng s l x = some r); omega))
        have hbig : (rhF fun r => rcF (ng s) hc r - cn j fun x => decide (ng s l x = some r)) ≤ BC := cn_le _ _
        refine l_if (pC_notN hg) (fun _ => wS_exV (wV_V (wR_A (wA_p hg (wR_A (wA_p (pA_lA rfl) (wR_0 ⟨isR_of (c1.2 r hr).2.2.1, (sp_rrel c1 c2 hr (by omega) (by omega) hpos (by omega)).mono ?_⟩))))))) (fun q => (by cases q))
        rintro v M2 ⟨rfl, d1, d2, d3⟩
        have stp2 : (fun r => rcF (ng s) hc r - cn (j + 1) fun x => decide (ng s l x = some r)) = updN (fun r => rcF (ng s) hc r - cn j fun x => decide (ng s l x = some r)) r (rcF (ng s) hc r - (cn j fun x => decide (ng s l x = some r)) - 1) := by
          funext q
          rw [stp, hq, updN]
          by_cases e : q = r
          · subst e; rw [if_pos rfl, if_pos rfl]; omega
          · rw [if_neg e, if_neg (fun t => e (Option.some.inj t).symm)]; omega
        refine ⟨rfl, Or.inr ⟨by decide, by decide, rfl, rfl, rfl, ?_⟩⟩
        rw [stp2]
        refine ⟨d1, ?_, c3.tr d3⟩
        rw [d2]
        have := rhF_at (f := updN (fun r => rcF (ng s) hc r - cn j fun x => decide (ng s l x = some r)) r (rcF (ng s) hc r - (cn j fun x => decide (ng s l x = some r)) - 1)) (g := fun r => rcF (ng s) hc r - cn j fun x => decide (ng s l x = some r)) hrB fun q hne => if_neg hne
        have ev : updN (fun r => rcF (ng s) hc r - cn j fun x => decide (ng s l x = some r)) r (rcF (ng s) hc r - (cn j fun x => decide (ng s l x = some r)) - 1) r = rcF (ng s) hc r - (cn j fun x => decide (ng s l x = some r)) - 1 := if_pos rfl
        rw [ev, if_pos (c := 0 < rcF (ng s) hc r - cn j fun x => decide (ng s l x = some r)) (by omega)] at this
        congr 5
        by_cases e0 : (rcF (ng s) hc r - cn j fun x => decide (ng s l x = some r)) = 1
        · rw [if_pos e0]
          rw [if_neg (by omega)] at this
          omega
        · rw [if_neg e0]
          rw [if_pos (by omega)] at this
          omega
    · rintro L M1 ⟨rfl, c1, c2, c3⟩
      have hR : (fun r => rcF (ng s) hc r - cn 10 fun x => decide (ng s l x = some r)) = rcF (ng s) (updN hc l (hc l - 1)) := by
        funext r
        have := eR r
        rw [if_pos hz] at this
        omega
      rw [hR] at c1 c2
      refine wS_retV ⟨rfl, rfl, ⟨c1, ?_⟩, c3⟩
      rw [c2, show lhF hc - 1 = lhF (updN hc l (hc l - 1)) by omega]
  · rw [e1, nI_z (by omega), decide_eq_false_iff_not] at hz
    rw [if_neg hz] at eL
    have hR : rcF (ng s) hc = rcF (ng s) (updN hc l (hc l - 1)) := by
      funext r
      rw [eR, if_neg hz, Nat.add_zero]
    refine wS_retV ⟨rfl, rfl, ⟨?_, ?_⟩, Fr6.hi l1⟩
    · rw [← hR]
      exact hCl
    · rw [get_ne (by omega), h6, ← hR, eL, Nat.add_zero]
def incO (hc : Nat → Nat) (o : Option Nat) : Nat → Nat := match o with
  | none => hc
  | some l => updN hc l (hc l + 1)
def decO (hc : Nat → Nat) (o : Option Nat) : Nat → Nat := match o with
  | none => hc
  | some l => updN hc l (hc l - 1)
/-- nothing was made, and of the cells below 97 only the ledger and cell c differ -/
def FrA (c : Nat) (M M' : Mm) : Prop := M'.1 = M.1 ∧ M'.2.1 = M.2.1 ∧ ∀ b, b < 97 → b ≠ 6 → b ≠ c → M'.2.2 b = M.2.2 b
theorem Fr6.a {c : Nat} {M' : Mm} (h : Fr6 M M') : FrA c M M' := ⟨h.1, h.2.1, fun b h1 h2 _ => h.2.2 b h1 h2⟩
theorem FrA.tr {c : Nat} {M1 M2 : Mm} (h : FrA c M M1) (g : FrA c M1 M2) : FrA c M M2 := ⟨g.1.trans h.1, g.2.1.trans h.2.1, fun b h1 h2 h3 => (g.2.2 b h1 h2 h3).trans (h.2.2 b h1 h2 h3)⟩
theorem sp_setLayer {nl nr Y A z : Nat} {fl : Nat → Option Nat} (h : CL M s hc DL DR nl nr) (hY : M.2.2 Y = .inr (9, [.ref 6, .ref A])) (hY97 : Y < 97) (hA97 : A < 97) (hA5 : 5 ≤ A) (hA6 : A ≠ 6) (hY6 : Y ≠ 6) (hYA : Y ≠ A) (hF : M.2.2 A = aR 4 10 fl) (hz : z < 10) (lo : Option Nat) (hlo : ∀ l, lo = some l → DL l) (hbf : ∀ l, fl z = some l → DL l ∧ 1 ≤ hc l) (hB : M.1 ≤ BC) (hb : ∀ l, hc l ≤ 900) :
    wF F_X10_setLayer [.ref Y, .int (nI z), va_rf lo] M fun v M' => v = none ∧ CL M' s (decO (incO hc lo) (fl z)) DL DR nl nr ∧ M'.2.2 A = aR 4 10 (va_up fl z lo) ∧ FrA A M M' := by
  have hrd : ∀ Lc : Lv, lkp Lc 0 = some (.ref Y) → lkp Lc 1 = some (.int (nI z)) → pA (gA 4 (fA 9 1 (lA 0)) (lI 1)) Lc M (fl z) := fun Lc h0 h1 => by
    have h9 := pA_gA (t := 4) (pA_fA (k := 1) (pA_lA h0) hY rfl) (pI_lI h1) hF (inb_nI hz (by decide))
    rw [nI_clamp (by omega)] at h9
    exact h9
  -- first the new one is held
  have step1 : wS (ifS (notN (lA 2)) (exV (ivV 4 F_X4_hold (rA (lA 2) (rA (fA 9 0 (lA 0)) (r0))))) nop) [some (.ref Y), some (.int (nI z)), some (va_rf lo), some (va_rf (fl z))] M fun L M1 c v => c = 0 ∧ v = none ∧ L = [some (.ref Y), some (.int (nI z)), some (va_rf lo), some (va_rf (fl z))] ∧ CL M1 s (incO hc lo) DL DR nl nr ∧ Fr6 M M1 := by
    cases lo with
    | none => exact l_if (pC_notN (pA_lO rfl)) (fun q => (by cases q)) (fun _ => wS_nop ⟨rfl, rfl, rfl, h, Fr6.rf⟩)
    | some l =>
      have hl := hlo l rfl
      have hbl := hb l
      refine l_if (pC_notN (pA_lO (r := some l) rfl)) (fun _ => wS_exV (wV_V (wR_A (wA_p (pA_lA rfl) (wR_A (wA_p (pA_fA (pA_lA rfl) hY rfl) (wR_0 ⟨isR_of (h.1.1 l hl).1.2.2.1, (sp_lhold h hl hB (by omega)).mono ?_⟩))))))) (fun q => (by cases q))
      rintro v M1 ⟨rfl, d1, d2⟩
      exact ⟨rfl, rfl, rfl, rfl, d1, d2⟩
  refine wF_b (by cases lo <;> rfl) (Nat.le_of_ble_eq_true rfl) (q_A (by cases lo <;> rfl) (hrd _ rfl rfl) (wS_seq ?_))
  refine step1.mono ?_
  rintro L M1 c v ⟨rfl, rfl, rfl, d1, d2⟩
  refine ⟨fun _ => ?_, fun q => absurd rfl q⟩
  have hY1 : M1.2.2 Y = .inr (9, [.ref 6, .ref A]) := (d2.2.2 Y hY97 hY6).trans hY
  have hF1 : M1.2.2 A = aR 4 10 fl := (d2.2.2 A hA97 hA6).trans hF
  have hE : isE 4 M1 lo = true := by
    cases lo with
    | none => rfl
    | some l => exact isC_of (d1.1.1 l (hlo l rfl)).1.2.2.1
  refine wS_seq (wS_paA (wA_p (pA_fA (pA_lA rfl) hY1 rfl) ⟨A, rfl, wI_p (pI_lI rfl) (wA_p (pA_lO rfl) ⟨_, wrA_of hF1 hA5 (inb_nI hz (by decide)) hE, fun _ => ?_, fun q => absurd rfl q⟩)⟩))
  rw [nI_clamp (by omega)]
  have d3 : CL (setC M1 A (aR 4 10 (va_up fl z lo))) s (incO hc lo) DL DR nl nr := ⟨d1.1.low hA97, (get_ne (fun e => hA6 e.symm)).trans d1.2⟩
  have hFr : FrA A M (setC M1 A (aR 4 10 (va_up fl z lo))) := (Fr6.a d2).tr ⟨rfl, rfl, fun b _ _ hn => get_ne hn⟩
  cases hq : fl z with
  | none => exact q_if (pC_notN (pA_lO rfl)) (fun q => (by cases q)) (fun _ => wS_retV ⟨rfl, rfl, d3, get_at, hFr⟩)
  | some l =>
    obtain ⟨hl, h1⟩ := hbf l hq
    have hbl : ∀ m, incO hc lo m ≤ 1000 ∧ hc m ≤ incO hc lo m := fun m => by
      have := hb m
      cases lo with
      | none => exact ⟨by show hc m ≤ 1000; omega, Nat.le_refl _⟩
      | some k =>
        show updN hc k (hc k + 1) m ≤ 1000 ∧ hc m ≤ updN hc k (hc k + 1) m
        unfold updN
        by_cases e : m = k
        · subst e; rw [if_pos rfl]; omega
        · rw [if_neg e]; omega
    have hb2 := hbl l
    have hY2 : (setC M1 A (aR 4 10 (va_up fl z lo))).2.2 Y = .inr (9, [.ref 6, .ref A]) := (get_ne hYA).trans hY1
    refine q_if (pC_notN (pA_lO (r := some l) rfl)) (fun _ => q_ex (wV_V (wR_A (wA_p (pA_lA rfl) (wR_A (wA_p (pA_fA (pA_lA rfl) hY2 rfl) (wR_0 ⟨isR_of (d3.1.1 l hl).1.2.2.1, (sp_lrel d3 hl (by have := hFr.1; omega) hb2.1 (by omega)).mono ?_⟩))))))) (fun q => (by cases q))
    rintro v M2 ⟨rfl, f1, f2⟩
    exact ⟨rfl, wS_retV ⟨rfl, rfl, f1, (f2.2.2 A hA97 hA6).trans get_at, hFr.tr f2.a⟩⟩
end CP
