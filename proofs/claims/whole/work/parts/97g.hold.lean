/-! the class's layers and rows as objects, their counts told apart -/
def LOb (M : Mm) (g : Nat → Nat → Option Nat) (hc : Nat → Nat) (l : Nat) : Prop := 97 ≤ l ∧ l + 1 < M.1 ∧ M.2.2 l = .inr (4, [.ref (l + 1), .int (nI (hc l))]) ∧ ∃ gl, M.2.2 (l + 1) = aR 5 10 gl ∧ ∀ x, x < 10 → gl x = g l x
def ROb (M : Mm) (s : SN) (rc : Nat → Nat) (r : Nat) : Prop := 97 ≤ r ∧ r + 1 < M.1 ∧ M.2.2 r = .inr (7, [.ref (r + 1), .int (nI (rc r))]) ∧ nln s r ≤ 10 ∧ ∃ cr, M.2.2 (r + 1) = aI 0 (nln s r) cr ∧ ∀ w, w < nln s r → cr w = ncd s r w ∧ codeOk (cr w)
def COb (M : Mm) (s : SN) (hc rc : Nat → Nat) (DL DR : Nat → Prop) : Prop := (∀ l, DL l → LOb M (ng s) hc l ∧ ∀ x r, x < 10 → ng s l x = some r → DR r) ∧ ∀ r, DR r → ROb M s rc r
abbrev led (a b c d : Nat) : MC := .inr (5, [.int (nI a), .int (nI b), .int (nI c), .int (nI d)])
def rcF (g : Nat → Nat → Option Nat) (hc : Nat → Nat) (r : Nat) : Nat := sm BC fun l => if hc l = 0 then 0 else cn 10 fun x => decide (g l x = some r)
def lhF (hc : Nat → Nat) : Nat := cn BC fun l => decide (0 < hc l)
def rhF (rc : Nat → Nat) : Nat := cn BC fun r => decide (0 < rc r)
def CL (M : Mm) (s : SN) (hc : Nat → Nat) (DL DR : Nat → Prop) (nl nr : Nat) : Prop := COb M s hc (rcF (ng s) hc) DL DR ∧ M.2.2 6 = led nl nr (lhF hc) (rhF (rcF (ng s) hc))
/-- nothing was made, and of the cells below 97 only the ledger differs -/
def Fr6 (M M' : Mm) : Prop := M'.1 = M.1 ∧ M'.2.1 = M.2.1 ∧ ∀ b, b < 97 → b ≠ 6 → M'.2.2 b = M.2.2 b
theorem Fr6.rf {M : Mm} : Fr6 M M := ⟨rfl, rfl, fun _ _ _ => rfl⟩
theorem Fr6.tr {M M1 M2 : Mm} (h : Fr6 M M1) (g : Fr6 M1 M2) : Fr6 M M2 := ⟨g.1.trans h.1, g.2.1.trans h.2.1, fun b hb hn => (g.2.2 b hb hn).trans (h.2.2 b hb hn)⟩
theorem Fr6.hi {M : Mm} {a : Nat} {c : MC} (h : 97 ≤ a) : Fr6 M (setC M a c) := ⟨rfl, rfl, fun b hb _ => get_ne (by omega)⟩
theorem Fr6.six {M : Mm} {c : MC} : Fr6 M (setC M 6 c) := ⟨rfl, rfl, fun b _ hn => get_ne hn⟩
abbrev updN (f : Nat → Nat) (k v : Nat) : Nat → Nat := fun q => if q = k then v else f q
section CO
variable {M : Mm} {s : SN} {hc rc : Nat → Nat} {DL DR : Nat → Prop}
theorem COb.low (h : COb M s hc rc DL DR) {b : Nat} {c : MC} (hb : b < 97) : COb (setC M b c) s hc rc DL DR := by
  refine ⟨fun l hl => ?_, fun r hr => ?_⟩
  · obtain ⟨⟨a1, a2, a3, gl, a4, a5⟩, a6⟩ := h.1 l hl
    exact ⟨⟨a1, a2, (get_ne (by omega)).trans a3, gl, (get_ne (by omega)).trans a4, a5⟩, a6⟩
  · obtain ⟨a1, a2, a3, a4, cr, a5, a6⟩ := h.2 r hr
    exact ⟨a1, a2, (get_ne (by omega)).trans a3, a4, cr, (get_ne (by omega)).trans a5, a6⟩
theorem COb.setR (h : COb M s hc rc DL DR) {r : Nat} (hr : DR r) (v : Nat) : COb (setC M r (.inr (7, [.ref (r + 1), .int (nI v)]))) s hc (updN rc r v) DL DR := by
  obtain ⟨r1, r2, r3, -, cr, r5, -⟩ := h.2 r hr
  refine ⟨fun l hl => ?_, fun q hq => ?_⟩
  · obtain ⟨⟨a1, a2, a3, gl, a4, a5⟩, a6⟩ := h.1 l hl
    exact ⟨⟨a1, a2, (get_ne (fun e => by rw [e, r3] at a3; simp at a3)).trans a3, gl, (get_ne (fun e => by rw [e, r3] at a4; cases a4)).trans a4, a5⟩, a6⟩
  · obtain ⟨a1, a2, a3, a4, cq, a5, a6⟩ := h.2 q hq
    have e2 : (setC M r (.inr (7, [.ref (r + 1), .int (nI v)]))).2.2 (q + 1) = aI 0 (nln s q) cq := (get_ne (fun e => by rw [e, r3] at a5; cases a5)).trans a5
    by_cases e : q = r
    · subst e
      refine ⟨a1, a2, ?_, a4, cq, e2, a6⟩
      rw [get_at, updN, if_pos rfl]
    · refine ⟨a1, a2, ?_, a4, cq, e2, a6⟩
      rw [get_ne e, updN, if_neg e]
      exact a3
theorem COb.setL (h : COb M s hc rc DL DR) {l : Nat} (hl : DL l) (v : Nat) : COb (setC M l (.inr (4, [.ref (l + 1), .int (nI v)]))) s (updN hc l v) rc DL DR := by
  obtain ⟨⟨l1, l2, l3, gl, l4, -⟩, -⟩ := h.1 l hl
  refine ⟨fun m hm => ?_, fun q hq => ?_⟩
  · obtain ⟨⟨a1, a2, a3, gm, a4, a5⟩, a6⟩ := h.1 m hm
    have e2 : (setC M l (.inr (4, [.ref (l + 1), .int (nI v)]))).2.2 (m + 1) = aR 5 10 gm := (get_ne (fun e => by rw [e, l3] at a4; cases a4)).trans a4
    by_cases e : m = l
    · subst e
      refine ⟨⟨a1, a2, ?_, gm, e2, a5⟩, a6⟩
      rw [get_at, updN, if_pos rfl]
    · refine ⟨⟨a1, a2, ?_, gm, e2, a5⟩, a6⟩
      rw [get_ne e, updN, if_neg e]
      exact a3
  · obtain ⟨a1, a2, a3, a4, cq, a5, a6⟩ := h.2 q hq
    exact ⟨a1, a2, (get_ne (fun e => by rw [e, l3] at a3; simp at a3)).trans a3, a4, cq, (get_ne (fun e => by rw [e, l3] at a5; cases a5)).trans a5, a6⟩
theorem nI_z {n : Nat} (h : n < 2 ^ 31) : oEq (nI n) 0 = decide (n = 0) := oEq_nI (b := 0) h (by decide)
theorem sp_rhold {nl nr a b r : Nat} (h : COb M s hc rc DL DR) (h6 : M.2.2 6 = led nl nr a b) (hr : DR r) (hb : rc r < 10000000) : wF F_X7_hold [.ref r, .ref 6] M fun v M' => v = none ∧ COb M' s hc (updN rc r (rc r + 1)) DL DR ∧ M'.2.2 6 = led nl nr a (if rc r = 0 then b + 1 else b) ∧ Fr6 M M' := by
  obtain ⟨r1, r2, r3, -⟩ := h.2 r hr
  refine wF_b rfl (Nat.le_of_ble_eq_true rfl) (q_if (pC_kI (pI_fI (pA_lA rfl) r3 rfl) pI_cI) (fun hz => ?_) (fun hz => ?_))
  · rw [nI_z (by omega), decide_eq_true_eq] at hz
    refine q_up (pA_lA rfl) pI_cI h6 rfl (Nat.le_of_ble_eq_true rfl) (q_up (pA_lA rfl) pI_cI ((get_ne (by omega)).trans r3) rfl (Nat.le_of_ble_eq_true rfl) (wS_retV ⟨rfl, rfl, ?_, ?_, Fr6.six.tr (Fr6.hi r1)⟩))
    · have := (h.low (b := 6) (c := .inr (5, [.int (nI nl), .int (nI nr), .int (nI a), .int (nI b + 1)])) (by decide)).setR hr (rc r + 1)
      rw [← nI_1] at this
      exact this
    · rw [get_ne (by omega), get_at, if_pos hz, led, ← nI_1]
      rfl
  · rw [nI_z (by omega), decide_eq_false_iff_not] at hz
    refine q_up (pA_lA rfl) pI_cI r3 rfl (Nat.le_of_ble_eq_true rfl) (wS_retV ⟨rfl, rfl, ?_, ?_, Fr6.hi r1⟩)
    · have := h.setR hr (rc r + 1)
      rw [← nI_1] at this
      exact this
    · rw [get_ne (by omega), if_neg hz]
      exact h6
theorem sp_rrel {nl nr a b r : Nat} (h : COb M s hc rc DL DR) (h6 : M.2.2 6 = led nl nr a b) (hr : DR r) (hb : rc r < 10000000) (h1 : 1 ≤ rc r) (hb1 : 1 ≤ b) (hb2 : b < 10000000) : wF F_X7_release [.ref r, .ref 6] M fun v M' => v = none ∧ COb M' s hc (updN rc r (rc r - 1)) DL DR ∧ M'.2.2 6 = led nl nr a (if rc r = 1 then b - 1 else b) ∧ Fr6 M M' := by
  obtain ⟨r1, r2, r3, -⟩ := h.2 r hr
  have e1 : nI (rc r) - 1 = nI (rc r - 1) := nI_sub (b := 1) h1 (by omega)
  have hC := h.setR hr (rc r - 1)
  rw [← e1] at hC
  refine wF_b rfl (Nat.le_of_ble_eq_true rfl) (q_dn (pA_lA rfl) pI_cI r3 rfl (Nat.le_of_ble_eq_true rfl) (q_if (pC_kI (pI_fI (pA_lA rfl) get_at rfl) pI_cI) (fun hz => ?_) (fun hz => ?_)))
  · rw [e1, nI_z (by omega), decide_eq_true_eq] at hz
    refine q_dn (pA_lA rfl) pI_cI ((get_ne (by omega)).trans h6) rfl (Nat.le_of_ble_eq_true rfl) (wS_retV ⟨rfl, rfl, hC.low (by decide), ?_, (Fr6.hi r1).tr Fr6.six⟩)
    rw [get_at, if_pos (by omega), led, ← nI_sub (b := 1) hb1 (by omega)]
    rfl
  · rw [e1, nI_z (by omega), decide_eq_false_iff_not] at hz
    refine wS_retV ⟨rfl, rfl, hC, ?_, Fr6.hi r1⟩
    rw [get_ne (by omega), if_neg (by omega)]
    exact h6
theorem rhF_at {f g : Nat → Nat} {r : Nat} (hr : r < BC) (h : ∀ q, q ≠ r → f q = g q) : rhF f + (if 0 < g r then 1 else 0) = rhF g + (if 0 < f r then 1 else 0) := by
  have := cn_at (p := fun q => decide (0 < f q)) (q := fun q => decide (0 < g q)) hr fun i _ hne => by rw [h i hne]
  simp only [decide_eq_true_eq] at this
  exact this
theorem cn_mono {n m : Nat} (p : Nat → Bool) (h : n ≤ m) : cn n p ≤ cn m p := by
  induction m with
  | zero => rw [show n = 0 by omega]; exact Nat.le_refl _
  | succ m ih =>
    by_cases e : n = m + 1
    · rw [e]; exact Nat.le_refl _
    · have := ih (by omega)
      rw [cn]
      omega
theorem rcF_le (g : Nat → Nat → Option Nat) (hc : Nat → Nat) (r : Nat) : rcF g hc r ≤ 7000000 := by
  have key : ∀ n (p : Nat → Nat), (∀ i, p i ≤ 10) → sm n p ≤ 10 * n := by
    intro n p hp
    induction n with
    | zero => exact Nat.le_refl _
    | succ n ih => rw [sm]; have := hp n; omega
  have := key BC (fun l => if hc l = 0 then 0 else cn 10 fun x => decide (g l x = some r)) fun i => by
    split
    · omega
    · exact cn_le _ _
  exact this
theorem rcF_up {g : Nat → Nat → Option Nat} {hc hc' : Nat → Nat} {l : Nat} (hl : l < BC) (h1 : hc' l = hc l + 1) (h2 : ∀ m, m ≠ l → hc' m = hc m) (r : Nat) : rcF g hc' r = rcF g hc r + (if hc l = 0 then cn 10 fun x => decide (g l x = some r) else 0) := by
  have := sm_at (p := fun m => if hc' m = 0 then 0 else cn 10 fun x => decide (g m x = some r)) (q := fun m => if hc m = 0 then 0 else cn 10 fun x => decide (g m x = some r)) hl fun i _ hne => by rw [h2 i hne]
  unfold rcF
  rw [if_neg (c := hc' l = 0) (by omega)] at this
  by_cases e : hc l = 0
  · rw [if_pos e] at this ⊢
    omega
  · rw [if_neg e] at this ⊢
    omega
theorem lhF_up {hc hc' : Nat → Nat} {l : Nat} (hl : l < BC) (h1 : hc' l = hc l + 1) (h2 : ∀ m, m ≠ l → hc' m = hc m) : lhF hc' = lhF hc + (if hc l = 0 then 1 else 0) := by
  have := rhF_at (f := hc') (g := hc) hl h2
  rw [if_pos (c := 0 < hc' l) (by omega)] at this
  unfold lhF rhF at *
  by_cases e : hc l = 0
  · rw [if_neg (c := 0 < hc l) (by omega)] at this
    rw [if_pos e]
    omega
  · rw [if_pos (c := 0 < hc l) (by omega)] at this
    rw [if_neg e]
    omega
theorem pA_rows {Lc : Lv} {M1 : Mm} {g : Nat → Nat → Option Nat} {hc1 : Nat → Nat} {i k l j : Nat} (hL : LOb M1 g hc1 l) (h0 : lkp Lc i = some (.ref l)) (h2 : lkp Lc k = some (.int (nI j))) (hj : j < 10) : pA (gA 5 (fA 4 0 (lA i)) (lI k)) Lc M1 (g l j) := by
  obtain ⟨-, -, a3, gl, a4, a5⟩ := hL
  have h9 := pA_gA (t := 5) (pA_fA (k := 0) (pA_lA h0) a3 rfl) (pI_lI h2) a4 (inb_nI hj (by decide))
  rw [nI_clamp (by omega), a5 j hj] at h9
  exact h9
theorem sp_lhold {nl nr l : Nat} (h : CL M s hc DL DR nl nr) (hl : DL l) (hB : M.1 ≤ BC) (hb : hc l ≤ 1000) : wF F_X4_hold [.ref l, .ref 6] M fun v M' => v = none ∧ CL M' s (updN hc l (hc l + 1)) DL DR nl nr ∧ Fr6 M M' := by
  obtain ⟨hC, h6⟩ := h
  obtain ⟨⟨l1, l2, l3, gl, l4, l5⟩, l6⟩ := hC.1 l hl
  have hlB : l < BC := by omega
  have e1 : nI (hc l) + 1 = nI (hc l + 1) := nI_1 _
  have u1 : updN hc l (hc l + 1) l = hc l + 1 := if_pos rfl
  have u2 : ∀ m, m ≠ l → updN hc l (hc l + 1) m = hc m := fun m hm => if_neg hm
  have eL := lhF_up hlB u1 u2
  have eR : ∀ r, rcF (ng s) (updN hc l (hc l + 1)) r = rcF (ng s) hc r + (if hc l = 0 then cn 10 fun x => decide (ng s l x = some r) else 0) := rcF_up hlB u1 u2
  refine wF_b rfl (Nat.le_of_ble_eq_true rfl) (q_if (pC_kI (pI_fI (pA_lA rfl) l3 rfl) pI_cI) (fun hz => ?_) (fun hz => ?_))
  · rw [nI_z (by omega), decide_eq_true_eq] at hz
    refine q_assoc (q_up (pA_lA rfl) pI_cI h6 rfl (Nat.le_of_ble_eq_true rfl) ?_)
    have e2 : nI (lhF hc) + 1 = nI (lhF hc + 1) := nI_1 _
    have e0 : (fun r => rcF (ng s) hc r + cn 0 fun x => decide (ng s l x = some r)) = rcF (ng s) hc := funext fun r => by rw [cn, Nat.add_zero]
    refine q_for 10 (fun j L M1 => L = [some (.ref l), some (.ref 6), some (.int (nI j))] ∧ COb M1 s hc (fun r => rcF (ng s) hc r + cn j fun x => decide (ng s l x = some r)) DL DR ∧ M1.2.2 6 = led nl nr (lhF hc + 1) (rhF fun r => rcF (ng s) hc r + cn j fun x => decide (ng s l x = some r)) ∧ Fr6 M M1) rfl (a := 0) rfl rfl (by decide) (by decide) ⟨rfl, by rw [e0]; exact hC.low (by decide), by rw [e0, get_at, led, ← e2]; rfl, Fr6.six⟩ ?_ ?_ ?_
    · rintro j L M1 ⟨rfl, -⟩
      rfl
    · rintro j L M1 hj ⟨rfl, c1, c2, c3⟩
      have hg := pA_rows (Lc := [some (.ref l), some (.ref 6), some (.int (nI j))]) (i := 0) (k := 2) (c1.1 l hl).1 rfl rfl hj
      have stp : ∀ r, (cn (j + 1) fun x => decide (ng s l x = some r)) = (cn j fun x => decide (ng s l x = some r)) + (if ng s l j = some r then 1 else 0) := fun r => by rw [cn]; simp only [decide_eq_true_eq]
      cases hq : ng s l j with
      | none =>
        rw [hq] at hg
        have stp2 : (fun r => rcF (ng s) hc r + cn (j + 1) fun x => decide (ng s l x = some r)) = fun r => rcF (ng s) hc r + cn j fun x => decide (ng s l x = some r) := by
          funext r
          rw [stp, hq]
          simp
        refine l_if (pC_notN hg) (fun q => (by cases q)) (fun _ => wS_nop (Or.inr ⟨by decide, by decide, rfl, rfl, rfl, ?_⟩))
        rw [stp2]
        exact ⟨c1, c2, c3⟩
      | some r =>
        rw [hq] at hg
        have hr : DR r := l6 j r hj hq
        have hrB : r < BC := by
          have := (c1.2 r hr).2.1
          have := c3.1
          omega
        have hle := rcF_le (ng s) hc r
        have hcn : (cn j fun x => decide (ng s l x = some r)) ≤ j := cn_le _ _
        refine l_if (pC_notN hg) (fun _ => wS_exV (wV_V (wR_A (wA_p hg (wR_A (wA_p (pA_lA rfl) (wR_0 ⟨isR_of (c1.2 r hr).2.2.1, (sp_rhold c1 c2 hr (by omega)).mono ?_⟩))))))) (fun q => (by cases q))
        rintro v M2 ⟨rfl, d1, d2, d3⟩
        have stp2 : (fun r => rcF (ng s) hc r + cn (j + 1) fun x => decide (ng s l x = some r)) = updN (fun r => rcF (ng s) hc r + cn j fun x => decide (ng s l x = some r)) r (rcF (ng s) hc r + (cn j fun x => decide (ng s l x = some r)) + 1) := by
          funext q
          rw [stp, hq, updN]
          by_cases e : q = r
          · subst e; rw [if_pos rfl, if_pos rfl]; omega
          · rw [if_neg e, if_neg (fun t => e (Option.some.inj t).symm)]; omega
        refine ⟨rfl, Or.inr ⟨by decide, by decide, rfl, rfl, rfl, ?_⟩⟩
        rw [stp2]
        refine ⟨d1, ?_, c3.tr d3⟩
        rw [d2]
        have := rhF_at (f := updN (fun r => rcF (ng s) hc r + cn j fun x => decide (ng s l x = some r)) r (rcF (ng s) hc r + (cn j fun x => decide (ng s l x = some r)) + 1)) (g := fun r => rcF (ng s) hc r + cn j fun x => decide (ng s l x = some r)) hrB fun q hne => if_neg hne
        rw [if_pos (c := 0 < updN _ r _ r) (by rw [updN, if_pos rfl]; omega)] at this
        congr 5
        by_cases e0 : (rcF (ng s) hc r + cn j fun x => decide (ng s l x = some r)) = 0
        · rw [if_pos e0]
          rw [if_neg (by omega)] at this
          omega
        · rw [if_neg e0]
          rw [if_pos (by omega)] at this
          omega
    · rintro L M1 ⟨rfl, c1, c2, c3⟩
      have hR : (fun r => rcF (ng s) hc r + cn 10 fun x => decide (ng s l x = some r)) = rcF (ng s) (updN hc l (hc l + 1)) := by
        funext r
        rw [eR, if_pos hz]
      rw [hR] at c1 c2
      obtain ⟨⟨-, -, m3, -⟩, -⟩ := c1.1 l hl
      refine q_up (pA_lA rfl) pI_cI m3 rfl (Nat.le_of_ble_eq_true rfl) (wS_retV ⟨rfl, rfl, ⟨?_, ?_⟩, c3.tr (Fr6.hi l1)⟩)
      · have := c1.setL hl (hc l + 1)
        rw [← nI_1] at this
        exact this
      · rw [get_ne (by omega), c2, eL, if_pos hz]
  · rw [nI_z (by omega), decide_eq_false_iff_not] at hz
    have hR : rcF (ng s) hc = rcF (ng s) (updN hc l (hc l + 1)) := by
      funext r
      rw [eR, if_neg hz, Nat.add_zero]
    refine q_up (pA_lA rfl) pI_cI l3 rfl (Nat.le_of_ble_eq_true rfl) (wS_retV ⟨rfl, rfl, ⟨?_, ?_⟩, Fr6.hi l1⟩)
    · have := hC.setL hl (hc l + 1)
      rw [← nI_1, hR] at this
      exact this
    · rw [get_ne (by omega), h6, eL, if_neg hz, Nat.add_zero, hR]
end CO
