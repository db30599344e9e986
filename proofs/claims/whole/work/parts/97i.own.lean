/-! places of layers and rows: what setLayer, setRow come to; layers of one's own -/
theorem rhF_inc {rc : Nat → Nat} {r : Nat} (hr : r < BC) : rhF (updN rc r (rc r + 1)) = if rc r = 0 then rhF rc + 1 else rhF rc := by
  have := rhF_at (f := updN rc r (rc r + 1)) (g := rc) hr fun q hne => if_neg hne
  have ev : updN rc r (rc r + 1) r = rc r + 1 := if_pos rfl
  rw [ev, if_pos (c := 0 < rc r + 1) (by omega)] at this
  by_cases e : rc r = 0
  · rw [if_pos e]
    rw [if_neg (by omega)] at this
    omega
  · rw [if_neg e]
    rw [if_pos (by omega)] at this
    omega
theorem rhF_dec {rc : Nat → Nat} {r : Nat} (hr : r < BC) (h1 : 1 ≤ rc r) : rhF (updN rc r (rc r - 1)) = if rc r = 1 then rhF rc - 1 else rhF rc := by
  have := rhF_at (f := updN rc r (rc r - 1)) (g := rc) hr fun q hne => if_neg hne
  have ev : updN rc r (rc r - 1) r = rc r - 1 := if_pos rfl
  rw [ev, if_pos (c := 0 < rc r) (by omega)] at this
  by_cases e : rc r = 1
  · rw [if_pos e]
    rw [if_neg (by omega)] at this
    omega
  · rw [if_neg e]
    rw [if_pos (by omega)] at this
    omega
def sRow (s : SN) (l x r : Nat) : SN := (nf s, fun m y => if m = l ∧ y = x then some r else ng s m y, nln s, ncd s)
theorem rcF_row {s : SN} {hc : Nat → Nat} {l x r : Nat} (hl : l < BC) (hx : x < 10) (h1 : 1 ≤ hc l) (q : Nat) : rcF (ng (sRow s l x r)) hc q + (if ng s l x = some q then 1 else 0) = rcF (ng s) hc q + (if r = q then 1 else 0) := by
  have e1 := sm_at (p := fun m => if hc m = 0 then 0 else cn 10 fun y => decide (ng (sRow s l x r) m y = some q)) (q := fun m => if hc m = 0 then 0 else cn 10 fun y => decide (ng s m y = some q)) hl fun i _ hne => by
    have : ∀ y, ng (sRow s l x r) i y = ng s i y := fun y => if_neg fun t => hne t.1
    simp only [this]
  rw [if_neg (c := hc l = 0) (by omega), if_neg (c := hc l = 0) (by omega)] at e1
  have e2 := cn_at (p := fun y => decide (ng (sRow s l x r) l y = some q)) (q := fun y => decide (ng s l y = some q)) hx fun i _ hne => by
    have : ng (sRow s l x r) l i = ng s l i := if_neg fun t => hne t.2
    rw [this]
  have e3 : ng (sRow s l x r) l x = some r := if_pos ⟨rfl, rfl⟩
  simp only [e3, decide_eq_true_eq, Option.some.injEq] at e2
  unfold rcF
  omega
section CQ
variable {M : Mm} {s : SN} {hc rc : Nat → Nat} {DL DR : Nat → Prop}
theorem COb.setG (h : COb M s hc rc DL DR) {l x r : Nat} {gl : Nat → Option Nat} (hl : DL l) (hr : DR r) (hg : M.2.2 (l + 1) = aR 5 10 gl) : COb (setC M (l + 1) (aR 5 10 (va_up gl x (some r)))) (sRow s l x r) hc rc DL DR := by
  obtain ⟨⟨l1, l2, l3, gl', l4, l5⟩, l6⟩ := h.1 l hl
  have eg : gl' = gl := by rw [l4] at hg; injection hg with hg; injection hg with _ hg; injection hg with _ hg; injection hg with hg; injection hg with hg; injection hg with hg; injection hg with hg
  subst eg
  refine ⟨fun m hm => ?_, fun q hq => ?_⟩
  · obtain ⟨⟨a1, a2, a3, gm, a4, a5⟩, a6⟩ := h.1 m hm
    have e1 : (setC M (l + 1) (aR 5 10 (va_up gl' x (some r)))).2.2 m = .inr (4, [.ref (m + 1), .int (nI (hc m))]) := (get_ne (fun e => by rw [e, l4] at a3; cases a3)).trans a3
    refine ⟨?_, fun y q hy hq => ?_⟩
    · by_cases e : m = l
      · subst e
        refine ⟨a1, a2, e1, _, get_at, fun y hy => ?_⟩
        show va_up gl' x (some r) y = if m = m ∧ y = x then some r else ng s m y
        unfold va_up
        by_cases ey : y = x
        · rw [if_pos ey, if_pos ⟨rfl, ey⟩]
        · rw [if_neg ey, if_neg (fun t => ey t.2)]
          exact l5 y hy
      · refine ⟨a1, a2, e1, gm, (get_ne (by omega)).trans a4, fun y hy => ?_⟩
        show gm y = if m = l ∧ y = x then some r else ng s m y
        rw [if_neg (fun t => e t.1)]
        exact a5 y hy
    · have hq : (if m = l ∧ y = x then some r else ng s m y) = some q := hq
      split at hq
      · cases hq; exact hr
      · exact a6 y q hy hq
  · obtain ⟨a1, a2, a3, a4, cq, a5, a6⟩ := h.2 q hq
    exact ⟨a1, a2, (get_ne (fun e => by rw [e, l4] at a3; cases a3)).trans a3, a4, cq, (get_ne (fun e => by rw [e, l4] at a5; simp at a5)).trans a5, a6⟩
theorem sp_setRow {nl nr l x r : Nat} (h : CL M s hc DL DR nl nr) (hl : DL l) (hx : x < 10) (hr : DR r) (h1 : 1 ≤ hc l) (hB : M.1 ≤ BC) : wF F_X4_setRow [.ref l, .int (nI x), .ref r, .ref 6] M fun v M' => v = none ∧ CL M' (sRow s l x r) hc DL DR nl nr ∧ Fr6 M M' := by
  obtain ⟨hC, h6⟩ := h
  obtain ⟨⟨l1, l2, l3, gl, l4, l5⟩, l6⟩ := hC.1 l hl
  have hg := pA_rows (Lc := mkL 5 [.ref l, .int (nI x), .ref r, .ref 6]) (i := 0) (k := 1) (hC.1 l hl).1 rfl rfl hx
  have hBC : BC = 700000 := rfl
  have hrB : r < BC := by have := (hC.2 r hr).2.1; omega
  have hle := rcF_le (ng s) hc r
  refine wF_b rfl (Nat.le_of_ble_eq_true rfl) (q_A rfl hg (q_ex (wV_V (wR_A (wA_p (pA_lA rfl) (wR_A (wA_p (pA_lA rfl) (wR_0 ⟨isR_of (hC.2 r hr).2.2.1, (sp_rhold hC h6 hr (by omega)).mono ?_⟩))))))))
  rintro v M1 ⟨rfl, c1, c2, c3⟩
  rw [← rhF_inc hrB] at c2
  refine ⟨rfl, ?_⟩
  obtain ⟨⟨-, -, m3, gl1, m4, m5⟩, -⟩ := c1.1 l hl
  refine wS_seq (wS_paA (wA_p (pA_fA (pA_lA rfl) m3 rfl) ⟨l + 1, rfl, wI_p (pI_lI rfl) (wA_p (pA_lA (a := r) rfl) ⟨_, wrA_of m4 (by omega) (inb_nI hx (by decide)) (isC_of (c1.2 r hr).2.2.1), fun _ => ?_, fun q => absurd rfl q⟩)⟩))
  rw [nI_clamp (by omega)]
  have d1 := c1.setG (x := x) hl hr m4
  have d2 : (setC M1 (l + 1) (aR 5 10 (va_up gl1 x (some r)))).2.2 6 = led nl nr (lhF hc) (rhF (updN (rcF (ng s) hc) r (rcF (ng s) hc r + 1))) := (get_ne (by omega)).trans c2
  have d3 : Fr6 M (setC M1 (l + 1) (aR 5 10 (va_up gl1 x (some r)))) := c3.tr (Fr6.hi (by omega))
  have er := rcF_row (s := s) (r := r) (show l < BC by omega) hx h1
  cases hq : ng s l x with
  | none =>
    have e1 : updN (rcF (ng s) hc) r (rcF (ng s) hc r + 1) = rcF (ng (sRow s l x r)) hc := by
      funext q
      have := er q
      rw [hq, if_neg (c := none = some q) (fun t => by cases t)] at this
      unfold updN
      by_cases e : q = r
      · subst e
        rw [if_pos rfl] at this ⊢
        omega
      · rw [if_neg (fun t => e t.symm)] at this
        rw [if_neg e]
        omega
    rw [e1] at d1 d2
    exact q_if (pC_notN (pA_lO rfl)) (fun q => (by cases q)) (fun _ => wS_retV ⟨rfl, rfl, ⟨d1, d2⟩, d3⟩)
  | some b =>
    have hbR := l6 x b hx hq
    have hbB : b < BC := by have := (hC.2 b hbR).2.1; omega
    have hleb := rcF_le (ng s) hc b
    have erb := er b
    rw [hq, if_pos rfl] at erb
    have b1 : updN (rcF (ng s) hc) r (rcF (ng s) hc r + 1) b = rcF (ng s) hc b + (if r = b then 1 else 0) := by
      unfold updN
      by_cases e : b = r
      · subst e; rw [if_pos rfl, if_pos rfl]
      · rw [if_neg e, if_neg (fun t => e t.symm)]; omega
    have b2 : 1 ≤ updN (rcF (ng s) hc) r (rcF (ng s) hc r + 1) b := by rw [b1]; omega
    have b3 : updN (rcF (ng s) hc) r (rcF (ng s) hc r + 1) b < 10000000 := by
      rw [b1]
      split <;> omega
    have b4 : 1 ≤ rhF (updN (rcF (ng s) hc) r (rcF (ng s) hc r + 1)) := cn_pos hbB (decide_eq_true (by omega))
    have b5 : rhF (updN (rcF (ng s) hc) r (rcF (ng s) hc r + 1)) ≤ BC := cn_le _ _
    refine q_if (pC_notN (pA_lO (r := some b) rfl)) (fun _ => q_ex (wV_V (wR_A (wA_p (pA_lA rfl) (wR_A (wA_p (pA_lA rfl) (wR_0 ⟨isR_of (d1.2 b hbR).2.2.1, (sp_rrel d1 d2 hbR b3 b2 b4 (by omega)).mono ?_⟩))))))) (fun q => (by cases q))
    rintro v M2 ⟨rfl, f1, f2, f3⟩
    rw [← rhF_dec hbB b2] at f2
    have e1 : updN (updN (rcF (ng s) hc) r (rcF (ng s) hc r + 1)) b (updN (rcF (ng s) hc) r (rcF (ng s) hc r + 1) b - 1) = rcF (ng (sRow s l x r)) hc := by
      funext q
      have := er q
      rw [hq] at this
      by_cases e : q = b
      · subst e
        rw [if_pos rfl] at this
        show (if q = q then _ else _) = _
        rw [if_pos rfl, b1]
        omega
      · show (if q = b then _ else updN (rcF (ng s) hc) r (rcF (ng s) hc r + 1) q) = _
        rw [if_neg e]
        rw [if_neg (fun t => e (Option.some.inj t).symm)] at this
        unfold updN
        by_cases e2 : q = r
        · subst e2
          rw [if_pos rfl] at this ⊢
          omega
        · rw [if_neg (fun t => e2 t.symm)] at this
          rw [if_neg e2]
          omega
    rw [e1] at f1 f2
    exact ⟨rfl, wS_retV ⟨rfl, rfl, ⟨f1, f2⟩, d3.tr f3⟩⟩
theorem COb.mv {M' : Mm} {s' : SN} {hc' rc' : Nat → Nat} (h : COb M s hc rc DL DR) (hm : M.1 ≤ M'.1) (hM : ∀ b, 97 ≤ b → b < M.1 → M'.2.2 b = M.2.2 b) (h1 : ∀ l, DL l → hc' l = hc l ∧ ∀ x, x < 10 → ng s' l x = ng s l x) (h2 : ∀ r, DR r → rc' r = rc r ∧ nln s' r = nln s r ∧ ∀ w, w < 10 → ncd s' r w = ncd s r w) : COb M' s' hc' rc' DL DR := by
  refine ⟨fun l hl => ?_, fun r hr => ?_⟩
  · obtain ⟨⟨a1, a2, a3, gl, a4, a5⟩, a6⟩ := h.1 l hl
    obtain ⟨b1, b2⟩ := h1 l hl
    exact ⟨⟨a1, by omega, by rw [hM l a1 (by omega), b1]; exact a3, gl, by rw [hM _ (by omega) a2]; exact a4, fun x hx => (a5 x hx).trans (b2 x hx).symm⟩, fun x r hx hr => a6 x r hx ((b2 x hx).symm.trans hr)⟩
  · obtain ⟨a1, a2, a3, a4, cr, a5, a6⟩ := h.2 r hr
    obtain ⟨b1, b2, b3⟩ := h2 r hr
    refine ⟨a1, by omega, by rw [hM r a1 (by omega), b1]; exact a3, by rw [b2]; exact a4, cr, by rw [hM _ (by omega) a2, b2]; exact a5, fun w hw => ?_⟩
    rw [b2] at hw
    rw [b3 w (by omega)]
    exact a6 w hw
theorem COb.addL (h : COb M s hc rc DL DR) {l : Nat} (hL : LOb M (ng s) hc l) (hr : ∀ x r, x < 10 → ng s l x = some r → DR r) : COb M s hc rc (fun m => DL m ∨ m = l) DR := ⟨fun m hm => by
  rcases hm with hm | rfl
  · exact h.1 m hm
  · exact ⟨hL, hr⟩, h.2⟩
theorem COb.addR (h : COb M s hc rc DL DR) {r : Nat} (hR : ROb M s rc r) : COb M s hc rc DL (fun q => DR q ∨ q = r) := ⟨fun m hm => ⟨(h.1 m hm).1, fun x q hx hq => Or.inl ((h.1 m hm).2 x q hx hq)⟩, fun q hq => by
  rcases hq with hq | rfl
  · exact h.2 q hq
  · exact hR⟩
end CQ
def DLs (s : SN) (l : Nat) : Prop := ∃ k, k < 160 ∧ nf s k = some l
def DRs (s : SN) (r : Nat) : Prop := ∃ k x, k < 160 ∧ x < 10 ∧ rwo s k x = some r
theorem CRep.cl {M : Mm} {s : SN} {nl nr : Nat} (h : CRep M s nl nr) : CL M s (hcnt s) (DLs s) (DRs s) nl nr := by
  obtain ⟨-, h2, h3, -⟩ := h
  refine ⟨⟨fun l hl => ?_, fun r hr => ?_⟩, h3⟩
  · obtain ⟨k, hk, hl⟩ := hl
    obtain ⟨a1, a2, a3, gl, a4, a5⟩ := h2 k l hk hl
    exact ⟨⟨a1, a2, a3, gl, a4, fun x hx => (a5 x hx).1⟩, fun x r hx hr => ⟨k, x, hk, hx, by rw [rwo_some hl]; exact hr⟩⟩
  · obtain ⟨k, x, hk, hx, hr⟩ := hr
    unfold rwo at hr
    obtain ⟨l, hl, hr⟩ := Option.bind_eq_some_iff.mp hr
    obtain ⟨a1, a2, a3, gl, a4, a5⟩ := h2 k l hk hl
    exact (a5 x hx).2 r hr
theorem CRep.of {M : Mm} {s : SN} {nl nr : Nat} {DL DR : Nat → Prop} (h : CL M s (hcnt s) DL DR nl nr) (hF : ∀ h, h < 16 → ∃ fl, M.2.2 (LA h) = aR 4 10 fl ∧ ∀ z, z < 10 → fl z = nf s (10 * h + z)) (hD : ∀ k l, k < 160 → nf s k = some l → DL l) (hX : RowX s) : CRep M s nl nr := by
  refine ⟨hF, fun k l hk hl => ?_, h.2, hX⟩
  obtain ⟨⟨a1, a2, a3, gl, a4, a5⟩, a6⟩ := h.1.1 l (hD k l hk hl)
  exact ⟨a1, a2, a3, gl, a4, fun x hx => ⟨a5 x hx, fun r hr => h.1.2 r (a6 x r hx hr)⟩⟩
theorem hcnt_le (s : SN) (l : Nat) : hcnt s l ≤ 160 := cn_le _ _
theorem hcnt_pos {s : SN} {k l : Nat} (hk : k < 160) (h : nf s k = some l) : 1 ≤ hcnt s l := cn_pos hk (decide_eq_true h)
theorem hcnt_two {s : SN} {k l : Nat} (hk : k < 160) (h : nf s k = some l) : 2 ≤ hcnt s l ↔ ∃ j, j < 160 ∧ j ≠ k ∧ nf s j = some l := by
  unfold hcnt
  rw [cn_two hk (decide_eq_true h)]
  simp only [decide_eq_true_eq]
/-- the counts after place k has got o -/
theorem hcnt_put {s s' : SN} {k : Nat} {o : Option Nat} (hk : k < 160) (h1 : nf s' k = o) (h2 : ∀ j, j < 160 → j ≠ k → nf s' j = nf s j) : hcnt s' = decO (incO (hcnt s) o) (nf s k) := by
  funext l
  have e := cn_at (p := fun j => decide (nf s' j = some l)) (q := fun j => decide (nf s j = some l)) hk fun i hi hne => by rw [h2 i hi hne]
  simp only [decide_eq_true_eq, h1] at e
  have e1 : incO (hcnt s) o l = hcnt s l + (if o = some l then 1 else 0) := by
    cases o with
    | none => simp [incO]
    | some m =>
      show updN _ _ _ l = _
      unfold updN
      by_cases q : l = m
      · subst q; simp
      · rw [if_neg q, if_neg (fun t => q (Option.some.inj t).symm)]; omega
  have e2 : decO (incO (hcnt s) o) (nf s k) l = incO (hcnt s) o l - (if nf s k = some l then 1 else 0) := by
    cases hm : nf s k with
    | none => simp [decO]
    | some m =>
      show updN _ _ _ l = _
      unfold updN
      by_cases q : l = m
      · subst q; simp
      · rw [if_neg q, if_neg (fun t => q (Option.some.inj t).symm)]; omega
  rw [e2, e1]
  unfold hcnt
  omega
