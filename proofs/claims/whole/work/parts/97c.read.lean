/-! reading cells: both sides -/
theorem nI_mul {c : Int32} {m : Nat} (hc : c = nI m) (z : Nat) : c * nI z = nI (m * z) := by
  rw [hc]
  exact (Int32.ofNat_mul m z).symm
theorem nI_inj {a b : Nat} (ha : a < 2 ^ 31) (hb : b < 2 ^ 31) : nI a = nI b ↔ a = b := by
  refine ⟨fun h => ?_, fun h => by rw [h]⟩
  have := congrArg Int32.toInt h
  rw [nI_toInt ha, nI_toInt hb] at this
  omega
theorem nI_sub {a b : Nat} (h : b ≤ a) (ha : a < 2 ^ 31) : nI a - nI b = nI (a - b) := by
  apply Int32.toInt_inj.mp
  rw [Int32.toInt_sub, nI_toInt ha, nI_toInt (by omega), nI_toInt (by omega), Int.bmod_eq_of_le (by omega) (by omega)]
  omega
theorem oEq_nI {a b : Nat} (ha : a < 2 ^ 31) (hb : b < 2 ^ 31) : oEq (nI a) (nI b) = decide (a = b) := by
  unfold oEq
  rw [decide_eq_decide]
  exact nI_inj ha hb
theorem oLt_nI {a b : Nat} (ha : a < 2 ^ 31) (hb : b < 2 ^ 31) : oLt (nI a) (nI b) = decide (a < b) := by
  unfold oLt
  rw [decide_eq_decide, Int32.lt_iff_toInt_lt, nI_toInt ha, nI_toInt hb]
  omega
theorem oLe_nI {a b : Nat} (ha : a < 2 ^ 31) (hb : b < 2 ^ 31) : oLe (nI a) (nI b) = decide (a ≤ b) := by
  unfold oLe
  rw [decide_eq_decide, Int32.le_iff_toInt_le, nI_toInt ha, nI_toInt hb]
  omega
theorem oGt_nI {a b : Nat} (ha : a < 2 ^ 31) (hb : b < 2 ^ 31) : oGt (nI a) (nI b) = decide (b < a) := oLt_nI hb ha
theorem oGe_nI {a b : Nat} (ha : a < 2 ^ 31) (hb : b < 2 ^ 31) : oGe (nI a) (nI b) = decide (b ≤ a) := oLe_nI hb ha
theorem oNe_not (a b : Int32) : oNe a b = !(oEq a b) := by unfold oNe oEq; by_cases e : a = b <;> simp [e]
theorem nI_tn {v : Int32} (h : 0 ≤ v.toInt) : v = nI v.toInt.toNat := by
  apply Int32.toInt_inj.mp
  have := Int32.toInt_lt v
  rw [nI_toInt (by omega)]
  omega
theorem isP_nI {n : Nat} (h : n < 10) : isP (nI n) = true := by
  simp only [isP, oGe, oLt, Bool.and_eq_true, decide_eq_true_eq]
  exact ⟨nI_pos' (by omega), nI_lt (b := 10) h (by decide)⟩
theorem isY_nI {n : Nat} (h : n < 4) : isY (nI n) = true := by
  simp only [isY, oGe, oLt, Bool.and_eq_true, decide_eq_true_eq]
  exact ⟨nI_pos' (by omega), nI_lt (b := 4) h (by decide)⟩
theorem sp_cellOf (z x w : Nat) (M : Mm) : F_X11_cellOf [.int (nI z), .int (nI x), .int (nI w)] M = some (some (.int (nI (100 * z + 10 * x + w))), M) := by
  rw [← nI_add, ← nI_add, ← nI_mul (c := 100) rfl, ← nI_mul (c := 10) rfl]
  rfl
/-- kind and turn of a code, as Java divides -/
def kd (v : Int32) : Int32 := v / 24
def tn (v : Int32) : Int32 := v - v / 24 * 24
def kR (v : Int32) : Int32 := if v = -1 then -1 else v / 24
def cdf (k t : Int32) : Int32 := if oEq k 0 = true then 0 else 24 * k + t
theorem sp_kindOf (v : Int32) (M : Mm) : F_X11_kindOf [.int v] M = some (some (.int (kd v)), M) := wF_eq (wF_b rfl (Nat.le_of_ble_eq_true rfl) (l_ret (pI_div (pI_lI rfl) pI_cI (by decide)) ⟨rfl, rfl, rfl⟩))
theorem sp_turnOf (v : Int32) (M : Mm) : F_X11_turnOf [.int v] M = some (some (.int (tn v)), M) := wF_eq (wF_b rfl (Nat.le_of_ble_eq_true rfl) (l_ret (pI_rem (pI_lI rfl) pI_cI (by decide)) ⟨rfl, rfl, rfl⟩))
theorem sp_codeOf (k t : Int32) (M : Mm) : F_X11_codeOf [.int k, .int t] M = some (some (.int (cdf k t)), M) := wF_eq (wF_b rfl (Nat.le_of_ble_eq_true rfl) (l_ret (pI_tI (pC_kI (pI_lI rfl) pI_cI) pI_cI (pI_add (pI_mul pI_cI (pI_lI rfl)) (pI_lI rfl))) ⟨rfl, rfl, rfl⟩))
/-- a kind and a turn in one number -/
theorem code_int {k t : Int32} (h1 : 0 ≤ k.toInt) (h2 : k.toInt ≤ 30) (h3 : 0 ≤ t.toInt) (h4 : t.toInt < 24) : (24 * k + t).toInt = 24 * k.toInt + t.toInt := by
  rw [Int32.toInt_add, Int32.toInt_mul]
  have e : (24 : Int32).toInt = 24 := rfl
  rw [e, Int.bmod_eq_of_le (n := 24 * k.toInt) (by omega) (by omega), Int.bmod_eq_of_le (by omega) (by omega)]
theorem code_div {k t : Int32} (h1 : 0 ≤ k.toInt) (h2 : k.toInt ≤ 30) (h3 : 0 ≤ t.toInt) (h4 : t.toInt < 24) : (24 * k + t) / 24 = k := by
  apply Int32.toInt_inj.mp
  rw [dvI (n := 24) rfl (by decide) (by rw [code_int h1 h2 h3 h4]; omega), code_int h1 h2 h3 h4]
  omega
theorem code_rem {k t : Int32} (h1 : 0 ≤ k.toInt) (h2 : k.toInt ≤ 30) (h3 : 0 ≤ t.toInt) (h4 : t.toInt < 24) : tn (24 * k + t) = t := by
  unfold tn
  apply Int32.toInt_inj.mp
  rw [rmI (n := 24) rfl (by rw [code_int h1 h2 h3 h4]; omega), code_int h1 h2 h3 h4]
  omega
theorem kd_of {kn : Nat} {v : Int32} (h : cOK kn v) (hb : oGt v 0 = true) : 1 ≤ (kd v).toInt ∧ (kd v).toInt ≤ kn ∧ (kd v).toInt = v.toInt / 24 := by
  rcases h with rfl | rfl | ⟨h1, h2⟩
  · exact absurd hb (by decide)
  · exact absurd hb (by decide)
  · unfold kd
    rw [dvI (n := 24) rfl (by decide) (by omega)]
    omega
theorem kR_cs {kn : Nat} {v : Int32} (h : cOK kn v) : (v = -1 ∧ kR v = -1) ∨ (v = 0 ∧ kR v = 0) ∨ (0 < v.toInt ∧ 0 < (kR v).toInt ∧ kR v = kd v ∧ ¬ v = -1 ∧ ¬ v = 0) := by
  rcases h with rfl | rfl | ⟨h1, h2⟩
  · exact Or.inl ⟨rfl, rfl⟩
  · exact Or.inr (Or.inl ⟨rfl, rfl⟩)
  · have n1 : ¬ v = -1 := fun q => by rw [q] at h1; exact absurd h1 (by decide)
    have n0 : ¬ v = 0 := fun q => by rw [q] at h1; exact absurd h1 (by decide)
    have e : kR v = kd v := by unfold kR kd; rw [if_neg n1]
    refine Or.inr (Or.inr ⟨by omega, ?_, e, n1, n0⟩)
    rw [e]
    unfold kd
    rw [dvI (n := 24) rfl (by decide) (by omega)]
    omega
theorem kR_gt {kn : Nat} {v : Int32} (h : cOK kn v) : oGt (kR v) 0 = oGt v 0 := by
  rcases kR_cs h with ⟨rfl, e⟩ | ⟨rfl, e⟩ | ⟨h1, h2, -, -, -⟩
  · rw [e]
  · rw [e]
  · unfold oGt
    rw [decide_eq_decide, Int32.lt_iff_toInt_lt, Int32.lt_iff_toInt_lt]
    show 0 < _ ↔ 0 < _
    omega
theorem kR_le {kn : Nat} {v : Int32} (h : cOK kn v) : oLe (kR v) 0 = oLe v 0 := by
  rcases kR_cs h with ⟨rfl, e⟩ | ⟨rfl, e⟩ | ⟨h1, h2, -, -, -⟩
  · rw [e]
  · rw [e]
  · unfold oLe
    rw [decide_eq_decide, Int32.le_iff_toInt_le, Int32.le_iff_toInt_le]
    show _ ≤ 0 ↔ _ ≤ 0
    omega
theorem kR_0 {kn : Nat} {v : Int32} (h : cOK kn v) : oEq (kR v) 0 = oEq v 0 := by
  rcases kR_cs h with ⟨rfl, e⟩ | ⟨rfl, e⟩ | ⟨h1, h2, -, -, h0⟩
  · rw [e]
  · rw [e]
  · unfold oEq
    rw [decide_eq_decide]
    exact ⟨fun q => by rw [q] at h2; exact absurd h2 (by decide), fun q => absurd q h0⟩
theorem kR_no {kn : Nat} {v : Int32} (h : cOK kn v) : oEq (kR v) (-1) = oEq v (-1) := by
  rcases kR_cs h with ⟨rfl, e⟩ | ⟨rfl, e⟩ | ⟨h1, h2, -, h0, -⟩
  · rw [e]
  · rw [e]
  · unfold oEq
    rw [decide_eq_decide]
    exact ⟨fun q => by rw [q] at h2; exact absurd h2 (by decide), fun q => absurd q h0⟩
theorem AV.cd {kn : Nat} {ab : AB} (h : AV kn ab) {y c : Nat} (hy : y < 16) (hc : c < 1000) : cOK kn (cdA ab y c) := h _ _ _ (by omega) (by omega) (by omega)
theorem cdA_at (ab : AB) {h z x w : Nat} (hx : x < 10) (hw : w < 10) : cdA ab h (100 * z + 10 * x + w) = aat ab (10 * h + z) x w := by
  unfold cdA
  rw [show (100 * z + 10 * x + w) / 100 = z by omega, show (100 * z + 10 * x + w) / 10 % 10 = x by omega, show (100 * z + 10 * x + w) % 10 = w by omega]
/-- the code at z, x, w, which may be anything -/
def atV (ab : AB) (h : Nat) (z x w : Int32) : Int32 := if refuA ab h z x w = 0 then aat ab (10 * h + z.toNatClampNeg) x.toNatClampNeg w.toNatClampNeg else -1
theorem refuA_nI {ab : AB} {h z x w : Nat} (hz : z < 10) (hx : x < 10) (hw : w < 10) : refuA ab h (nI z) (nI x) (nI w) = if aly ab (10 * h + z) = true then (if arp ab (10 * h + z) x = true then (if aat ab (10 * h + z) x w = -1 then 5 else 0) else 4) else 2 := by
  unfold refuA
  rw [if_pos (isP_nI hz), if_pos (isP_nI hx), nI_clamp (by omega), nI_clamp (by omega), nI_clamp (by omega)]
  by_cases e : aat ab (10 * h + z) x w = -1
  · rw [if_neg (c := isP (nI w) = true ∧ ¬ aat ab (10 * h + z) x w = -1) (fun t => t.2 e), if_pos e]
  · rw [if_pos (c := isP (nI w) = true ∧ ¬ aat ab (10 * h + z) x w = -1) ⟨isP_nI hw, e⟩, if_neg e]
theorem refuA_0 {ab : AB} {h : Nat} {z x w : Int32} (e : refuA ab h z x w = 0) : ∃ zn xn wn, zn < 10 ∧ xn < 10 ∧ wn < 10 ∧ z = nI zn ∧ x = nI xn ∧ w = nI wn ∧ aly ab (10 * h + zn) = true ∧ arp ab (10 * h + zn) xn = true ∧ ¬ aat ab (10 * h + zn) xn wn = -1 := by
  have e0 := e
  unfold refuA at e
  split at e
  · rename_i hz
    obtain ⟨zn, h1, rfl⟩ := isP_nat hz
    split at e
    · rename_i hl
      split at e
      · rename_i hx
        obtain ⟨xn, h2, rfl⟩ := isP_nat hx
        split at e
        · rename_i hr
          split at e
          · rename_i hw
            obtain ⟨wn, h3, rfl⟩ := isP_nat hw.1
            rw [nI_clamp (by omega)] at hl hr hw
            rw [nI_clamp (by omega)] at hr hw
            rw [nI_clamp (by omega)] at hw
            exact ⟨zn, xn, wn, h1, h2, h3, rfl, rfl, rfl, hl, hr, hw.2⟩
          · exact absurd e (by decide)
        · exact absurd e (by decide)
      · exact absurd e (by decide)
    · exact absurd e (by decide)
  · exact absurd e (by decide)
/-- a cell that is there has a layer and a row -/
theorem Ag.there {s : SN} {ab : AB} (hA : Ag s ab) {k x w : Nat} (hk : k < 160) (hx : x < 10) (hw : w < 10) (h : ¬ aat ab k x w = -1) : ∃ l r, nf s k = some l ∧ ng s l x = some r ∧ rwo s k x = some r ∧ w < nln s r ∧ aly ab k = true ∧ arp ab k x = true ∧ aat ab k x w = ncd s r w := by
  obtain ⟨h1, -, h3⟩ := hA k hk
  obtain ⟨g1, -, g3⟩ := h3 x hx
  have ev := g3 w hw
  unfold cdo at ev
  cases hr : rwo s k x with
  | none => rw [hr] at ev; exact absurd ev h
  | some r =>
    rw [hr] at ev
    dsimp only at ev
    by_cases q : w < nln s r
    · rw [if_pos q] at ev
      have hr2 := hr
      unfold rwo at hr2
      obtain ⟨l, hl, hr2⟩ := Option.bind_eq_some_iff.mp hr2
      exact ⟨l, r, hl, hr2, rfl, q, by rw [h1, hl]; rfl, by rw [g1, hr]; rfl, ev⟩
    · rw [if_neg q] at ev
      exact absurd ev h
theorem atV_nI {s : SN} {ab : AB} (hA : Ag s ab) {h z x w : Nat} (hh : h < 16) (hz : z < 10) (hx : x < 10) (hw : w < 10) : atV ab h (nI z) (nI x) (nI w) = aat ab (10 * h + z) x w := by
  unfold atV
  rw [refuA_nI hz hx hw, nI_clamp (by omega), nI_clamp (by omega), nI_clamp (by omega)]
  by_cases e : aat ab (10 * h + z) x w = -1
  · rw [e]
    exact ite_self _
  · obtain ⟨-, -, -, -, -, -, h1, h2, -⟩ := hA.there (by omega) hx hw e
    rw [if_pos h1, if_pos h2, if_neg e, if_pos rfl]
section CC
variable {L : Nat} {xs : Nat → Int32} {M : Mm} {a : AS}
theorem CCo.rep (h : CCo L xs a M) : ∃ s, CRep M s (znl a) (znr a) ∧ Ag s (zab a) := h.2.2.2.2.2.1
theorem CCo.o5 (h : CCo L xs a M) : M.2.2 5 = .inr (10, fsCv (zfe a)) := h.2.2.2.2.1.1
theorem CCo.y (h : CCo L xs a M) {y : Nat} (hy : y < 4) : M.2.2 (17 + 2 * y) = .inr (9, [.ref 6, .ref (18 + 2 * y)]) := h.1.2.2.2.1 y hy
theorem sp_codeA (h : CCo L xs a M) {y c : Nat} (hy : y < 4) (hc : c < 1000) : F_X10_codeAt [.ref (17 + 2 * y), .int (nI c)] M = some (some (.int (cdA (zab a) y c)), M) := by
  obtain ⟨s, h1, h2⟩ := h.rep
  exact sp_codeAt h.1 h1 h2 hy hc
theorem sp_there (h : CCo L xs a M) (y z x w : Int32) : F_X11_there [.ref 5, .int y, .int z, .int x, .int w] M = some (some (.int (thV (zab a) y z x w)), M) := by
  obtain ⟨s, h1, h2⟩ := h.rep
  exact sp_thereC h.1 h.o5 h1 h2
def inV (ab : AB) (y z x w : Int32) : Int32 := if isY y = true then atV ab y.toNatClampNeg z x w else -1
theorem thV_0 {ab : AB} {y z x w : Int32} (h : thV ab y z x w = 0) : ∃ yn, yn < 4 ∧ y = nI yn ∧ refuA ab yn z x w = 0 := by
  unfold thV at h
  by_cases q : isY y = true
  · rw [if_pos q] at h
    obtain ⟨yn, h1, rfl⟩ := isY_nat q
    rw [nI_clamp (by omega)] at h
    exact ⟨yn, h1, rfl, h⟩
  · rw [if_neg q] at h
    exact absurd h (by decide)
theorem inV_no {ab : AB} {y z x w : Int32} (h : ¬ thV ab y z x w = 0) : inV ab y z x w = -1 := by
  unfold inV
  by_cases q : isY y = true
  · rw [if_pos q]
    unfold thV at h
    rw [if_pos q] at h
    unfold atV
    rw [if_neg h]
  · rw [if_neg q]
theorem inV_yes {ab : AB} {yn zn xn wn : Nat} (h1 : yn < 4) (h2 : zn < 10) (h3 : xn < 10) (h4 : wn < 10) (h : refuA ab yn (nI zn) (nI xn) (nI wn) = 0) : inV ab (nI yn) (nI zn) (nI xn) (nI wn) = aat ab (10 * yn + zn) xn wn := by
  unfold inV
  rw [if_pos (isY_nI h1), nI_clamp (by omega)]
  unfold atV
  rw [if_pos h, nI_clamp (by omega), nI_clamp (by omega), nI_clamp (by omega)]
theorem sp_codeIn (h : CCo L xs a M) (y z x w : Int32) : F_X11_codeIn [.ref 5, .int y, .int z, .int x, .int w] M = some (some (.int (inV (zab a) y z x w)), M) := by
  refine wF_eq (wF_b rfl (Nat.le_of_ble_eq_true rfl) (wS_retI (wI_tI (wC_p (pC_kI (pI_vV (pR_A (pA_lA rfl) (pR_I (pI_lI rfl) (pR_I (pI_lI rfl) (pR_I (pI_lI rfl) (pR_I (pI_lI rfl) pR_0))))) h.o5 (sp_there h y z x w)) pI_cI) ⟨fun hb => ?_, fun hb => wI_cI ⟨rfl, ?_, rfl⟩⟩))))
  · have e : thV (zab a) y z x w = 0 := by simpa [oEq] using hb
    obtain ⟨yn, hy, rfl, e2⟩ := thV_0 e
    obtain ⟨zn, xn, wn, hz, hx, hw, rfl, rfl, rfl, -, -, -⟩ := refuA_0 e2
    refine wI_p (pI_vV (pR_A (pA_yard h.1 h.o5 hy rfl rfl) (pR_I (pI_vS (pR_I (pI_lI rfl) (pR_I (pI_lI rfl) (pR_I (pI_lI rfl) pR_0))) (sp_cellOf _ _ _ _)) pR_0)) (h.y hy) (sp_codeA h hy (by omega))) ⟨rfl, ?_, rfl⟩
    rw [inV_yes hy hz hx hw e2, cdA_at _ hx hw]
  · have e : ¬ thV (zab a) y z x w = 0 := by simpa [oEq] using hb
    rw [inV_no e]
end CC
section RR
variable {L : Nat} {xs : Nat → Int32} {M : Mm} {a : AS}
theorem sp_cell {s : SN} {th pm bm : Int32} {kn nl nr fe h z x r : Nat} {w : Nat} (h69 : M.2.2 69 = .inr (11, fsRv th kn nl nr pm fe bm)) (hR : RRep M s) (hh : h < 16) (hz : z < 10) (hx : x < 10) (hw : w < 10) (hr : rwo s (10 * h + z) x = some r) : F_X12_cell [.ref 69, .int (nI h), .int (nI z), .int (nI x), .int (nI w)] M = some (some (.int (nI (10 * r + w))), M) ∧ r < 1710 := by
  obtain ⟨⟨hd, a1, a2⟩, ⟨rw9, b1, b2⟩, -, -, -⟩ := hR
  unfold rwo at hr
  obtain ⟨l, hl, hr⟩ := Option.bind_eq_some_iff.mp hr
  obtain ⟨a3, a4⟩ := a2 (10 * h + z) (by omega)
  have hl170 := a4 l hl
  obtain ⟨b3, b4⟩ := b2 l x hl170 hx
  have hr2 := b4 r hr
  refine ⟨wF_eq (wF_b rfl (Nat.le_of_ble_eq_true rfl) (l_ret (v := nI (10 * r + w)) ?_ ⟨rfl, rfl, rfl⟩)), hr2⟩
  have p1 : pI (gI 0 (fA 11 7 (lA 0)) (bI oAdd (bI oMul (cI 10) (lI 1)) (lI 2))) (mkL 5 [.ref 69, .int (nI h), .int (nI z), .int (nI x), .int (nI w)]) M (nI l) := by
    have h9 := pI_gI (t := 0) (pA_fA (k := 7) (pA_lA (i := 0) (L := mkL 5 [.ref 69, .int (nI h), .int (nI z), .int (nI x), .int (nI w)]) rfl) h69 rfl) (pI_add (pI_mul pI_cI (pI_lI (i := 1) rfl)) (pI_lI (i := 2) rfl)) a1 (by rw [nI_mul10]; exact inb_nI (by omega) (by decide))
    rw [nI_mul10, nI_clamp (by omega), a3, hl] at h9
    exact h9
  have p2 := pI_gI (t := 0) (pA_fA (k := 9) (pA_lA (i := 0) (L := mkL 5 [.ref 69, .int (nI h), .int (nI z), .int (nI x), .int (nI w)]) rfl) h69 rfl) (pI_add (pI_mul pI_cI p1) (pI_lI (i := 3) rfl)) b1 (by rw [nI_mul10]; exact inb_nI (by omega) (by decide))
  rw [nI_mul10, nI_clamp (by omega), b3, hr] at p2
  exact pI_eq (pI_add (pI_mul pI_cI p2) (pI_lI rfl)) (nI_mul10 r w)
theorem RCo.rep (h : RCo L xs a M) : ∃ s, RRep M s ∧ Ag s (zab a) := h.2.2.2.2.2
theorem sp_thereR (h : RCo L xs a M) (ho : RO a M) {y : Nat} (hy : y < 16) (z x w : Int32) : F_X12_isThere [.ref 69, .int (nI y), .int z, .int x, .int w] M = some (some (.int (refuA (zab a) y z x w)), M) := by
  obtain ⟨s, h1, h2⟩ := h.rep
  obtain ⟨th, pm, bm, ho⟩ := ho
  rw [← refu_A h2 h1.nn hy]
  exact sp_isThere ho h1 hy
/-- the tables' kind and turn of a cell that is there -/
theorem sp_cellA (h : RCo L xs a M) (ho : RO a M) {y z x w : Nat} (hy : y < 16) (hz : z < 10) (hx : x < 10) (hw : w < 10) (he : ¬ aat (zab a) (10 * y + z) x w = -1) : ∃ i ck ct, i < 17100 ∧ F_X12_cell [.ref 69, .int (nI y), .int (nI z), .int (nI x), .int (nI w)] M = some (some (.int (nI i)), M) ∧
    M.2.2 79 = aI 0 17100 ck ∧ M.2.2 80 = aI 0 17100 ct ∧ ck i = kd (aat (zab a) (10 * y + z) x w) ∧ ct i = tn (aat (zab a) (10 * y + z) x w) ∧ 0 ≤ (ck i).toInt ∧ (ck i).toInt ≤ 30 ∧ 0 ≤ (ct i).toInt ∧ (ct i).toInt < 24 := by
  obtain ⟨s, h1, h2⟩ := h.rep
  obtain ⟨th, pm, bm, ho⟩ := ho
  obtain ⟨l, r, hl, hr, hr2, hwl, -, -, ev⟩ := h2.there (by omega) hx hw he
  obtain ⟨e1, e2⟩ := sp_cell ho h1 hy hz hx hw hr2
  obtain ⟨-, -, -, ⟨ck, ct, d1, d2, d3⟩, -⟩ := h1
  obtain ⟨k1, k2, k3, k4, -, k6⟩ := d3 r w e2 hw
  refine ⟨10 * r + w, ck, ct, by omega, e1, d1, d2, ?_, ?_, k1, k2, k3, k4⟩
  · rw [ev, k6]
    exact (code_div k1 k2 k3 k4).symm
  · rw [ev, k6]
    exact (code_rem k1 k2 k3 k4).symm
theorem RO.o (ho : RO a M) : ∃ fs, M.2.2 69 = .inr (11, fs) ∧ (∀ i, 2 ≤ i → i < 33 → ¬ (i = 13 ∨ i = 14 ∨ i = 24 ∨ i = 26 ∨ i = 32) → fs[i]? = fsR[i]?) ∧ fs.length = 33 ∧ fs[1]? = some (.int (nI (zkn a))) := by
  obtain ⟨th, pm, bm, ho⟩ := ho
  refine ⟨_, ho, ?_, rfl, rfl⟩
  intro i h1 h2 h3
  rcases (show i = 2 ∨ i = 3 ∨ i = 4 ∨ i = 5 ∨ i = 6 ∨ i = 7 ∨ i = 8 ∨ i = 9 ∨ i = 10 ∨ i = 11 ∨ i = 12 ∨ i = 15 ∨ i = 16 ∨ i = 17 ∨ i = 18 ∨ i = 19 ∨ i = 20 ∨ i = 21 ∨ i = 22 ∨ i = 23 ∨ i = 25 ∨ i = 27 ∨ i = 28 ∨ i = 29 ∨ i = 30 ∨ i = 31 by omega) with rfl | rfl | rfl | rfl | rfl | rfl | rfl | rfl | rfl | rfl | rfl | rfl | rfl | rfl | rfl | rfl | rfl | rfl | rfl | rfl | rfl | rfl | rfl | rfl | rfl | rfl <;> rfl
theorem sp_kindAt (h : RCo L xs a M) (ho : RO a M) {y : Nat} (hy : y < 16) (z x w : Int32) : F_X12_kindAt [.ref 69, .int (nI y), .int z, .int x, .int w] M = some (some (.int (kR (atV (zab a) y z x w))), M) := by
  obtain ⟨th, pm, bm, h69⟩ := id ho
  refine wF_eq (wF_b rfl (Nat.le_of_ble_eq_true rfl) (wS_retI (wI_tI (wC_p (pC_kI (pI_vV (pR_A (pA_lA rfl) (pR_I (pI_lI rfl) (pR_I (pI_lI rfl) (pR_I (pI_lI rfl) (pR_I (pI_lI rfl) pR_0))))) h69 (sp_thereR h ho hy z x w)) pI_cI) ⟨fun hb => ?_, fun hb => wI_cI ⟨rfl, ?_, rfl⟩⟩))))
  · have e2 : refuA (zab a) y z x w = 0 := by simpa [oEq] using hb
    have hv : atV (zab a) y z x w = aat (zab a) (10 * y + z.toNatClampNeg) x.toNatClampNeg w.toNatClampNeg := by unfold atV; rw [if_pos e2]
    obtain ⟨zn, xn, wn, hz, hx, hw, rfl, rfl, rfl, -, -, hne⟩ := refuA_0 e2
    rw [nI_clamp (by omega), nI_clamp (by omega), nI_clamp (by omega)] at hv
    rw [hv]
    obtain ⟨i, ck, ct, hi, e1, d1, d2, d3, -⟩ := sp_cellA h ho hy hz hx hw hne
    have h9 := pI_gI (t := 0) (L := mkL 5 [.ref 69, .int (nI y), .int (nI zn), .int (nI xn), .int (nI wn)]) (pA_fA (k := 11) (pA_lA (i := 0) rfl) h69 rfl) (pI_vV (pR_A (pA_lA (i := 0) rfl) (pR_I (pI_lI (i := 1) rfl) (pR_I (pI_lI (i := 2) rfl) (pR_I (pI_lI (i := 3) rfl) (pR_I (pI_lI (i := 4) rfl) pR_0))))) h69 e1) d1 (inb_nI hi (by decide))
    rw [nI_clamp (by omega), d3] at h9
    refine wI_p h9 ⟨rfl, ?_, rfl⟩
    unfold kR kd
    rw [if_neg hne]
  · have e2 : ¬ refuA (zab a) y z x w = 0 := by simpa [oEq] using hb
    unfold atV
    rw [if_neg e2]
    rfl
theorem sp_kindR2 (h : RCo L xs a M) (ho : RO a M) {y c : Nat} (hy : y < 16) (hc : c < 1000) : F_X12_kindOf [.ref 69, .int (nI y), .int (nI c)] M = some (some (.int (kR (cdA (zab a) y c))), M) := by
  obtain ⟨th, pm, bm, h69⟩ := id ho
  obtain ⟨s, h1, h2⟩ := h.rep
  have e : cdA (zab a) y c = atV (zab a) y (nI (c / 100)) (nI (c / 10 % 10)) (nI (c % 10)) := (atV_nI h2 hy (by omega) (by omega) (by omega)).symm
  rw [e]
  exact wF_eq (wF_b rfl (Nat.le_of_ble_eq_true rfl) (l_ret (pI_vV (pR_A (pA_lA rfl) (pR_I (pI_lI rfl) (pR_I (pI_eq (pI_div (pI_lI rfl) pI_cI (by decide)) (nI_div rfl (by omega) (by decide) (by decide))) (pR_I (pI_eq (pI_rem (pI_eq (pI_div (pI_lI rfl) pI_cI (by decide)) (nI_div (m := 10) rfl (by omega) (by decide) (by decide))) pI_cI (by decide)) (nI_rem rfl (by omega) (by decide) (by decide))) (pR_I (pI_eq (pI_rem (pI_lI rfl) pI_cI (by decide)) (nI_rem rfl (by omega) (by decide) (by decide))) pR_0))))) h69 (sp_kindAt h ho hy _ _ _)) ⟨rfl, rfl, rfl⟩))
theorem sp_turnR2 (h : RCo L xs a M) (ho : RO a M) {y c : Nat} (hy : y < 16) (hc : c < 1000) (hne : ¬ cdA (zab a) y c = -1) : F_X12_turnOf [.ref 69, .int (nI y), .int (nI c)] M = some (some (.int (tn (cdA (zab a) y c))), M) := by
  obtain ⟨th, pm, bm, h69⟩ := id ho
  obtain ⟨i, ck, ct, hi, e1, d1, d2, -, d3, -⟩ := sp_cellA h ho hy (z := c / 100) (x := c / 10 % 10) (w := c % 10) (by omega) (by omega) (by omega) hne
  refine wF_eq (wF_b rfl (Nat.le_of_ble_eq_true rfl) (l_ret ?_ ⟨rfl, rfl, rfl⟩))
  have h9 := pI_gI (t := 0) (L := mkL 3 [.ref 69, .int (nI y), .int (nI c)]) (pA_fA (k := 12) (pA_lA (i := 0) rfl) h69 rfl) (pI_vV (pR_A (pA_lA (i := 0) rfl) (pR_I (pI_lI (i := 1) rfl) (pR_I (pI_eq (pI_div (pI_lI (i := 2) rfl) pI_cI (by decide)) (nI_div rfl (by omega) (by decide) (by decide))) (pR_I (pI_eq (pI_rem (pI_eq (pI_div (pI_lI (i := 2) rfl) pI_cI (by decide)) (nI_div (m := 10) rfl (by omega) (by decide) (by decide))) pI_cI (by decide)) (nI_rem rfl (by omega) (by decide) (by decide))) (pR_I (pI_eq (pI_rem (pI_lI (i := 2) rfl) pI_cI (by decide)) (nI_rem rfl (by omega) (by decide) (by decide))) pR_0))))) h69 e1) d2 (inb_nI hi (by decide))
  rw [nI_clamp (by omega), d3] at h9
  exact h9
end RR
