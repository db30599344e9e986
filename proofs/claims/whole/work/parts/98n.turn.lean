/-! turnBox -/
def axN (t k : Nat) : Nat := (axF (nI t) (nI k)).toNatClampNeg
def sgN (t k : Nat) : Bool := oLt (sgF (nI t) (nI k)) 0
theorem ax_all : ∀ t, t < 24 → ∀ k, k < 3 → axF (nI t) (nI k) = nI (axN t k) ∧ axN t k < 3 ∧ inb (3 * (nI t / 4) + nI k) 18 = true ∧ inb (nI t / 4) 6 = true ∧ oGt (sgF (nI t) (nI k)) 0 = !(sgN t k) := by decide +kernel
theorem perm_all : ∀ t, t < 24 → (axN t 0 = 0 ∧ axN t 1 = 1 ∧ axN t 2 = 2) ∨ (axN t 0 = 0 ∧ axN t 1 = 2 ∧ axN t 2 = 1) ∨ (axN t 0 = 1 ∧ axN t 1 = 0 ∧ axN t 2 = 2) ∨ (axN t 0 = 1 ∧ axN t 1 = 2 ∧ axN t 2 = 0) ∨ (axN t 0 = 2 ∧ axN t 1 = 0 ∧ axN t 2 = 1) ∨ (axN t 0 = 2 ∧ axN t 1 = 1 ∧ axN t 2 = 0) := by decide +kernel
/-- the box in numbers -/
def bxF (b : Nat → Nat → Int32) (k : Nat) : Nat := (b 0 k).toNatClampNeg
def bxU (b : Nat → Nat → Int32) (k : Nat) : Nat := (b 1 k).toNatClampNeg
theorem bx_nat {b : Nat → Nat → Int32} (h : bOK b) {k : Nat} (hk : k < 3) : b 0 k = nI (bxF b k) ∧ b 1 k = nI (bxU b k) ∧ bxF b k ≤ bxU b k ∧ bxU b k ≤ 9 := by
  obtain ⟨h1, h2, h3⟩ := h k hk
  have e0 := nI_tn h1
  have e1 := nI_tn (v := b 1 k) (by omega)
  have f0 : bxF b k = (b 0 k).toInt.toNat := by unfold bxF; rw [e0, nI_clamp (by omega), ← e0]
  have f1 : bxU b k = (b 1 k).toInt.toNat := by unfold bxU; rw [e1, nI_clamp (by omega), ← e1]
  exact ⟨by rw [f0]; exact e0, by rw [f1]; exact e1, by omega, by omega⟩
theorem hld_nat {b : Nat → Nat → Int32} (h : bOK b) {c : Nat} (hc : c < 1000) : hld b c = true ↔ ∀ k, k < 3 → bxF b k ≤ c / stN k % 10 ∧ c / stN k % 10 ≤ bxU b k := by
  obtain ⟨a0, a1, a2, a3⟩ := bx_nat h (show 0 < 3 by decide)
  obtain ⟨b0, b1, b2, b3⟩ := bx_nat h (show 1 < 3 by decide)
  obtain ⟨c0, c1, c2, c3⟩ := bx_nat h (show 2 < 3 by decide)
  unfold hld
  rw [a0, a1, b0, b1, c0, c1, oGe_nI (by omega) (by omega), oLe_nI (by omega) (by omega), oGe_nI (by omega) (by omega), oLe_nI (by omega) (by omega), oGe_nI (by omega) (by omega), oLe_nI (by omega) (by omega)]
  simp only [Bool.and_eq_true, decide_eq_true_eq]
  have z : c / stN 0 % 10 = c / 100 := by show c / 100 % 10 = c / 100; omega
  have x : c / stN 1 % 10 = c / 10 % 10 := rfl
  have w : c / stN 2 % 10 = c % 10 := by show c / 1 % 10 = c % 10; rw [Nat.div_one]
  constructor
  · rintro ⟨⟨⟨⟨⟨q1, q2⟩, q3⟩, q4⟩, q5⟩, q6⟩ k hk
    rcases (show k = 0 ∨ k = 1 ∨ k = 2 by omega) with rfl | rfl | rfl
    · rw [z]; exact ⟨q1, q2⟩
    · rw [x]; exact ⟨q3, q4⟩
    · rw [w]; exact ⟨q5, q6⟩
  · intro q
    have q0 := q 0 (by decide)
    have q1 := q 1 (by decide)
    have q2 := q 2 (by decide)
    rw [z] at q0
    rw [x] at q1
    rw [w] at q2
    exact ⟨⟨⟨⟨⟨q0.1, q0.2⟩, q1.1⟩, q1.2⟩, q2.1⟩, q2.2⟩
def goK (t : Nat) (b : Nat → Nat → Int32) (k : Nat) : Bool := decide (bxU b k - bxF b k = bxU b (axN t k) - bxF b (axN t k))
def go (t : Nat) (b : Nat → Nat → Int32) : Bool := (List.range 3).all (goK t b)
theorem go_iff {t : Nat} {b : Nat → Nat → Int32} : go t b = true ↔ ∀ k, k < 3 → goK t b k = true := by
  unfold go
  rw [List.all_eq_true]
  exact ⟨fun h k hk => h k (List.mem_range.mpr hk), fun h k hk => h k (List.mem_range.mp hk)⟩
/-- how far along the new axis the cell's k-th place comes -/
def tbH (t : Nat) (b : Nat → Nat → Int32) (c k : Nat) : Nat := bxF b (axN t k) + if sgN t k = true then bxU b k - c / stN k % 10 else c / stN k % 10 - bxF b k
def tbT (t : Nat) (b : Nat → Nat → Int32) (c : Nat) : Nat → Nat
  | 0 => 0
  | k + 1 => tbT t b c k + stN (axN t k) * tbH t b c k
theorem tbH_in {t c : Nat} {b : Nat → Nat → Int32} (hb : bOK b) (ht : t < 24) (hc : c < 1000) (hh : hld b c = true) (hg : go t b = true) {k : Nat} (hk : k < 3) : bxF b (axN t k) ≤ tbH t b c k ∧ tbH t b c k ≤ bxU b (axN t k) ∧ tbH t b c k ≤ 9 := by
  obtain ⟨h1, h2⟩ := (hld_nat hb hc).mp hh k hk
  obtain ⟨-, a1, -⟩ := ax_all t ht k hk
  obtain ⟨-, -, b2, b3⟩ := bx_nat hb hk
  obtain ⟨-, -, c2, c3⟩ := bx_nat hb a1
  have hgk := of_decide_eq_true (go_iff.mp hg k hk)
  unfold tbH
  split <;> omega
theorem tbT_ok {t c : Nat} {b : Nat → Nat → Int32} (hb : bOK b) (ht : t < 24) (hc : c < 1000) (hh : hld b c = true) (hg : go t b = true) : tbT t b c 3 < 1000 ∧ hld b (tbT t b c 3) = true := by
  have h0 := tbH_in hb ht hc hh hg (show 0 < 3 by decide)
  have h1 := tbH_in hb ht hc hh hg (show 1 < 3 by decide)
  have h2 := tbH_in hb ht hc hh hg (show 2 < 3 by decide)
  have e : tbT t b c 3 = stN (axN t 0) * tbH t b c 0 + stN (axN t 1) * tbH t b c 1 + stN (axN t 2) * tbH t b c 2 := by
    show 0 + _ + _ + _ = _
    rw [Nat.zero_add]
  rw [e]
  have s0 : stN 0 = 100 := rfl
  have s1 : stN 1 = 10 := rfl
  have s2 : stN 2 = 1 := rfl
  have key : ∀ z x w : Nat, bxF b 0 ≤ z ∧ z ≤ bxU b 0 ∧ z ≤ 9 → bxF b 1 ≤ x ∧ x ≤ bxU b 1 ∧ x ≤ 9 → bxF b 2 ≤ w ∧ w ≤ bxU b 2 ∧ w ≤ 9 → ∀ n, n = 100 * z + 10 * x + w → n < 1000 ∧ hld b n = true := fun z x w hz hx hw n hn => by
    have hn1 : n < 1000 := by omega
    refine ⟨hn1, (hld_nat hb hn1).mpr fun k hk => ?_⟩
    rcases (show k = 0 ∨ k = 1 ∨ k = 2 by omega) with rfl | rfl | rfl
    · rw [s0, show n / 100 % 10 = z by omega]; exact ⟨hz.1, hz.2.1⟩
    · rw [s1, show n / 10 % 10 = x by omega]; exact ⟨hx.1, hx.2.1⟩
    · rw [s2, show n / 1 % 10 = w by omega]; exact ⟨hw.1, hw.2.1⟩
  rcases perm_all t ht with ⟨p0, p1, p2⟩ | ⟨p0, p1, p2⟩ | ⟨p0, p1, p2⟩ | ⟨p0, p1, p2⟩ | ⟨p0, p1, p2⟩ | ⟨p0, p1, p2⟩ <;> rw [p0] at h0 <;> rw [p1] at h1 <;> rw [p2] at h2 <;> rw [p0, p1, p2, s0, s1, s2]
  · exact key _ _ _ h0 h1 h2 _ (by omega)
  · exact key _ _ _ h0 h2 h1 _ (by omega)
  · exact key _ _ _ h1 h0 h2 _ (by omega)
  · exact key _ _ _ h2 h0 h1 _ (by omega)
  · exact key _ _ _ h1 h2 h0 _ (by omega)
  · exact key _ _ _ h2 h1 h0 _ (by omega)
section TB
variable {L : Nat} {xs : Nat → Int32} {M : Mm} {a : AS}
theorem pI_bx {Lc : Lv} {A K j i r0 ci : Nat} {fs : List Value} {f : Nat → Int32} (h0 : lkp Lc 0 = some (.ref r0)) (hM : M.2.2 r0 = .inr (ci, fs)) (hK : fs[K]? = some (.ref A)) (hA : M.2.2 A = aI 0 3 f) (hi : lkp Lc i = some (.int (nI j))) (hj : j < 3) : pI (gI 0 (fA ci K (lA 0)) (lI i)) Lc M (f j) := by
  have h9 := pI_gI (t := 0) (pA_fA (k := K) (pA_lA h0) hM hK) (pI_lI hi) hA (inb_nI hj (by decide))
  rw [nI_clamp (by omega)] at h9
  exact h9
theorem sp_goes (h : CSt L xs a M) (hO : OkA a) {t : Nat} (ht : t < 24) : F_X0_goesToItself [.ref 13, .int (nI t)] M = some (some (.int (bz (go t (zbx a)))), M) := by
  have hG := h.1.1.2.1
  obtain ⟨x0, x1⟩ := h.1.2.2.1
  have hb := hO.2.2.1
  refine wF_eq (wF_b rfl (Nat.le_of_ble_eq_true rfl) ?_)
  refine q_for 3 (fun j L' M1 => L' = [some (.ref 13), some (.int (nI t)), some (.int (nI j)), none] ∧ M1 = M ∧ ∀ i, i < j → goK t (zbx a) i = true) rfl (a := 0) rfl rfl (by decide) (by decide) ⟨rfl, rfl, fun i hi => absurd hi (Nat.not_lt_zero i)⟩ ?_ ?_ ?_
  · rintro j L' M1 ⟨rfl, -⟩
    rfl
  · rintro j L' M1 hj ⟨rfl, rfl, c3⟩
    obtain ⟨a1, a2, a3, a4, -⟩ := ax_all t ht j hj
    obtain ⟨e0, e1, e2, e3⟩ := bx_nat hb hj
    obtain ⟨f0, f1, f2, f3⟩ := bx_nat hb a2
    have hax := sp_axisOf (M := M1) h.tab a3
    rw [a1] at hax
    refine l_scp (q_I rfl (pI_vS (pR_I (pI_lI rfl) (pR_I (pI_lI rfl) pR_0)) hax) ?_)
    refine l_if (v := !(goK t (zbx a) j)) (pC_eq (pC_kI (pI_sub (pI_bx rfl hG rfl x1 rfl hj) (pI_bx rfl hG rfl x0 rfl hj)) (pI_sub (pI_bx rfl hG rfl x1 rfl a2) (pI_bx rfl hG rfl x0 rfl a2))) ?_) (fun hb2 => ?_) (fun hb2 => ?_)
    · rw [e0, e1, f0, f1, nI_sub e2 (by omega), nI_sub f2 (by omega), oNe_not, oEq_nI (by omega) (by omega)]
      rfl
    · rw [Bool.not_eq_true'] at hb2
      have hno : go t (zbx a) = false := Bool.eq_false_iff.mpr fun q => by
        rw [go_iff.mp q j hj] at hb2
        cases hb2
      exact l_retZ (v := false) pI_cI (Or.inl ⟨rfl, rfl, by rw [hno], rfl⟩)
    · rw [Bool.not_eq_false'] at hb2
      refine wS_nop (Or.inr ⟨by decide, by decide, rfl, rfl, rfl, rfl, fun i hi => ?_⟩)
      by_cases e : i = j
      · rw [e]; exact hb2
      · exact c3 i (by omega)
  · rintro L' M1 ⟨rfl, rfl, c3⟩
    exact l_retZ (v := true) pI_cI ⟨rfl, by rw [go_iff.mpr c3], rfl⟩
theorem sp_turned (h : CSt L xs a M) (hO : OkA a) {t c : Nat} (ht : t < 24) (hc : c < 1000) (hh : hld (zbx a) c = true) : F_X0_turned [.ref 13, .int (nI c), .int (nI t)] M = some (some (.int (nI (tbT t (zbx a) c 3))), M) := by
  have hG := h.1.1.2.1
  obtain ⟨x0, x1⟩ := h.1.2.2.1
  have hb := hO.2.2.1
  refine wF_eq (wF_b rfl (Nat.le_of_ble_eq_true rfl) (q_I rfl pI_cI ?_))
  refine q_for 3 (fun j L' M1 => L' = [some (.ref 13), some (.int (nI c)), some (.int (nI t)), some (.int (nI (tbT t (zbx a) c j))), some (.int (nI j)), none, none, none] ∧ M1 = M) rfl (a := 0) rfl rfl (by decide) (by decide) ⟨rfl, rfl⟩ ?_ ?_ ?_
  · rintro j L' M1 ⟨rfl, -⟩
    rfl
  · rintro j L' M1 hj ⟨rfl, rfl⟩
    obtain ⟨a1, a2, a3, a4, a5⟩ := ax_all t ht j hj
    obtain ⟨e0, e1, e2, e3⟩ := bx_nat hb hj
    obtain ⟨f0, f1, f2, f3⟩ := bx_nat hb a2
    obtain ⟨g1, g2⟩ := (hld_nat hb hc).mp hh j hj
    have hax := sp_axisOf (M := M1) h.tab a3
    rw [a1] at hax
    refine l_scp (q_I rfl (pI_vS (pR_I (pI_lI rfl) (pR_I (pI_lI rfl) pR_0)) (sp_along hc hj M1)) ?_)
    refine q_I (v := nI (if sgN t j = true then bxU (zbx a) j - c / stN j % 10 else c / stN j % 10 - bxF (zbx a) j)) rfl (pI_eq (pI_tI (b := sgN t j) (pC_kI (pI_vS (pR_I (pI_lI rfl) (pR_I (pI_lI rfl) pR_0)) (sp_signOf h.tab a4)) pI_cI) (pI_sub (pI_bx rfl hG rfl x1 rfl hj) (pI_lI rfl)) (pI_sub (pI_lI rfl) (pI_bx rfl hG rfl x0 rfl hj))) ?_) ?_
    · rw [e0, e1]
      by_cases q : sgN t j = true
      · rw [if_pos q, if_pos q, nI_sub g2 (by omega)]
      · rw [if_neg q, if_neg q, nI_sub g1 (by omega)]
    · refine q_I rfl (pI_vS (pR_I (pI_lI rfl) (pR_I (pI_lI rfl) pR_0)) hax) ?_
      refine l_I rfl (pI_eq (pI_add (pI_lI rfl) (pI_mul (pI_vS (pR_I (pI_lI rfl) pR_0) (sp_strideOf a2 M1)) (pI_add (pI_bx rfl hG rfl x0 rfl a2) (pI_lI rfl)))) ?_) (Or.inr ⟨by decide, by decide, rfl, rfl, rfl, rfl⟩)
      rw [f0, nI_add, nI_mul rfl, nI_add]
      rfl
  · rintro L' M1 ⟨rfl, rfl⟩
    exact l_ret (pI_lI rfl) ⟨rfl, rfl, rfl⟩
theorem sp_alongR (h : RCo L xs a M) (ho : RO a M) (hb : bOK (zbx a)) {k : Nat} (hk : k < 3) : F_X12_along [.ref 69, .int (nI k)] M = some (some (.int (nI (bxU (zbx a) k - bxF (zbx a) k + 1))), M) := by
  obtain ⟨th, pm, bm, h69⟩ := ho
  obtain ⟨x0, x1⟩ := h.2.2.1
  obtain ⟨e0, e1, e2, e3⟩ := bx_nat hb hk
  refine wF_eq (wF_b rfl (Nat.le_of_ble_eq_true rfl) (l_ret (pI_eq (pI_add (pI_sub (pI_bx (K := 18) rfl h69 rfl x1 rfl hk) (pI_bx (K := 17) rfl h69 rfl x0 rfl hk)) pI_cI) ?_) ⟨rfl, rfl, rfl⟩))
  rw [e0, e1, nI_sub e2 (by omega), nI_1]
end TB
def tuV (y t : Nat) (a : AS) (c : Nat) : Int32 := cdf (kd (cdA (zab a) y c)) (aft (nI t) (tn (cdA (zab a) y c)))
def hlF (a : AS) (n : Nat) : List Nat := (List.range n).filter (hld (zbx a))
theorem hlF_succ (a : AS) (n : Nat) : hlF a (n + 1) = hlF a n ++ if hld (zbx a) n = true then [n] else [] := by
  unfold hlF
  rw [List.range_succ, List.filter_append, List.filter_cons, List.filter_nil]
theorem hlF_mem {a : AS} {n c : Nat} : c ∈ hlF a n ↔ c < n ∧ hld (zbx a) c = true := by
  unfold hlF
  rw [List.mem_filter, List.mem_range]
def tuA (y t : Nat) (a : AS) (n : Nat) : AS := mvG y (fun c => tbT t (zbx a) c 3) (tuV y t a) a (hlF a n)
def tuOk (y : Nat) (a : AS) (c : Nat) : Bool := !(hld (zbx a) c && oEq (cdA (zab a) y c) (-1))
def tuS (y t : Int32) (a : AS) : Int32 × AS := if ((isY y && isT t) && go t.toNatClampNeg (zbx a)) = true then (if (List.range 1000).all (tuOk y.toNatClampNeg a) = true then (nI (opL y.toNatClampNeg a).length, tuA y.toNatClampNeg t.toNatClampNeg a 1000) else (-1, a)) else (-1, a)
theorem tuV_ok {y t : Nat} {a : AS} (hO : OkA a) (hy : y < 16) (ht : t < 24) {c : Nat} (hc : c < 1000) (hne : ¬ cdA (zab a) y c = -1) : ∃ s, s < 24 ∧ tn (cdA (zab a) y c) = nI s ∧ 0 ≤ (kd (cdA (zab a) y c)).toInt ∧ (kd (cdA (zab a) y c)).toInt ≤ 30 ∧ 0 ≤ (aft (nI t) (nI s)).toInt ∧ (aft (nI t) (nI s)).toInt < 24 ∧ cOK (zkn a) (tuV y t a c) ∧ codeOk (tuV y t a c) := by
  have hv := hO.av.cd hy hc
  obtain ⟨t1, t2⟩ := tn_in hv hne
  obtain ⟨k1, k2⟩ := kd_in hO.1 hv hne
  have hkn := hO.1
  have es := nI_tn t1
  obtain ⟨m, hm, e, -⟩ := mt_all t ht (tn (cdA (zab a) y c)).toInt.toNat (by omega)
  have h1 : 0 ≤ (aft (nI t) (nI (tn (cdA (zab a) y c)).toInt.toNat)).toInt ∧ (aft (nI t) (nI (tn (cdA (zab a) y c)).toInt.toNat)).toInt < 24 := by
    rw [e, nI_toInt (by omega)]; omega
  have h2 := cdf_ok hO.1 k1 k2 h1.1 h1.2
  rw [← es] at h2
  exact ⟨_, by omega, es, k1, by omega, h1.1, h1.2, h2.1, h2.2⟩
theorem tu_from {y t : Nat} {a : AS} (hO : OkA a) (hy : y < 4) (ht : t < 24) (hg : go t (zbx a) = true) (hok : (List.range 1000).all (tuOk y a) = true) {n : Nat} (hn : n ≤ 1000) : From2 y y a (tuA y t a n) := mvG_from (From2.rf hO) (by omega) (by omega) _ (fun c hc => by
  obtain ⟨h1, h2⟩ := hlF_mem.mp hc
  have h3 := List.all_eq_true.mp hok c (List.mem_range.mpr (by omega))
  unfold tuOk at h3
  rw [h2, Bool.true_and, Bool.not_eq_true'] at h3
  obtain ⟨s, -, -, -, -, -, -, h4, h5⟩ := tuV_ok hO (show y < 16 by omega) ht (c := c) (by omega) (of_decide_eq_false h3)
  exact ⟨(tbT_ok hO.2.2.1 ht (by omega) h2 hg).1, h4, codeOk_ne h5⟩) (Or.inl rfl)
