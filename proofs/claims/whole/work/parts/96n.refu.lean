/-! the same refusals on both sides -/
def NN (s : SN) : Prop := ∀ k x r, k < 160 → x < 10 → rwo s k x = some r → nln s r ≤ 10 ∧ ∀ w, w < nln s r → codeOk (ncd s r w)
theorem CRep.nn {M : Mm} {s : SN} {nl nr : Nat} (h : CRep M s nl nr) : NN s := by
  intro k x r hk hx hr
  unfold rwo at hr
  obtain ⟨l, hl, hr⟩ := Option.bind_eq_some_iff.mp hr
  obtain ⟨-, -, -, gl, -, hrow⟩ := h.2.1 k l hk hl
  obtain ⟨-, -, -, h4, cr, -, h6⟩ := (hrow x hx).2 r hr
  exact ⟨h4, fun w hw => (h6 w hw).1 ▸ (h6 w hw).2⟩
theorem RRep.nn {M : Mm} {s : SN} (h : RRep M s) : NN s := by
  obtain ⟨⟨hd, a1, a2⟩, ⟨rw9, b1, b2⟩, ⟨ln, c1, c2⟩, ⟨ck, ct, d1, d2, d3⟩, -⟩ := h
  intro k x r hk hx hr
  unfold rwo at hr
  obtain ⟨l, hl, hr⟩ := Option.bind_eq_some_iff.mp hr
  have hl2 := (a2 k hk).2 l hl
  have hr2 := (b2 l x hl2 hx).2 r hr
  refine ⟨(c2 r hr2).2, fun w hw => ?_⟩
  have hw10 : w < 10 := Nat.lt_of_lt_of_le hw (c2 r hr2).2
  obtain ⟨e1, e2, e3, e4, -, e6⟩ := d3 r w hr2 hw10
  unfold codeOk
  rw [e6, Int32.toInt_add, Int32.toInt_mul]
  have e24 : (24 : Int32).toInt = 24 := rfl
  rw [e24, Int.bmod_eq_of_le (n := 24 * (ck (10 * r + w)).toInt) (by omega) (by omega), Int.bmod_eq_of_le (by omega) (by omega)]
  omega
def refuA (a : AB) (h : Nat) (z x w : Int32) : Int32 := if isP z = true then (if aly a (10 * h + z.toNatClampNeg) = true then (if isP x = true then (if arp a (10 * h + z.toNatClampNeg) x.toNatClampNeg = true then (if isP w = true ∧ ¬ aat a (10 * h + z.toNatClampNeg) x.toNatClampNeg w.toNatClampNeg = -1 then 0 else 5) else 4) else 3) else 2) else 1
theorem codeOk_ne {v : Int32} (h : codeOk v) : ¬ v = -1 := fun q => by
  have h0 := h.1
  rw [q] at h0
  exact absurd h0 (by decide)
theorem refu_A {s : SN} {a : AB} {h : Nat} {z x w : Int32} (hA : Ag s a) (hn : NN s) (hh : h < 16) : refu s h z x w = refuA a h z x w := by
  unfold refu refuA
  by_cases hz : isP z = true
  · rw [if_pos hz, if_pos hz]
    obtain ⟨zn, hzn, rfl⟩ := isP_nat hz
    rw [nI_clamp (by omega)]
    obtain ⟨g1, -, g3⟩ := hA (10 * h + zn) (by omega)
    rw [g1]
    cases hl : nf s (10 * h + zn) with
    | none => rfl
    | some l =>
      dsimp only [Option.isSome]
      rw [if_pos rfl]
      by_cases hx : isP x = true
      · rw [if_pos hx, if_pos hx]
        obtain ⟨xn, hxn, rfl⟩ := isP_nat hx
        rw [nI_clamp (by omega)]
        obtain ⟨f1, -, f3⟩ := g3 xn hxn
        have er : rwo s (10 * h + zn) xn = ng s l xn := by unfold rwo; rw [hl]; rfl
        rw [f1, er]
        cases hr : ng s l xn with
        | none => rfl
        | some r =>
          dsimp only [Option.isSome]
          rw [if_pos rfl]
          obtain ⟨n1, n2⟩ := hn (10 * h + zn) xn r (by omega) hxn (er.trans hr)
          by_cases hw : isP w = true
          · obtain ⟨wn, hwn, rfl⟩ := isP_nat hw
            have hge : oGe (nI wn) 0 = true := by
              unfold oGe
              rw [decide_eq_true_eq]
              exact nI_pos' (by omega)
            have ev : aat a (10 * h + zn) xn wn = if wn < nln s r then ncd s r wn else -1 := by
              rw [f3 wn hwn]
              unfold cdo
              rw [er, hr]
            rw [nI_clamp (by omega), hge, Bool.true_and]
            by_cases q : wn < nln s r
            · have h1 : oLt (nI wn) (nI (nln s r)) = true := by
                unfold oLt
                rw [decide_eq_true_eq]
                exact nI_lt q (by omega)
              rw [if_pos h1, if_pos ⟨hw, by rw [ev, if_pos q]; exact codeOk_ne (n2 wn q)⟩]
            · have h1 : ¬ oLt (nI wn) (nI (nln s r)) = true := by
                unfold oLt
                rw [decide_eq_true_eq]
                exact nI_nlt (by omega) (by omega)
              rw [if_neg h1, if_neg (fun t => t.2 (by rw [ev, if_neg q]))]
          · have h1 : ¬ (oGe w 0 && oLt w (nI (nln s r))) = true := by
              intro t
              apply hw
              simp only [isP, oGe, oLt, Bool.and_eq_true, decide_eq_true_eq, Int32.le_iff_toInt_le, Int32.lt_iff_toInt_lt] at t ⊢
              rw [nI_toInt (by omega)] at t
              have : (10 : Int32).toInt = 10 := rfl
              exact ⟨t.1, by omega⟩
            rw [if_neg h1, if_neg (fun t => hw t.1)]
      · rw [if_neg hx, if_neg hx]
  · rw [if_neg hz, if_neg hz]
