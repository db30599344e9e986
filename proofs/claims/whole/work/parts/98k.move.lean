/-! move -/
theorem sp_codeNo {L : Nat} {xs : Nat → Int32} {a : AS} {M : Mm} (h : CCo L xs a M) (y : Nat) : F_X10_codeAt [.ref (17 + 2 * y), .int (-1)] M = some (some (.int (-1)), M) :=
  wF_eq (wF_b rfl (Nat.le_of_ble_eq_true rfl) (q_if (v := true) (pC_eq (pC_not (pC_nz (pI_vS (pR_I (pI_lI rfl) pR_0) (sp_isCell (-1) M)))) (by decide)) (fun _ => q_ret pI_cI ⟨rfl, rfl, rfl⟩) (fun q => (by cases q))))
/-- where cell c comes, t telling how far -/
def fbO (t c : Nat) : Option Nat := if (9 ≤ c / 100 + t / 10000 ∧ c / 100 + t / 10000 < 19) ∧ (9 ≤ c / 10 % 10 + t / 100 % 100 ∧ c / 10 % 10 + t / 100 % 100 < 19) ∧ (9 ≤ c % 10 + t % 100 ∧ c % 10 + t % 100 < 19) then some (100 * (c / 100 + t / 10000 - 9) + 10 * (c / 10 % 10 + t / 100 % 100 - 9) + (c % 10 + t % 100 - 9)) else none
theorem fbO_lt {t c e : Nat} (h : fbO t c = some e) : e < 1000 := by
  unfold fbO at h
  split at h
  · cases h; omega
  · cases h
theorem nI_int {p a : Nat} (hp : p < 1000) (ha : a < 1000) : (nI p + nI a - 9).toInt = (p : Int) + a - 9 := by
  rw [nI_add, Int32.toInt_sub, nI_toInt (by omega)]
  have e : (9 : Int32).toInt = 9 := rfl
  rw [e, Int.bmod_eq_of_le (by omega) (by omega)]
  omega
theorem isP_sh {p a : Nat} (hp : p < 1000) (ha : a < 1000) : isP (nI p + nI a - 9) = decide (9 ≤ p + a ∧ p + a < 19) := by
  unfold isP oGe oLt
  rw [← Bool.decide_and, decide_eq_decide, Int32.le_iff_toInt_le, Int32.lt_iff_toInt_lt, nI_int hp ha]
  have e0 : (0 : Int32).toInt = 0 := rfl
  have e1 : (10 : Int32).toInt = 10 := rfl
  omega
theorem sh_nI {p a : Nat} (hp : p < 1000) (ha : a < 1000) (h : 9 ≤ p + a) : nI p + nI a - 9 = nI (p + a - 9) := by
  rw [nI_add]
  exact nI_sub (b := 9) h (by omega)
theorem and3 {a b c : Prop} [Decidable a] [Decidable b] [Decidable c] : ((decide a && decide b) && decide c) = decide (a ∧ b ∧ c) := by
  rw [Bool.and_assoc, Bool.decide_and, Bool.decide_and]
theorem sp_furtherBy {t c : Nat} (ht : t < 10000000) (hc : c < 1000) (M : Mm) : F_X11_furtherBy [.int (nI t), .int (nI c)] M = some (some (.int (oI (fbO t c))), M) := by
  have p1 : pI (bI oDiv (lI 0) (cI 10000)) (mkL 5 [.int (nI t), .int (nI c)]) M (nI (t / 10000)) := pI_eq (pI_div (pI_lI rfl) pI_cI (by decide)) (nI_div rfl (by omega) (by decide) (by decide))
  have p2 : ∀ Lx : Lv, lkp Lx 0 = some (.int (nI t)) → pI (bI oRem (bI oDiv (lI 0) (cI 100)) (cI 100)) Lx M (nI (t / 100 % 100)) := fun Lx q => pI_eq (pI_rem (pI_eq (pI_div (pI_lI q) pI_cI (by decide)) (nI_div (m := 100) rfl (by omega) (by decide) (by decide))) pI_cI (by decide)) (nI_rem rfl (by omega) (by decide) (by decide))
  have p3 : ∀ Lx : Lv, lkp Lx 0 = some (.int (nI t)) → pI (bI oRem (lI 0) (cI 100)) Lx M (nI (t % 100)) := fun Lx q => pI_eq (pI_rem (pI_lI q) pI_cI (by decide)) (nI_rem rfl (by omega) (by decide) (by decide))
  refine wF_eq (wF_b rfl (Nat.le_of_ble_eq_true rfl) (q_I rfl (pI_sub (pI_add (pI_vS (pR_I (pI_lI rfl) pR_0) (sp_zOf hc M)) p1) pI_cI) (q_I rfl (pI_sub (pI_add (pI_vS (pR_I (pI_lI rfl) pR_0) (sp_xOf hc M)) (p2 _ rfl)) pI_cI) (q_I rfl (pI_sub (pI_add (pI_vS (pR_I (pI_lI rfl) pR_0) (sp_wOf hc M)) (p3 _ rfl)) pI_cI) ?_))))
  have hz := isP_sh (show c / 100 < 1000 by omega) (show t / 10000 < 1000 by omega)
  have hx := isP_sh (show c / 10 % 10 < 1000 by omega) (show t / 100 % 100 < 1000 by omega)
  have hw := isP_sh (show c % 10 < 1000 by omega) (show t % 100 < 1000 by omega)
  refine l_ret (pI_tD (x := oI (fbO t c)) (pC_eq (pC_and (pC_and (pC_nz (pI_vS (pR_I (pI_lI rfl) pR_0) (sp_isPlace _ _))) (pC_nz (pI_vS (pR_I (pI_lI rfl) pR_0) (sp_isPlace _ _)))) (pC_nz (pI_vS (pR_I (pI_lI rfl) pR_0) (sp_isPlace _ _)))) (by rw [hz, hx, hw, and3])) (fun hb => ?_) (fun _ => pI_cI)) ⟨rfl, ?_, rfl⟩
  · have hb := of_decide_eq_true hb
    rw [sh_nI (by omega) (by omega) hb.1.1, sh_nI (by omega) (by omega) hb.2.1.1, sh_nI (by omega) (by omega) hb.2.2.1]
    unfold fbO
    rw [if_pos hb]
    exact pI_vS (pR_I (pI_lI rfl) (pR_I (pI_lI rfl) (pR_I (pI_lI rfl) pR_0))) (sp_cellOf _ _ _ _)
  · unfold fbO
    by_cases q : (9 ≤ c / 100 + t / 10000 ∧ c / 100 + t / 10000 < 19) ∧ (9 ≤ c / 10 % 10 + t / 100 % 100 ∧ c / 10 % 10 + t / 100 % 100 < 19) ∧ (9 ≤ c % 10 + t % 100 ∧ c % 10 + t % 100 < 19)
    · rw [if_pos (decide_eq_true q), if_pos q]
    · rw [if_neg (fun s => q (of_decide_eq_true s)), if_neg q]; rfl
/-- the reference's refusal of the place where a cell comes -/
theorem refu_fb {s : SN} {ab : AB} (hA : Ag s ab) {t c u : Nat} (hc : c < 1000) (hu : u < 4) : oNe (refuA ab u (nI (c / 100) + (nI (t / 10000) - 9)) (nI (c / 10 % 10) + (nI (t / 100 % 100) - 9)) (nI (c % 10) + (nI (t % 100) - 9))) 0 = oEq (gO (cdA ab u) (fbO t c)) (-1) ∨ 1000 ≤ t / 10000 := by
  by_cases hbig : t / 10000 < 1000
  · left
    have as : ∀ p q : Int32, p + (q - 9) = p + q - 9 := fun p q => by rw [Int32.sub_eq_add_neg, Int32.sub_eq_add_neg, Int32.add_assoc]
    rw [as, as, as]
    have hz := isP_sh (show c / 100 < 1000 by omega) (show t / 10000 < 1000 by omega)
    have hx := isP_sh (show c / 10 % 10 < 1000 by omega) (show t / 100 % 100 < 1000 by omega)
    have hw := isP_sh (show c % 10 < 1000 by omega) (show t % 100 < 1000 by omega)
    by_cases q : (9 ≤ c / 100 + t / 10000 ∧ c / 100 + t / 10000 < 19) ∧ (9 ≤ c / 10 % 10 + t / 100 % 100 ∧ c / 10 % 10 + t / 100 % 100 < 19) ∧ (9 ≤ c % 10 + t % 100 ∧ c % 10 + t % 100 < 19)
    · rw [sh_nI (by omega) (by omega) q.1.1, sh_nI (by omega) (by omega) q.2.1.1, sh_nI (by omega) (by omega) q.2.2.1, refuA_nI (by omega) (by omega) (by omega)]
      have e : fbO t c = some (100 * (c / 100 + t / 10000 - 9) + 10 * (c / 10 % 10 + t / 100 % 100 - 9) + (c % 10 + t % 100 - 9)) := if_pos q
      rw [e]
      show _ = oEq (cdA ab u _) (-1)
      rw [cdA_at _ (by omega) (by omega)]
      by_cases e2 : aat ab (10 * u + (c / 100 + t / 10000 - 9)) (c / 10 % 10 + t / 100 % 100 - 9) (c % 10 + t % 100 - 9) = -1
      · rw [e2, show (if (-1 : Int32) = -1 then (5 : Int32) else 0) = 5 from if_pos rfl]
        have hne : ∀ v : Int32, ¬ v = 0 → oNe v 0 = true := fun v h => decide_eq_true h
        rw [show oEq (-1) (-1) = true from rfl]
        refine hne _ ?_
        repeat' split
        all_goals decide
      · obtain ⟨-, -, -, -, -, -, h1, h2, -⟩ := hA.there (by omega) (by omega) (by omega) e2
        rw [if_pos h1, if_pos h2, if_neg e2, show oEq (aat ab (10 * u + (c / 100 + t / 10000 - 9)) (c / 10 % 10 + t / 100 % 100 - 9) (c % 10 + t % 100 - 9)) (-1) = false from decide_eq_false e2]
        rfl
    · have e : fbO t c = none := if_neg q
      rw [e]
      show _ = true
      refine decide_eq_true fun h0 => ?_
      obtain ⟨zn, xn, wn, g1, g2, g3, g4, g5, g6, -⟩ := refuA_0 h0
      rw [g4] at hz
      rw [g5] at hx
      rw [g6] at hw
      rw [isP_nI g1] at hz
      rw [isP_nI g2] at hx
      rw [isP_nI g3] at hw
      exact q ⟨of_decide_eq_true hz.symm, of_decide_eq_true hx.symm, of_decide_eq_true hw.symm⟩
  · exact Or.inr (by omega)
def shO (t : Int32) : Bool := ((oGe t 0 && oLe (t / 10000) 18) && oLe (t / 100 - t / 100 / 100 * 100) 18) && oLe (t - t / 100 * 100) 18
theorem shO_nat {t : Int32} (h : shO t = true) : ∃ n, t = nI n ∧ n < 10000000 ∧ n / 10000 ≤ 18 ∧ n / 100 % 100 ≤ 18 ∧ n % 100 ≤ 18 := by
  unfold shO at h
  obtain ⟨h, h4⟩ := Bool.and_eq_true_iff.mp h
  obtain ⟨h, h3⟩ := Bool.and_eq_true_iff.mp h
  obtain ⟨h1, h2⟩ := Bool.and_eq_true_iff.mp h
  have h0 : 0 ≤ t.toInt := Int32.le_iff_toInt_le.mp (of_decide_eq_true h1)
  have e := nI_tn h0
  have hlt := Int32.toInt_lt t
  obtain ⟨n, hn⟩ : ∃ n, n = t.toInt.toNat := ⟨_, rfl⟩
  rw [← hn] at e
  subst e
  have hn31 : n < 2 ^ 31 := by omega
  rw [nI_div (a := 10000) (m := 10000) rfl hn31 (by decide) (by decide), show oLe (nI (n / 10000)) 18 = decide (n / 10000 ≤ 18) from oLe_nI (b := 18) (by omega) (by decide)] at h2
  rw [nI_div (a := 100) (m := 100) rfl hn31 (by decide) (by decide), nI_rem (a := 100) (m := 100) rfl (by omega) (by decide) (by decide), show oLe (nI (n / 100 % 100)) 18 = decide (n / 100 % 100 ≤ 18) from oLe_nI (b := 18) (by omega) (by decide)] at h3
  rw [nI_rem (a := 100) (m := 100) rfl hn31 (by decide) (by decide), show oLe (nI (n % 100)) 18 = decide (n % 100 ≤ 18) from oLe_nI (b := 18) (by omega) (by decide)] at h4
  have := of_decide_eq_true h2
  exact ⟨n, rfl, by omega, this, of_decide_eq_true h3, of_decide_eq_true h4⟩
/-- the box's blocks below n -/
def opF (y : Nat) (a : AS) (n : Nat) : List Nat := (List.range n).filter fun c => hld (zbx a) c && blk (cdA (zab a) y) c
theorem opL_F (y : Nat) (a : AS) : opL y a = opF y a 1000 := by
  unfold opL opF bls
  rw [List.filter_filter]
theorem opF_succ (y : Nat) (a : AS) (n : Nat) : opF y a (n + 1) = opF y a n ++ if (hld (zbx a) n && blk (cdA (zab a) y) n) = true then [n] else [] := by
  unfold opF
  rw [List.range_succ, List.filter_append, List.filter_cons, List.filter_nil]
def mvG (u : Nat) (τ : Nat → Nat) (v : Nat → Int32) (a : AS) (l : List Nat) : AS := l.foldl (fun b c => zch u (τ c) (v c) b) a
theorem mvG_app (u : Nat) (τ : Nat → Nat) (v : Nat → Int32) (a : AS) (l : List Nat) (c : Nat) : mvG u τ v a (l ++ [c]) = zch u (τ c) (v c) (mvG u τ v a l) := by
  unfold mvG
  rw [List.foldl_append]
  rfl
/-- what is told of a state that came of changes in two yards -/
def From2 (y u : Nat) (a b : AS) : Prop := OkA b ∧ zkn b = zkn a ∧ zbx b = zbx a ∧ zK b = zK a ∧ (∀ e, e < 1000 → (cdA (zab b) u e = -1 ↔ cdA (zab a) u e = -1)) ∧ znl b + znr b + pot y (zab b) + pot u (zab b) ≤ znl a + znr a + pot y (zab a) + pot u (zab a)
theorem From2.rf {y u : Nat} {a : AS} (h : OkA a) : From2 y u a a := ⟨h, rfl, rfl, rfl, fun _ _ => Iff.rfl, Nat.le_refl _⟩
theorem From2.le {y u : Nat} {a b : AS} (h : From2 y u a b) : znl b + znr b ≤ znl a + znr a + 220 := by
  have h1 := h.2.2.2.2.2
  have h2 := pot_le y (zab a)
  have h3 := pot_le u (zab a)
  omega
theorem From2.ch {y u i c : Nat} {a b : AS} {v : Int32} (h : From2 y u a b) (hi : i = y ∨ i = u) (hy : y < 16) (hu : u < 16) (hc : c < 1000) (hv : cOK (zkn a) v) (hv1 : ¬ v = -1) : From2 y u a (zch i c v b) := by
  obtain ⟨h1, h2, h3, h4, h5, h6⟩ := h
  have hi16 : i < 16 := by omega
  refine ⟨h1.ch hi16 hc (by rw [h2]; exact hv), (zch_kn _ _ _ _).trans h2, (zch_bx _ _ _ _).trans h3, ?_, fun e he => ?_, ?_⟩
  · rw [← h4]
    unfold zch
    split <;> rfl
  · rw [cdA_zch hu hi16 hc he, ← h5 e he]
    split
    · rename_i q
      rw [q.1, q.2.1]
      exact ⟨fun t => absurd t hv1, fun t => absurd t q.2.2⟩
    · exact Iff.rfl
  · have t1 := zch_tot (y := i) hc v b
    have t2 := zch_pot y i c v b
    have t3 := zch_pot u i c v b
    unfold tot at t1
    rcases hi with rfl | rfl <;> omega
theorem mvG_from {y u : Nat} {τ : Nat → Nat} {v : Nat → Int32} {a b : AS} (hb : From2 y u a b) (hy : y < 16) (hu : u < 16) (l : List Nat) (hl : ∀ c ∈ l, τ c < 1000 ∧ cOK (zkn a) (v c) ∧ ¬ v c = -1) {i : Nat} (hi : i = y ∨ i = u) : From2 y u a (mvG i τ v b l) := by
  revert hl
  refine snoc_ind (P := fun l => (∀ c ∈ l, τ c < 1000 ∧ cOK (zkn a) (v c) ∧ ¬ v c = -1) → From2 y u a (mvG i τ v b l)) (fun _ => hb) (fun l x ih hl => ?_) l
  have h1 := ih fun c hc => hl c (List.mem_append_left _ hc)
  obtain ⟨g1, g2, g3⟩ := hl x (List.mem_append_right _ (List.mem_singleton.mpr rfl))
  rw [mvG_app]
  exact h1.ch hi hy hu g1 g2 g3
def moT (t c : Nat) : Nat := (fbO t c).getD 0
def moA (y u t : Nat) (c : Int32) (a : AS) (l : List Nat) : AS := mvG u (moT t) (cdA (zab a) y) (if c = 0 then a else mvG y (fun e => e) (fun _ => 0) a l) l
def moOk (u t : Nat) (a : AS) (c : Nat) : Bool := !(oEq (gO (cdA (zab a) u) (fbO t c)) (-1))
def moS (y u t c : Int32) (a : AS) : Int32 × AS := if ((isY y && isY u) && shO t) = true then (if (opL y.toNatClampNeg a).all (moOk u.toNatClampNeg t.toNatClampNeg a) = true then (nI (opL y.toNatClampNeg a).length, moA y.toNatClampNeg u.toNatClampNeg t.toNatClampNeg c a (opL y.toNatClampNeg a)) else (-1, a)) else (-1, a)
theorem moOk_yes {u t c : Nat} {a : AS} (h : moOk u t a c = true) : ∃ e, e < 1000 ∧ fbO t c = some e ∧ moT t c = e ∧ ¬ cdA (zab a) u e = -1 := by
  unfold moOk at h
  rw [Bool.not_eq_true'] at h
  cases q : fbO t c with
  | none => rw [q] at h; cases h
  | some e =>
    rw [q] at h
    exact ⟨e, fbO_lt q, rfl, by unfold moT; rw [q]; rfl, of_decide_eq_false h⟩
theorem blk_facts {kn : Nat} {v : Int32} (hkn : kn ≤ 30) (h : cOK kn v) (hb : oGt v 0 = true) : ¬ v = -1 ∧ codeOk v ∧ kR v = kd v ∧ 0 ≤ (kd v).toInt ∧ (kd v).toInt ≤ 30 ∧ 0 ≤ (tn v).toInt ∧ (tn v).toInt < 24 ∧ cdf (kd v) (tn v) = v := by
  have hne : ¬ v = -1 := fun q => by rw [q] at hb; exact absurd hb (by decide)
  obtain ⟨k1, k2, -⟩ := kd_of h hb
  obtain ⟨t1, t2⟩ := tn_in h hne
  refine ⟨hne, cOK_code hkn h hne, if_neg hne, by omega, by omega, t1, t2, ?_⟩
  unfold cdf
  rw [if_neg (fun q => by rw [of_decide_eq_true q] at k1; exact absurd k1 (by decide))]
  exact (code_id hkn h hne).symm
