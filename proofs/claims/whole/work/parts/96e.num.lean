/-! division of ints that are not negative -/
theorem dvI {t a : Int32} {n : Int} (ha : a.toInt = n) (hn : 0 < n) (h : 0 ≤ t.toInt) : (t / a).toInt = t.toInt / n := by
  rw [Int32.toInt_div_of_ne_right t a (fun q => by rw [q] at ha; rw [← ha] at hn; exact absurd hn (by decide)), ha]
  exact Int.tdiv_eq_ediv_of_nonneg h
theorem rmI {t a : Int32} {n : Int} (ha : a.toInt = n) (h : 0 ≤ t.toInt) : (t - t / a * a).toInt = t.toInt % n := by
  have e : t - t / a * a = t % a := by
    apply Int32.toInt_inj.mp
    have h1 := Int32.le_toInt (t % a)
    have h2 := Int32.toInt_lt (t % a)
    rw [Int32.toInt_sub, Int32.toInt_mul, Int32.toInt_div, Int.bmod_mul_bmod, Int.sub_bmod_bmod, Int.mul_comm (t.toInt.tdiv a.toInt), ← Int.tmod_def, ← Int32.toInt_mod]
    exact Int.bmod_eq_of_le_mul_two (by omega) (by omega)
  rw [e, Int32.toInt_mod, ha]
  exact Int.tmod_eq_emod_of_nonneg h
theorem dv_dv {t a b c : Int32} {n m : Int} (ha : a.toInt = n) (hb : b.toInt = m) (hc : c.toInt = n * m) (hn : 0 < n) (hm : 0 < m) (h : 0 ≤ t.toInt) : t / a / b = t / c := by
  apply Int32.toInt_inj.mp
  rw [dvI hb hm (by rw [dvI ha hn h]; exact Int.ediv_nonneg h (by omega)), dvI ha hn h, dvI hc (Int.mul_pos hn hm) h]
  rw [Int.ediv_ediv, if_neg (fun q => absurd q.1 (by omega)), Int.sub_zero]
/-- a digit: t / a mod 10 -/
def dg (t a : Int32) : Int32 := t / a - t / a / 10 * 10
theorem dg_in {t a : Int32} {n : Int} (ha : a.toInt = n) (hn : 0 < n) (h : 0 ≤ t.toInt) : 0 ≤ (dg t a).toInt ∧ (dg t a).toInt ≤ 9 := by
  unfold dg
  have h0 : 0 ≤ (t / a).toInt := by rw [dvI ha hn h]; exact Int.ediv_nonneg h (by omega)
  rw [rmI (n := 10) rfl h0]
  omega
theorem wS_setK {L : Lv} {M : Mm} {i : Nat} {e : DI} {Q : Lv → Mm → Nat → Option Value → Prop} (hk : kil i L = L) (h : wI e L M fun x M1 => Q (L.set i (some (.int x))) M1 0 none) : wS (setI i e) L M Q := by
  refine wS_setI ?_
  obtain ⟨x, M1, h1, h2⟩ := h
  exact ⟨x, M1, h1, by unfold stL; rw [hk]; exact h2⟩
theorem pI_dg {L : Lv} {M : Mm} {i : Nat} {t a : Int32} (h : lkp L i = some (.int t)) (h0 : ¬ a = 0) : pI (bI oRem (bI oDiv (lI i) (cI a)) (cI 10)) L M (dg t a) := pI_rem (pI_div (pI_lI h) pI_cI h0) pI_cI (by decide)
/-! box -/
def bxC (t : Int32) : Bool := (oLt t 0 || oNe (t - t / 10 * 10) 1) || oGe t 10000000
def bxC2 (t : Int32) : Bool := (oGt (t / 1000000) (dg t 100000) || oGt (dg t 10000) (dg t 1000)) || oGt (dg t 100) (dg t 10)
def bxR (t : Int32) : Bool := (oLt t 0 || oGt t 9999999) || oNe (t - t / 10 * 10) 1
theorem bx_eq (t : Int32) : bxC t = bxR t := by
  unfold bxC bxR
  have e : oGe t 10000000 = oGt t 9999999 := by
    unfold oGe oGt
    rw [decide_eq_decide, Int32.le_iff_toInt_le, Int32.lt_iff_toInt_lt]
    show 10000000 ≤ t.toInt ↔ 9999999 < t.toInt
    omega
  rw [e]
  cases oLt t 0 <;> cases oGt t 9999999 <;> cases oNe (t - t / 10 * 10) 1 <;> rfl
theorem wS_put3 {L : Lv} {M : Mm} {ci K a A j : Nat} {c x : Int32} {fs : List Value} {f : Nat → Int32} {Q : Lv → Mm → Nat → Option Value → Prop} (m : Nat) (hc : c = nI m) (hL : lkp L 0 = some (.ref a)) (hM : M.2.2 a = .inr (ci, fs)) (hK : fs[K]? = some (.ref A)) (hj : lkp L j = some (.int x)) (hA : M.2.2 A = aI 0 3 f) (hA5 : 5 ≤ A) (hm : m < 3)
    (k : Q L (setC M A (aI 0 3 (upd f m x))) 0 none) : wS (paI 0 (fA ci K (lA 0)) (cI c) (lI j)) L M Q := by
  subst hc
  refine wS_paI (wA_p (pA_fA (pA_lA hL) hM hK) ⟨A, rfl, wI_p pI_cI (wI_p (pI_lI hj) ⟨Or.inl rfl, _, wrI_of hA hA5 (inb_nI hm (by decide)), ?_⟩)⟩)
  rw [nI_clamp (by omega)]
  exact k
theorem sp_become {M : Mm} {t : Int32} {F T : Nat → Int32} (h13 : M.2.2 13 = .inr (0, [.ref 14, .ref 15])) (h14 : M.2.2 14 = aI 0 3 F) (h15 : M.2.2 15 = aI 0 3 T) :
    wF F_X0_become [.ref 13, .int t] M fun v M' => (bxC t = true → v = some (.int 0) ∧ M' = M) ∧ (bxC t = false → (bxC2 t = true → v = some (.int 0) ∧ M' = M) ∧ (bxC2 t = false → v = some (.int 1) ∧ But [14, 15] M M' ∧
      M'.2.2 14 = aI 0 3 (upd (upd (upd F 0 (t / 1000000)) 1 (dg t 10000)) 2 (dg t 100)) ∧ M'.2.2 15 = aI 0 3 (upd (upd (upd T 0 (dg t 100000)) 1 (dg t 1000)) 2 (dg t 10)))) := by
  refine wF_run ⟨rfl, Nat.le_of_ble_eq_true rfl, wS_seq (wS_if (wC_p (v := bxC t) ?_ ⟨fun hr => wS_retZ (wI_cI ⟨Or.inl rfl, fun q => absurd q (by decide), fun _ => ⟨rfl, fun _ => ⟨rfl, rfl⟩, fun q => absurd (hr.symm.trans q) (by decide)⟩⟩), fun hr => wS_nop ⟨fun _ => ?_, fun q => absurd rfl q⟩⟩))⟩
  · (repeat' (first | exact pI_cI | exact pI_lI rfl | exact pA_lA rfl | exact pR_0 | refine pR_I ?_ ?_ | refine pR_A ?_ ?_ | refine pC_kI ?_ ?_ | refine pC_or ?_ ?_ | refine pC_and ?_ ?_ | refine pC_not ?_ | refine pC_isN ?_ | refine pC_notN ?_ | refine pI_add ?_ ?_ | refine pI_sub ?_ ?_ | refine pI_mul ?_ ?_ | refine pI_div ?_ ?_ (by decide) | refine pI_rem ?_ ?_ (by decide) | refine pI_zI ?_ | refine pI_tI ?_ ?_ ?_ | refine pI_fI ?_ (by (repeat' (first | exact get_at | exact new_at | assumption | refine (get_ne (by first | assumption | decide | omega)).trans ?_ | refine (new_ne (by simp only [set_1, new_1]; omega)).trans ?_ | fail))) rfl | refine pA_fA ?_ (by (repeat' (first | exact get_at | exact new_at | assumption | refine (get_ne (by first | assumption | decide | omega)).trans ?_ | refine (new_ne (by simp only [set_1, new_1]; omega)).trans ?_ | fail))) rfl | fail))
  refine wS_seq (wS_setK rfl (wI_p (v := t / 1000000) (pI_div (pI_lI rfl) pI_cI (by decide)) ⟨fun _ => ?_, fun q => absurd rfl q⟩))
  refine wS_seq (wS_setK rfl (wI_p (v := dg t 100000) (pI_dg rfl (by decide)) ⟨fun _ => ?_, fun q => absurd rfl q⟩))
  refine wS_seq (wS_setK rfl (wI_p (v := dg t 10000) (pI_dg rfl (by decide)) ⟨fun _ => ?_, fun q => absurd rfl q⟩))
  refine wS_seq (wS_setK rfl (wI_p (v := dg t 1000) (pI_dg rfl (by decide)) ⟨fun _ => ?_, fun q => absurd rfl q⟩))
  refine wS_seq (wS_setK rfl (wI_p (v := dg t 100) (pI_dg rfl (by decide)) ⟨fun _ => ?_, fun q => absurd rfl q⟩))
  refine wS_seq (wS_setK rfl (wI_p (v := dg t 10) (pI_dg rfl (by decide)) ⟨fun _ => ?_, fun q => absurd rfl q⟩))
  refine wS_seq (wS_if (wC_p (v := bxC2 t) ?_ ⟨fun hr2 => wS_retZ (wI_cI ⟨Or.inl rfl, fun q => absurd q (by decide), fun _ => ⟨rfl, fun q => absurd (hr.symm.trans q) (by decide), fun _ => ⟨fun _ => ⟨rfl, rfl⟩, fun q => absurd (hr2.symm.trans q) (by decide)⟩⟩⟩), fun hr2 => wS_nop ⟨fun _ => ?_, fun q => absurd rfl q⟩⟩))
  · exact pC_or (pC_or (pC_kI (pI_lI rfl) (pI_lI rfl)) (pC_kI (pI_lI rfl) (pI_lI rfl))) (pC_kI (pI_lI rfl) (pI_lI rfl))
  refine wS_seq (wS_put3 0 rfl rfl (by (repeat' (first | exact get_at | exact new_at | assumption | refine (get_ne (by first | assumption | decide | omega)).trans ?_ | refine (new_ne (by simp only [set_1, new_1]; omega)).trans ?_ | fail))) rfl rfl (by (repeat' (first | exact get_at | exact new_at | assumption | refine (get_ne (by first | assumption | decide | omega)).trans ?_ | refine (new_ne (by simp only [set_1, new_1]; omega)).trans ?_ | fail))) (by decide) (by decide) ⟨fun _ => ?_, fun q => absurd rfl q⟩)
  refine wS_seq (wS_put3 0 rfl rfl (by (repeat' (first | exact get_at | exact new_at | assumption | refine (get_ne (by first | assumption | decide | omega)).trans ?_ | refine (new_ne (by simp only [set_1, new_1]; omega)).trans ?_ | fail))) rfl rfl (by (repeat' (first | exact get_at | exact new_at | assumption | refine (get_ne (by first | assumption | decide | omega)).trans ?_ | refine (new_ne (by simp only [set_1, new_1]; omega)).trans ?_ | fail))) (by decide) (by decide) ⟨fun _ => ?_, fun q => absurd rfl q⟩)
  refine wS_seq (wS_put3 1 rfl rfl (by (repeat' (first | exact get_at | exact new_at | assumption | refine (get_ne (by first | assumption | decide | omega)).trans ?_ | refine (new_ne (by simp only [set_1, new_1]; omega)).trans ?_ | fail))) rfl rfl (by (repeat' (first | exact get_at | exact new_at | assumption | refine (get_ne (by first | assumption | decide | omega)).trans ?_ | refine (new_ne (by simp only [set_1, new_1]; omega)).trans ?_ | fail))) (by decide) (by decide) ⟨fun _ => ?_, fun q => absurd rfl q⟩)
  refine wS_seq (wS_put3 1 rfl rfl (by (repeat' (first | exact get_at | exact new_at | assumption | refine (get_ne (by first | assumption | decide | omega)).trans ?_ | refine (new_ne (by simp only [set_1, new_1]; omega)).trans ?_ | fail))) rfl rfl (by (repeat' (first | exact get_at | exact new_at | assumption | refine (get_ne (by first | assumption | decide | omega)).trans ?_ | refine (new_ne (by simp only [set_1, new_1]; omega)).trans ?_ | fail))) (by decide) (by decide) ⟨fun _ => ?_, fun q => absurd rfl q⟩)
  refine wS_seq (wS_put3 2 rfl rfl (by (repeat' (first | exact get_at | exact new_at | assumption | refine (get_ne (by first | assumption | decide | omega)).trans ?_ | refine (new_ne (by simp only [set_1, new_1]; omega)).trans ?_ | fail))) rfl rfl (by (repeat' (first | exact get_at | exact new_at | assumption | refine (get_ne (by first | assumption | decide | omega)).trans ?_ | refine (new_ne (by simp only [set_1, new_1]; omega)).trans ?_ | fail))) (by decide) (by decide) ⟨fun _ => ?_, fun q => absurd rfl q⟩)
  refine wS_seq (wS_put3 2 rfl rfl (by (repeat' (first | exact get_at | exact new_at | assumption | refine (get_ne (by first | assumption | decide | omega)).trans ?_ | refine (new_ne (by simp only [set_1, new_1]; omega)).trans ?_ | fail))) rfl rfl (by (repeat' (first | exact get_at | exact new_at | assumption | refine (get_ne (by first | assumption | decide | omega)).trans ?_ | refine (new_ne (by simp only [set_1, new_1]; omega)).trans ?_ | fail))) (by decide) (by decide) ⟨fun _ => ?_, fun q => absurd rfl q⟩)
  exact wS_retZ (wI_cI ⟨Or.inr rfl, rfl, fun q => absurd (hr.symm.trans q) (by decide), fun _ => ⟨fun q => absurd (hr2.symm.trans q) (by decide), fun _ => ⟨rfl, (((((But.rf.set (by decide)).set (by decide)).set (by decide)).set (by decide)).set (by decide)).set (by decide), by (repeat' (first | exact get_at | exact new_at | assumption | refine (get_ne (by first | assumption | decide | omega)).trans ?_ | refine (new_ne (by simp only [set_1, new_1]; omega)).trans ?_ | fail)), by (repeat' (first | exact get_at | exact new_at | assumption | refine (get_ne (by first | assumption | decide | omega)).trans ?_ | refine (new_ne (by simp only [set_1, new_1]; omega)).trans ?_ | fail))⟩⟩⟩)
