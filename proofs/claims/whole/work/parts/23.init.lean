/-! the constructors. HL: what a constructor has done so far: its object at a holds o, the cells made since are as g tells, all cells below M0's end but a are as in M0; n cells and z slots are made by now -/
def HL (M0 : Mm) (a : Nat) (o : MC) (g : Nat → MC) (n z : Nat) (M : Mm) : Prop := M.1 = n ∧ M.2.1 = z ∧ M.2.2 a = o ∧ a < M0.1 ∧ M0.1 ≤ n ∧ (∀ b, M0.1 ≤ b → b < n → M.2.2 b = g b) ∧ ∀ b, b < M0.1 → b ≠ a → M.2.2 b = M0.2.2 b
def gU (b : Nat) (x : MC) (g : Nat → MC) : Nat → MC := fun c => if c = b then x else g c
/-- the cells of an inner object: its own at n, those above, those below -/
def gI2 (n : Nat) (o : MC) (g' g : Nat → MC) : Nat → MC := fun c => if c < n then g c else if c = n then o else g' c
theorem gU_at {b : Nat} {x : MC} {g : Nat → MC} : gU b x g b = x := if_pos rfl
theorem gU_ne {b c : Nat} {x : MC} {g : Nat → MC} (h : c ≠ b) : gU b x g c = g c := if_neg h
theorem HL.start {M : Mm} {a : Nat} {o : MC} (h : M.2.2 a = o) (ha : a < M.1) : HL M a o (fun _ => junk) M.1 M.2.1 M := ⟨rfl, rfl, h, ha, Nat.le_refl _, fun b h1 h2 => absurd h1 (by omega), fun _ _ _ => rfl⟩
theorem HL.grow {M0 M : Mm} {a n z k : Nat} {o o' x : MC} {g : Nat → MC} (h : HL M0 a o g n z M) : HL M0 a o' (gU n x g) (n + 1) (z + k) (setC (newC M k x) a o') := by
  obtain ⟨h1, h2, h3, h4, h5, h6, h7⟩ := h
  have ha : a < M.1 := by omega
  refine ⟨by rw [set_1, new_1, h1], by rw [set_2, new_2, h2], get_at, h4, by omega, fun b hb hlt => ?_, fun b hb hn => ?_⟩
  · rw [get_ne (by omega)]
    by_cases e : b = n
    · subst e
      rw [gU_at]
      show (newC M k x).2.2 b = x
      rw [← h1]
      exact new_at
    · rw [gU_ne e, new_ne (by omega)]
      exact h6 b hb (by omega)
  · rw [get_ne hn, new_ne (by omega)]
    exact h7 b hb hn
theorem HL.put {M0 M : Mm} {a n z : Nat} {o o' : MC} {g : Nat → MC} (h : HL M0 a o g n z M) : HL M0 a o' g n z (setC M a o') := by
  obtain ⟨h1, h2, h3, h4, h5, h6, h7⟩ := h
  exact ⟨h1, h2, get_at, h4, h5, fun b hb hlt => by rw [get_ne (by omega)]; exact h6 b hb hlt, fun b hb hn => by rw [get_ne hn]; exact h7 b hb hn⟩
theorem HL.upd {M0 M : Mm} {a n z c : Nat} {o y : MC} {g : Nat → MC} (h : HL M0 a o g n z M) (hc : M0.1 ≤ c) : HL M0 a o (gU c y g) n z (setC M c y) := by
  obtain ⟨h1, h2, h3, h4, h5, h6, h7⟩ := h
  refine ⟨h1, h2, by rw [get_ne (by omega)]; exact h3, h4, h5, fun b hb hlt => ?_, fun b hb hn => by rw [get_ne (by omega)]; exact h7 b hb hn⟩
  by_cases e : b = c
  · subst e
    rw [get_at, gU_at]
  · rw [get_ne e, gU_ne e]
    exact h6 b hb hlt
theorem HL.at {M0 M : Mm} {a n z b : Nat} {o : MC} {g : Nat → MC} (h : HL M0 a o g n z M) (hb : M0.1 ≤ b) (hlt : b < n) : M.2.2 b = g b := h.2.2.2.2.2.1 b hb hlt
/-- an inner object made and built: then it is one of the cells -/
theorem HL.inner {M0 M M' : Mm} {a n z k n' z' : Nat} {o x o1 : MC} {g g' : Nat → MC} (h : HL M0 a o g n z M) (h' : HL (newC M k x) n o1 g' n' z' M') : HL M0 a o (gI2 n o1 g' g) n' z' M' := by
  obtain ⟨h1, h2, h3, h4, h5, h6, h7⟩ := h
  obtain ⟨k1, k2, k3, k4, k5, k6, k7⟩ := h'
  rw [new_1] at k4 k5 k6 k7
  have low : ∀ b, b < n → M'.2.2 b = M.2.2 b := fun b hb => by rw [k7 b (by omega) (by omega), new_ne (by omega)]
  refine ⟨k1, k2, by rw [low a (by omega)]; exact h3, h4, by omega, fun b hb hlt => ?_, fun b hb hn => by rw [low b (by omega)]; exact h7 b hb hn⟩
  unfold gI2
  by_cases e : b < n
  · rw [if_pos e, low b e]
    exact h6 b hb e
  · rw [if_neg e]
    by_cases e2 : b = n
    · rw [if_pos e2, e2]
      exact k3
    · rw [if_neg e2]
      exact k6 b (by omega) hlt
section WPI
variable {L : Lv} {M M0 : Mm}
theorem wS_pfNewI {a ci k t n z : Nat} {v : Int32} {fs : List Value} {g : Nat → MC} {Q : Lv → Mm → Nat → Option Value → Prop} (hL : lkp L 0 = some (.ref a)) (h : HL M0 a (.inr (ci, fs)) g n z M) (hk : k < fs.length) (hv : 0 ≤ v.toInt ∧ v.toInt ≤ 100000)
    (kk : ∀ M', HL M0 a (.inr (ci, fs.set k (.ref n))) (gU n (.inl (t, v.toNatClampNeg, .inl fun _ => 0)) g) (n + 1) (z + v.toNatClampNeg) M' → Q L M' 0 none) : wS (pfA ci k (lA 0) (newI t (cI v))) L M Q := by
  refine wS_pfA (wA_lA hL rfl ⟨a, rfl, wA_newI (wI_cI ⟨hv, setC (newC M v.toNatClampNeg (.inl (t, v.toNatClampNeg, .inl fun _ => 0))) a (.inr (ci, fs.set k (.ref n))), ?_, kk _ h.grow⟩)⟩)
  have hM := h.2.2.1
  have hlt : a < M.1 := by have := h.1; have := h.2.2.2.1; have := h.2.2.2.2.1; omega
  rw [wrF_of (fs := fs) ((new_ne (by omega)).trans hM) hk, h.1]
  rfl
theorem wS_pfNewA {a ci k t n z : Nat} {v : Int32} {fs : List Value} {g : Nat → MC} {Q : Lv → Mm → Nat → Option Value → Prop} (hL : lkp L 0 = some (.ref a)) (h : HL M0 a (.inr (ci, fs)) g n z M) (hk : k < fs.length) (hv : 0 ≤ v.toInt ∧ v.toInt ≤ 100000)
    (kk : ∀ M', HL M0 a (.inr (ci, fs.set k (.ref n))) (gU n (.inl (t, v.toNatClampNeg, .inr (.inr (.inr (.inr fun _ => none))))) g) (n + 1) (z + v.toNatClampNeg) M' → Q L M' 0 none) : wS (pfA ci k (lA 0) (newA t (cI v))) L M Q := by
  refine wS_pfA (wA_lA hL rfl ⟨a, rfl, wA_newA (wI_cI ⟨hv, setC (newC M v.toNatClampNeg (.inl (t, v.toNatClampNeg, .inr (.inr (.inr (.inr fun _ => none)))))) a (.inr (ci, fs.set k (.ref n))), ?_, kk _ h.grow⟩)⟩)
  have hM := h.2.2.1
  have hlt : a < M.1 := by have := h.1; have := h.2.2.2.1; have := h.2.2.2.2.1; omega
  rw [wrF_of (fs := fs) ((new_ne (by omega)).trans hM) hk, h.1]
  rfl
/-- a constructor's contract: its object's fields at the end, the cells that it makes -/
def CS (f : FN) (ci : Nat) (fs0 : List Value) (vs : List Value) (fs : Nat → List Value) (g : Nat → Nat → MC) (n z : Nat) : Prop := ∀ (M : Mm) (a : Nat), M.2.2 a = .inr (ci, fs0) → a < M.1 → 5 ≤ a → wF f (.ref a :: vs) M fun v M' => v = none ∧ HL M a (.inr (ci, fs M.1)) (g M.1) (M.1 + n) (M.2.1 + z) M'
theorem wS_pfNewO {a ci k c2 N n z n2 z2 : Nat} {f : FN} {fs fs0 : List Value} {fs2 : Nat → List Value} {g : Nat → MC} {g2 : Nat → Nat → MC} {Q : Lv → Mm → Nat → Option Value → Prop} (hL : lkp L 0 = some (.ref a)) (h : HL M0 a (.inr (ci, fs)) g n z M) (h5 : 5 ≤ n) (hf : CS f c2 fs0 [] fs2 g2 n2 z2) (hk : k < fs.length)
    (kk : ∀ M', HL M0 a (.inr (ci, fs.set k (.ref n))) (gI2 n (.inr (c2, fs2 (n + 1))) (g2 (n + 1)) g) (n + 1 + n2) (z + N + z2) M' → Q L M' 0 none) : wS (pfA ci k (lA 0) (newO c2 N fs0 f (r0))) L M Q := by
  refine wS_pfA (wA_lA hL rfl ⟨a, rfl, wA_newO (wR_0 ?_)⟩)
  have e1 : M.1 = n := h.1
  have e2 : M.2.1 = z := h.2.1
  refine (hf (newC M N (.inr (c2, fs0))) M.1 new_at (by rw [new_1]; omega) (by omega)).mono ?_
  rintro v M' ⟨rfl, hh⟩
  rw [new_1, new_2, e1, e2] at hh
  have h9 := h.inner hh
  refine ⟨rfl, setC M' a (.inr (ci, fs.set k (.ref n))), ?_, kk _ h9.put⟩
  rw [wrF_of (fs := fs) h9.2.2.1 hk, e1]
  rfl
end WPI
theorem cs_X5 : CS F_X5_init 5 D_X5 [] (fun _ => D_X5) (fun _ _ => junk) 0 0 := by
  intro M a ha h h5
  refine wF_run ⟨rfl, Nat.le_of_ble_eq_true rfl, ?_⟩
  refine wS_seq (wS_sup (wA_lA rfl rfl ⟨_, rfl, fun _ => ?_, fun q => absurd rfl q⟩))
  exact wS_retV ⟨rfl, rfl, HL.start ha h⟩
theorem cs_X2 : CS F_X2_init 2 D_X2 [] (fun n => [.ref n, .ref (n + 1), .ref (n + 2), .ref (n + 3), .ref (n + 4), .int 0])
    (fun n => gU (n + 4) (.inl (1, 31, .inl fun _ => 0)) (gU (n + 3) (.inl (0, 31, .inl fun _ => 0)) (gU (n + 2) (.inl (0, 31, .inl fun _ => 0)) (gU (n + 1) (.inl (0, 31, .inl fun _ => 0)) (gU n (.inl (0, 31, .inl fun _ => 0)) (fun _ => junk)))))) 5 155 := by
  intro M a ha h h5
  refine wF_run ⟨rfl, Nat.le_of_ble_eq_true rfl, ?_⟩
  refine wS_seq (wS_sup (wA_lA rfl rfl ⟨_, rfl, fun _ => ?_, fun q => absurd rfl q⟩))
  refine wS_seq (wS_pfNewI rfl (HL.start ha h) (Nat.le_of_ble_eq_true rfl) (by decide) fun M1 h1 => ⟨fun _ => ?_, fun q => absurd rfl q⟩)
  refine wS_seq (wS_pfNewI rfl h1 (Nat.le_of_ble_eq_true rfl) (by decide) fun M2 h2 => ⟨fun _ => ?_, fun q => absurd rfl q⟩)
  refine wS_seq (wS_pfNewI rfl h2 (Nat.le_of_ble_eq_true rfl) (by decide) fun M3 h3 => ⟨fun _ => ?_, fun q => absurd rfl q⟩)
  refine wS_seq (wS_pfNewI rfl h3 (Nat.le_of_ble_eq_true rfl) (by decide) fun M4 h4 => ⟨fun _ => ?_, fun q => absurd rfl q⟩)
  refine wS_seq (wS_pfNewI rfl h4 (Nat.le_of_ble_eq_true rfl) (by decide) fun M5 h5 => ⟨fun _ => ?_, fun q => absurd rfl q⟩)
  exact wS_retV ⟨rfl, rfl, h5⟩
theorem cs_X1 : CS F_X1_init 1 D_X1 [] (fun n => [.ref n, .ref (n + 1), .int 0]) (fun n => gU (n + 1) (.inl (0, 1000, .inl fun _ => 0)) (gU n (.inl (0, 1000, .inl fun _ => 0)) (fun _ => junk))) 2 2000 := by
  intro M a ha h h5
  refine wF_run ⟨rfl, Nat.le_of_ble_eq_true rfl, ?_⟩
  refine wS_seq (wS_sup (wA_lA rfl rfl ⟨_, rfl, fun _ => ?_, fun q => absurd rfl q⟩))
  refine wS_seq (wS_pfNewI rfl (HL.start ha h) (Nat.le_of_ble_eq_true rfl) (by decide) fun M1 h1 => ⟨fun _ => ?_, fun q => absurd rfl q⟩)
  refine wS_seq (wS_pfNewI rfl h1 (Nat.le_of_ble_eq_true rfl) (by decide) fun M2 h2 => ⟨fun _ => ?_, fun q => absurd rfl q⟩)
  exact wS_retV ⟨rfl, rfl, h2⟩
theorem cs_X9 : CS F_X9_init 8 D_X9 [] (fun n => [.ref n, .ref (n + 1), .int 0]) (fun n => gU (n + 1) (.inl (0, 1000, .inl fun _ => 0)) (gU n (.inl (0, 1000, .inl fun _ => 0)) (fun _ => junk))) 2 2000 := by
  intro M a ha h h5
  refine wF_run ⟨rfl, Nat.le_of_ble_eq_true rfl, ?_⟩
  refine wS_seq (wS_sup (wA_lA rfl rfl ⟨_, rfl, fun _ => ?_, fun q => absurd rfl q⟩))
  refine wS_seq (wS_pfNewI rfl (HL.start ha h) (Nat.le_of_ble_eq_true rfl) (by decide) fun M1 h1 => ⟨fun _ => ?_, fun q => absurd rfl q⟩)
  refine wS_seq (wS_pfNewI rfl h1 (Nat.le_of_ble_eq_true rfl) (by decide) fun M2 h2 => ⟨fun _ => ?_, fun q => absurd rfl q⟩)
  exact wS_retV ⟨rfl, rfl, h2⟩
theorem cs_X3 : CS F_X3_init 3 D_X3 [] (fun n => [.ref n]) (fun n => gU n (.inl (0, 1000, .inl fun _ => 0)) (fun _ => junk)) 1 1000 := by
  intro M a ha h h5
  refine wF_run ⟨rfl, Nat.le_of_ble_eq_true rfl, ?_⟩
  refine wS_seq (wS_sup (wA_lA rfl rfl ⟨_, rfl, fun _ => ?_, fun q => absurd rfl q⟩))
  refine wS_seq (wS_pfNewI rfl (HL.start ha h) (Nat.le_of_ble_eq_true rfl) (by decide) fun M1 h1 => ⟨fun _ => ?_, fun q => absurd rfl q⟩)
  exact wS_retV ⟨rfl, rfl, h1⟩
theorem cs_X6 : CS F_X6_init 6 D_X6 [] (fun n => [.ref n, .ref (n + 1), .ref (n + 2), .ref (n + 3), .int 0])
    (fun n => gU (n + 3) (.inl (0, 1000, .inl fun _ => 0)) (gU (n + 2) (.inl (0, 1001, .inl fun _ => 0)) (gU (n + 1) (.inl (0, 1000, .inl fun _ => 0)) (gU n (.inl (0, 1000, .inl fun _ => 0)) (fun _ => junk))))) 4 4001 := by
  intro M a ha h h5
  refine wF_run ⟨rfl, Nat.le_of_ble_eq_true rfl, ?_⟩
  refine wS_seq (wS_sup (wA_lA rfl rfl ⟨_, rfl, fun _ => ?_, fun q => absurd rfl q⟩))
  refine wS_seq (wS_pfNewI rfl (HL.start ha h) (Nat.le_of_ble_eq_true rfl) (by decide) fun M1 h1 => ⟨fun _ => ?_, fun q => absurd rfl q⟩)
  refine wS_seq (wS_pfNewI rfl h1 (Nat.le_of_ble_eq_true rfl) (by decide) fun M2 h2 => ⟨fun _ => ?_, fun q => absurd rfl q⟩)
  refine wS_seq (wS_pfNewI rfl h2 (Nat.le_of_ble_eq_true rfl) (by decide) fun M3 h3 => ⟨fun _ => ?_, fun q => absurd rfl q⟩)
  refine wS_seq (wS_pfNewI rfl h3 (Nat.le_of_ble_eq_true rfl) (by decide) fun M4 h4 => ⟨fun _ => ?_, fun q => absurd rfl q⟩)
  exact wS_retV ⟨rfl, rfl, h4⟩
theorem sp_yard0 {M : Mm} {a led : Nat} (ha : M.2.2 a = .inr (9, [.null, .null])) (h : a < M.1) : F_X10_init [.ref a, .ref led] M = some (none, setC (setC (newC M 10 (.inl (4, 10, .inr (.inr (.inr (.inr fun _ => none)))))) a (.inr (9, [.null, .ref M.1]))) a (.inr (9, [.ref led, .ref M.1]))) := by
  apply wF_eq
  (repeat' (first | refine wS_seq ?_ | refine wS_if ?_ | refine wS_scp ?_ | refine wS_setI ?_ | refine wS_setA ?_ | refine wS_setJ ?_ | refine wS_retI ?_ | refine wS_retZ ?_ | refine wS_retA ?_ | refine wS_retV ?_ | refine wS_nop ?_ | refine wS_brk ?_ | refine wS_cnt ?_ | refine wS_pfI ?_ | refine wS_pfA ?_ | refine wS_upAdd ?_ | refine wS_upSub ?_ | refine wS_paI ?_ | refine wS_paA ?_ | refine wS_exV ?_ | refine wS_exP ?_ | refine wS_sup ?_ | refine wS_inc rfl rfl ?_ | refine wI_cI ?_ | refine wI_lI rfl rfl ?_ | refine wI_add ?_ | refine wI_sub ?_ | refine wI_mul ?_ | refine wI_and ?_ | refine wI_div ?_ | refine wI_rem ?_ | refine wI_max ?_ | refine wI_min ?_ | refine wI_neg ?_ | refine wI_fI ?_ | refine wI_gI ?_ | refine wI_nA ?_ | refine wI_vI ?_ | refine wI_tI ?_ | refine wI_zI ?_ | refine wA_newO ?_ | refine wA_newI ?_ | refine wA_newA ?_ | refine wA_newJ ?_ | refine wA_litE ?_ | refine wA_lA rfl rfl ?_ | refine wA_lA rfl (asA_of _) ?_ | refine wA_cN ?_ | refine wA_cS ?_ | refine wA_fA ?_ | refine wA_gA ?_ | refine wA_vA ?_ | refine wA_tA ?_ | refine wJ_cJ ?_ | refine wJ_lJ rfl rfl ?_ | refine wJ_iJ ?_ | refine wJ_add ?_ | refine wJ_mul ?_ | refine wJ_gJ ?_ | refine wC_kI ?_ | refine wC_kJ ?_ | refine wC_isN ?_ | refine wC_notN ?_ | refine wC_eqA ?_ | refine wC_and ?_ | refine wC_or ?_ | refine wC_not ?_ | refine wR_0 ?_ | refine wR_I ?_ | refine wR_A ?_ | refine wV_S ?_ | refine wV_V ⟨isR_of (by assumption), ?_⟩ | refine wV_V ?_ | refine wF_run ⟨rfl, Nat.le_of_ble_eq_true rfl, ?_⟩ | refine ⟨fun _ => ?_, fun hq => absurd rfl hq⟩ | refine ⟨fun hq => absurd hq (by decide), fun _ => ?_⟩ | refine ⟨_, _, _, rfl, rdF_of (by assumption) rfl, rfl, ?_⟩ | refine ⟨_, _, _, rfl, rdF_of (by assumption) rfl, asA_of _, ?_⟩ | refine ⟨_, _, rfl, lenA_of (by assumption) (by decide), ?_⟩ | refine ⟨_, _, rfl, rfl, ?_⟩ | refine ⟨_, _, rfl, asA_of _, ?_⟩ | refine ⟨_, rfl, ?_⟩ | refine ⟨rfl, ?_⟩ | refine ⟨by decide, ?_⟩ | refine ⟨z01 _, ?_⟩ | refine ⟨Or.inl rfl, ?_⟩ | refine ⟨Or.inr rfl, ?_⟩ | refine ⟨_, _, _, rfl, rdF_of (by (repeat' (first | exact get_at | exact new_at | assumption | refine (get_ne (by first | assumption | decide | omega)).trans ?_ | refine (new_ne (by simp only [set_1, new_1]; omega)).trans ?_ | fail))) rfl, rfl, ?_⟩ | refine ⟨_, _, _, rfl, rdF_of (by (repeat' (first | exact get_at | exact new_at | assumption | refine (get_ne (by first | assumption | decide | omega)).trans ?_ | refine (new_ne (by simp only [set_1, new_1]; omega)).trans ?_ | fail))) rfl, asA_of _, ?_⟩ | refine ⟨_, wrF_of (by (repeat' (first | exact get_at | exact new_at | assumption | refine (get_ne (by first | assumption | decide | omega)).trans ?_ | refine (new_ne (by simp only [set_1, new_1]; omega)).trans ?_ | fail))) (Nat.le_of_ble_eq_true rfl), ?_⟩ | refine ⟨_, wrI_of (by (repeat' (first | exact get_at | exact new_at | assumption | refine (get_ne (by first | assumption | decide | omega)).trans ?_ | refine (new_ne (by simp only [set_1, new_1]; omega)).trans ?_ | fail))) (by omega) (by decide), ?_⟩ | refine ⟨⟨by decide, by decide⟩, ?_⟩ | refine ⟨fun hb => ?_, fun hb => ?_⟩ | fail))
  all_goals rfl
theorem cs_X10 (led : Nat) : CS F_X10_init 9 D_X10 [.ref led] (fun n => [.ref led, .ref n]) (fun n => gU n (.inl (4, 10, .inr (.inr (.inr (.inr fun _ => none))))) (fun _ => junk)) 1 10 := by
  intro M a ha h h5
  refine wF_of (sp_yard0 ha h) ⟨rfl, ?_⟩
  exact ((HL.start ha h).grow).put
