/-! the class's own constructor -/
abbrev aR (t n : Nat) (f : Nat → Option Nat) : MC := .inl (t, n, .inr (.inr (.inr (.inr f))))
abbrev aI (t n : Nat) (f : Nat → Int32) : MC := .inl (t, n, .inl f)
theorem set_new {M : Mm} {k : Nat} {x y : MC} : setC (newC M k x) M.1 y = newC M k y := by
  unfold setC newC
  congr 2
  funext b
  by_cases e : b = M.1 <;> simp [e]
theorem gI2_lt {n c : Nat} {o : MC} {g' g : Nat → MC} (h : c < n) : gI2 n o g' g c = g c := if_pos h
section WPI2
variable {L : Lv} {M M0 : Mm}
abbrev arr3 (x y w : Int32) : Nat → Int32 := upd (upd (upd (fun _ => 0) 0 x) 1 y) 2 w
theorem wA_lit3 {x y w : Int32} {Q : Option Nat → Mm → Prop} (h5 : 5 ≤ M.1) (k : Q (some M.1) (newC M 3 (aI 0 3 (arr3 x y w)))) : wA (litE (litE (litE (newI 0 (cI 3)) (cI 0) (cI x)) (cI 1) (cI y)) (cI 2) (cI w)) L M Q := by
  refine wA_litE (wA_litE (wA_litE (wA_newI (wI_cI ⟨⟨by decide, by decide⟩, M.1, rfl, wI_cI (wI_cI ⟨newC M 3 (aI 0 3 (upd (fun _ => 0) 0 x)), ?_, M.1, rfl, wI_cI (wI_cI ⟨newC M 3 (aI 0 3 (upd (upd (fun _ => 0) 0 x) 1 y)), ?_, M.1, rfl, wI_cI (wI_cI ⟨_, ?_, k⟩)⟩)⟩)⟩))))
  · refine (wrI_of (n := 3) (f := fun _ => 0) new_at h5 (by decide)).trans ?_
    exact congrArg some set_new
  · rw [wrI_of (n := 3) new_at h5 (by decide)]
    exact congrArg some set_new
  · rw [wrI_of (n := 3) new_at h5 (by decide)]
    exact congrArg some set_new
theorem wS_pfLit {a ci k n z : Nat} {x y w : Int32} {fs : List Value} {g : Nat → MC} {Q : Lv → Mm → Nat → Option Value → Prop} (hL : lkp L 0 = some (.ref a)) (h : HL M0 a (.inr (ci, fs)) g n z M) (h5 : 5 ≤ n) (hk : k < fs.length)
    (kk : ∀ M', HL M0 a (.inr (ci, fs.set k (.ref n))) (gU n (aI 0 3 (arr3 x y w)) g) (n + 1) (z + 3) M' → Q L M' 0 none) : wS (pfA ci k (lA 0) (litE (litE (litE (newI 0 (cI 3)) (cI 0) (cI x)) (cI 1) (cI y)) (cI 2) (cI w))) L M Q := by
  have e1 : M.1 = n := h.1
  refine wS_pfA (wA_lA hL rfl ⟨a, rfl, wA_lit3 (by omega) ⟨setC (newC M 3 (aI 0 3 (arr3 x y w))) a (.inr (ci, fs.set k (.ref n))), ?_, kk _ h.grow⟩⟩)
  have hM := h.2.2.1
  have hlt : a < M.1 := by have := h.2.2.2.1; have := h.2.2.2.2.1; omega
  rw [wrF_of (fs := fs) ((new_ne (by omega)).trans hM) hk, e1]
  rfl
/-- the loop that fills an array with yards -/
theorem wS_yards {K A N z : Nat} {n : Int32} {fs : List Value} {g : Nat → MC} {Q : Lv → Mm → Nat → Option Value → Prop} (hn : n = nI N) (hN : N ≤ 12) (hA : M0.1 ≤ A) (h6 : 6 ≤ M0.1) (h0 : HL M0 5 (.inr (10, fs)) g (A + 1) z M) (hK : fs[K]? = some (.ref A)) (hled : fs[0]? = some (.ref 6)) (hg : g A = aR 3 N fun _ => none)
    (kk : ∀ M' g', HL M0 5 (.inr (10, fs)) g' (A + 1 + 2 * N) (z + 12 * N) M' → (∀ b, b < A → g' b = g b) → g' A = aR 3 N (fun i => if i < N then some (A + 1 + 2 * i) else none) → (∀ i, i < N → g' (A + 1 + 2 * i) = .inr (9, [.ref 6, .ref (A + 2 + 2 * i)]) ∧ g' (A + 2 + 2 * i) = aR 4 10 fun _ => none) → Q [some (.ref 5), some (.int (nI N))] M' 0 none) :
    wS (whS (kI oLt (lI 1) (cI n)) (paA 3 (fA 10 K (lA 0)) (lI 1) (newO 9 2 D_X10 F_X10_init (rA (fA 10 0 (lA 0)) (r0)))) (incI 1 1)) [some (.ref 5), some (.int 0)] M Q := by
  refine wS_for N hn (by show N < 1000000; omega) (fun j L M => L = [some (.ref 5), some (.int (nI j))] ∧ ∃ g', HL M0 5 (.inr (10, fs)) g' (A + 1 + 2 * j) (z + 12 * j) M ∧ (∀ b, b < A → g' b = g b) ∧ g' A = aR 3 N (fun i => if i < j then some (A + 1 + 2 * i) else none) ∧
    ∀ i, i < j → g' (A + 1 + 2 * i) = .inr (9, [.ref 6, .ref (A + 2 + 2 * i)]) ∧ g' (A + 2 + 2 * i) = aR 4 10 fun _ => none) ?_ ?_ ?_ (j := 0) (Nat.zero_le _) ⟨rfl, g, h0, fun _ _ => rfl, hg, fun i hi => absurd hi (Nat.not_lt_zero _)⟩
  · rintro j L M ⟨rfl, -⟩
    rfl
  · rintro j L M hj ⟨rfl, g', h, hlow, harr, hyd⟩
    have e1 : M.1 = A + 1 + 2 * j := h.1
    have e2 : M.2.1 = z + 12 * j := h.2.1
    have hM : (newC M 2 (.inr (9, D_X10))).2.2 5 = .inr (10, fs) := (new_ne (by omega)).trans h.2.2.1
    refine wS_paA (wA_fA (wA_lA rfl rfl ⟨5, _, some A, rfl, rdF_of h.2.2.1 hK, rfl, A, rfl, wI_lI rfl rfl (wA_newO (wR_A (wA_fA (wA_lA rfl rfl ⟨5, _, some 6, rfl, rdF_of hM hled, rfl, wR_0 ?_⟩))))⟩))
    refine (cs_X10 6 (newC M 2 (.inr (9, D_X10))) M.1 new_at (by rw [new_1]; omega) (by omega)).mono ?_
    rintro v M2 ⟨rfl, hh⟩
    rw [new_1, new_2, e1, e2] at hh
    have h9 := h.inner hh
    have hA2 : M2.2.2 A = aR 3 N (fun i => if i < j then some (A + 1 + 2 * i) else none) := by
      rw [h9.at hA (by omega)]
      unfold gI2
      rw [if_pos (by omega), harr]
    have hn2 : M2.2.2 (A + 1 + 2 * j) = .inr (9, [.ref 6, .ref (A + 1 + 2 * j + 1)]) := by
      rw [h9.at (by omega) (by omega)]
      unfold gI2
      rw [if_neg (by omega), if_pos rfl]
    refine ⟨rfl, _, wrA_of hA2 (by omega) (inb_nI hj (by omega)) (isC_of (by rw [e1]; exact hn2)), fun q => absurd q (by decide), fun q => absurd q (by decide), fun _ _ => ⟨rfl, rfl, _, h9.upd hA, fun b hb => ?_, ?_, fun i hi => ?_⟩⟩
    · rw [gU_ne (by omega)]
      unfold gI2
      rw [if_pos (by omega)]
      exact hlow b hb
    · rw [gU_at, nI_clamp (by omega), e1]
      refine congrArg (fun f => aR 3 N f) ?_
      funext i
      unfold va_up
      by_cases e : i = j
      · subst e
        rw [if_pos rfl, if_pos (by omega)]
      · rw [if_neg e]
        by_cases e3 : i < j
        · show (if i < j then some (A + 1 + 2 * i) else none) = _
          rw [if_pos e3, if_pos (by omega)]
        · show (if i < j then some (A + 1 + 2 * i) else none) = _
          rw [if_neg e3, if_neg (by omega)]
    · rw [gU_ne (by omega), gU_ne (by omega)]
      unfold gI2
      by_cases e : i = j
      · subst e
        rw [if_neg (by omega), if_pos rfl, if_neg (by omega), if_neg (by omega)]
        refine ⟨by rw [show A + 2 + 2 * i = A + 1 + 2 * i + 1 by omega], ?_⟩
        show gU (A + 1 + 2 * i + 1) _ _ (A + 2 + 2 * i) = _
        rw [show A + 2 + 2 * i = A + 1 + 2 * i + 1 by omega, gU_at]
      · rw [if_pos (by omega), if_pos (by omega)]
        exact hyd i (by omega)
  · rintro L M ⟨rfl, g', h, hlow, harr, hyd⟩
    exact kk M g' h hlow harr hyd
end WPI2
theorem cs_X0 : CS F_X0_init 0 D_X0 [] (fun n => [.ref n, .ref (n + 1)]) (fun n => gU (n + 1) (aI 0 3 (arr3 9 9 9)) (gU n (aI 0 3 (arr3 0 0 0)) (fun _ => junk))) 2 6 := by
  intro M a ha h h5
  refine wF_run ⟨rfl, Nat.le_of_ble_eq_true rfl, ?_⟩
  refine wS_seq (wS_sup (wA_lA rfl rfl ⟨_, rfl, fun _ => ?_, fun q => absurd rfl q⟩))
  refine wS_seq (wS_pfLit rfl (HL.start ha h) (by omega) (Nat.le_of_ble_eq_true rfl) fun M1 h1 => ⟨fun _ => ?_, fun q => absurd rfl q⟩)
  refine wS_seq (wS_pfLit rfl h1 (by omega) (Nat.le_of_ble_eq_true rfl) fun M2 h2 => ⟨fun _ => ?_, fun q => absurd rfl q⟩)
  exact wS_retV ⟨rfl, rfl, h2⟩
/-- the class's object at 5, its cells from 6 to 68 -/
abbrev fsC : List Value := [.ref 6, .ref 7, .ref 13, .ref 16, .ref 25, .ref 50, .ref 51, .ref 54, .ref 57, .ref 62, .ref 64, .ref 67, .ref 68, .int 0]
/-- the class as it is at first -/
def C0 (M : Mm) : Prop := M.2.2 5 = .inr (10, fsC) ∧ M.2.2 6 = .inr (5, D_X5) ∧ M.2.2 7 = .inr (2, [.ref 8, .ref 9, .ref 10, .ref 11, .ref 12, .int 0]) ∧ (∀ i, i < 4 → M.2.2 (8 + i) = aI 0 31 fun _ => 0) ∧ M.2.2 12 = (aI 1 31 fun _ => 0) ∧
  M.2.2 13 = .inr (0, [.ref 14, .ref 15]) ∧ M.2.2 14 = aI 0 3 (arr3 0 0 0) ∧ M.2.2 15 = aI 0 3 (arr3 9 9 9) ∧
  M.2.2 16 = aR 3 4 (fun i => if i < 4 then some (17 + 2 * i) else none) ∧ (∀ i, i < 4 → M.2.2 (17 + 2 * i) = .inr (9, [.ref 6, .ref (18 + 2 * i)]) ∧ M.2.2 (18 + 2 * i) = aR 4 10 fun _ => none) ∧
  M.2.2 25 = aR 3 12 (fun i => if i < 12 then some (26 + 2 * i) else none) ∧ (∀ i, i < 12 → M.2.2 (26 + 2 * i) = .inr (9, [.ref 6, .ref (27 + 2 * i)]) ∧ M.2.2 (27 + 2 * i) = aR 4 10 fun _ => none) ∧
  M.2.2 50 = (aI 1 12 fun _ => 0) ∧ M.2.2 51 = .inr (1, [.ref 52, .ref 53, .int 0]) ∧ M.2.2 52 = (aI 0 1000 fun _ => 0) ∧ M.2.2 53 = (aI 0 1000 fun _ => 0) ∧ M.2.2 54 = .inr (1, [.ref 55, .ref 56, .int 0]) ∧ M.2.2 55 = (aI 0 1000 fun _ => 0) ∧ M.2.2 56 = (aI 0 1000 fun _ => 0) ∧
  M.2.2 57 = .inr (6, [.ref 58, .ref 59, .ref 60, .ref 61, .int 0]) ∧ M.2.2 58 = (aI 0 1000 fun _ => 0) ∧ M.2.2 59 = (aI 0 1000 fun _ => 0) ∧ M.2.2 60 = (aI 0 1001 fun _ => 0) ∧ M.2.2 61 = (aI 0 1000 fun _ => 0) ∧
  M.2.2 62 = .inr (3, [.ref 63]) ∧ M.2.2 63 = (aI 0 1000 fun _ => 0) ∧ M.2.2 64 = .inr (8, [.ref 65, .ref 66, .int 0]) ∧ M.2.2 65 = (aI 0 1000 fun _ => 0) ∧ M.2.2 66 = (aI 0 1000 fun _ => 0) ∧ M.2.2 67 = (aI 0 60 fun _ => 0) ∧ M.2.2 68 = (aI 0 60 fun _ => 0)
theorem init_class {M : Mm} (h1 : M.1 = 6) (h5 : M.2.2 5 = .inr (10, D_X11)) : wF F_X11_init [.ref 5] M fun v M' => v = none ∧ M'.1 = 69 ∧ M'.2.1 = M.2.1 + 11529 ∧ C0 M' ∧ ∀ b, b < 5 → M'.2.2 b = M.2.2 b := by
  refine wF_run ⟨rfl, Nat.le_of_ble_eq_true rfl, ?_⟩
  refine wS_seq (wS_sup (wA_lA rfl rfl ⟨_, rfl, fun _ => ?_, fun q => absurd rfl q⟩))
  have H0 := HL.start h5 (by omega)
  rw [h1] at H0
  refine wS_seq (wS_pfNewO rfl H0 (by decide) cs_X5 (Nat.le_of_ble_eq_true rfl) fun M1 H1 => ⟨fun _ => ?_, fun q => absurd rfl q⟩)
  refine wS_seq (wS_pfNewO rfl H1 (by decide) cs_X2 (Nat.le_of_ble_eq_true rfl) fun M2 H2 => ⟨fun _ => ?_, fun q => absurd rfl q⟩)
  refine wS_seq (wS_pfNewO rfl H2 (by decide) cs_X0 (Nat.le_of_ble_eq_true rfl) fun M3 H3 => ⟨fun _ => ?_, fun q => absurd rfl q⟩)
  refine wS_seq (wS_pfNewA rfl H3 (Nat.le_of_ble_eq_true rfl) (by decide) fun M4 H4 => ⟨fun _ => ?_, fun q => absurd rfl q⟩)
  refine wS_seq (wS_scp (wS_seq (wS_setI (wI_cI ⟨fun _ => ?_, fun q => absurd rfl q⟩))))
  refine wS_yards (N := 4) (A := 16) rfl (by decide) (by omega) (by omega) H4 rfl rfl rfl fun M5 g5 H5 l5 a5 y5 => ⟨fun _ => ?_, fun q => absurd rfl q⟩
  refine wS_seq (wS_pfNewA rfl H5 (Nat.le_of_ble_eq_true rfl) (by decide) fun M6 H6 => ⟨fun _ => ?_, fun q => absurd rfl q⟩)
  refine wS_seq (wS_scp (wS_seq (wS_setI (wI_cI ⟨fun _ => ?_, fun q => absurd rfl q⟩))))
  refine wS_yards (N := 12) (A := 25) rfl (by decide) (by omega) (by omega) H6 rfl rfl rfl fun M7 g7 H7 l7 a7 y7 => ⟨fun _ => ?_, fun q => absurd rfl q⟩
  refine wS_seq (wS_pfNewI rfl H7 (Nat.le_of_ble_eq_true rfl) (by decide) fun M8 H8 => ⟨fun _ => ?_, fun q => absurd rfl q⟩)
  refine wS_seq (wS_pfNewO rfl H8 (by decide) cs_X1 (Nat.le_of_ble_eq_true rfl) fun M9 H9 => ⟨fun _ => ?_, fun q => absurd rfl q⟩)
  refine wS_seq (wS_pfNewO rfl H9 (by decide) cs_X1 (Nat.le_of_ble_eq_true rfl) fun Ma Ha => ⟨fun _ => ?_, fun q => absurd rfl q⟩)
  refine wS_seq (wS_pfNewO rfl Ha (by decide) cs_X6 (Nat.le_of_ble_eq_true rfl) fun Mb Hb => ⟨fun _ => ?_, fun q => absurd rfl q⟩)
  refine wS_seq (wS_pfNewO rfl Hb (by decide) cs_X3 (Nat.le_of_ble_eq_true rfl) fun Mc Hc => ⟨fun _ => ?_, fun q => absurd rfl q⟩)
  refine wS_seq (wS_pfNewO rfl Hc (by decide) cs_X9 (Nat.le_of_ble_eq_true rfl) fun Md Hd => ⟨fun _ => ?_, fun q => absurd rfl q⟩)
  refine wS_seq (wS_pfNewI rfl Hd (Nat.le_of_ble_eq_true rfl) (by decide) fun Me He => ⟨fun _ => ?_, fun q => absurd rfl q⟩)
  refine wS_seq (wS_pfNewI rfl He (Nat.le_of_ble_eq_true rfl) (by decide) fun Mf Hf => ⟨fun _ => ?_, fun q => absurd rfl q⟩)
  have Hf2 := Hf.put (o' := .inr (10, fsC))
  refine wS_seq (wS_pfI (wA_lA rfl rfl ⟨5, rfl, wI_cI ⟨_, wrF_of Hf.2.2.1 (Nat.le_of_ble_eq_true rfl), fun _ => ?_, fun q => absurd rfl q⟩⟩))
  refine wS_retV ⟨rfl, rfl, Hf2.1, Hf2.2.1.trans ?_, ?_, fun b hb => Hf2.2.2.2.2.2.2 b (by omega) (by omega)⟩
  · show M.2.1 + 4 + 0 + 6 + 155 + 2 + 6 + 4 + 12 * 4 + 12 + 12 * 12 + 12 + 3 + 2000 + 3 + 2000 + 5 + 4001 + 1 + 1000 + 3 + 2000 + 60 + 60 = M.2.1 + 11529
    omega
  · have low : ∀ b, 6 ≤ b → b < 50 → (setC Mf 5 (.inr (10, fsC))).2.2 b = g7 b := fun b h1 h2 => by
      rw [Hf2.at (by omega) (by omega)]
      repeat (first | rw [gU_ne (by omega)] | rw [gI2_lt (by omega)])
    have low2 : ∀ b, b < 25 → g7 b = g5 b := fun b h => (l7 b h).trans (gU_ne (by omega))
    have low3 : ∀ b, 6 ≤ b → b < 16 → ∀ c, g5 b = c → (setC Mf 5 (.inr (10, fsC))).2.2 b = c := fun b h1 h2 c hc => (low b h1 (by omega)).trans ((low2 b (by omega)).trans hc)
    have hi : ∀ b, 6 ≤ b → b < 69 → ∀ c, _ = c → (setC Mf 5 (.inr (10, fsC))).2.2 b = c := fun b h1 h2 c hc => (Hf2.at (by omega) h2).trans hc
    refine ⟨Hf2.2.2.1, low3 6 (by decide) (by decide) _ ((l5 6 (by decide)).trans rfl), low3 7 (by decide) (by decide) _ ((l5 7 (by decide)).trans rfl), fun i hq => ?_, low3 12 (by decide) (by decide) _ ((l5 12 (by decide)).trans rfl), low3 13 (by decide) (by decide) _ ((l5 13 (by decide)).trans rfl), low3 14 (by decide) (by decide) _ ((l5 14 (by decide)).trans rfl), low3 15 (by decide) (by decide) _ ((l5 15 (by decide)).trans rfl),
      (low 16 (by decide) (by decide)).trans ((low2 16 (by decide)).trans a5), fun i hq => ⟨(low _ (by omega) (by omega)).trans ((low2 _ (by omega)).trans (y5 i hq).1), (low _ (by omega) (by omega)).trans ((low2 _ (by omega)).trans (y5 i hq).2)⟩,
      (low 25 (by decide) (by decide)).trans a7, fun i hq => ⟨(low _ (by omega) (by omega)).trans (y7 i hq).1, (low _ (by omega) (by omega)).trans (y7 i hq).2⟩, ?_⟩
    · rcases (show i = 0 ∨ i = 1 ∨ i = 2 ∨ i = 3 by omega) with rfl | rfl | rfl | rfl
      · exact low3 8 (by decide) (by decide) _ ((l5 8 (by decide)).trans rfl)
      · exact low3 9 (by decide) (by decide) _ ((l5 9 (by decide)).trans rfl)
      · exact low3 10 (by decide) (by decide) _ ((l5 10 (by decide)).trans rfl)
      · exact low3 11 (by decide) (by decide) _ ((l5 11 (by decide)).trans rfl)
    · refine ⟨hi 50 (by decide) (by decide) _ rfl, hi 51 (by decide) (by decide) _ rfl, hi 52 (by decide) (by decide) _ rfl, hi 53 (by decide) (by decide) _ rfl, hi 54 (by decide) (by decide) _ rfl, hi 55 (by decide) (by decide) _ rfl, hi 56 (by decide) (by decide) _ rfl,
        hi 57 (by decide) (by decide) _ rfl, hi 58 (by decide) (by decide) _ rfl, hi 59 (by decide) (by decide) _ rfl, hi 60 (by decide) (by decide) _ rfl, hi 61 (by decide) (by decide) _ rfl, hi 62 (by decide) (by decide) _ rfl, hi 63 (by decide) (by decide) _ rfl,
        hi 64 (by decide) (by decide) _ rfl, hi 65 (by decide) (by decide) _ rfl, hi 66 (by decide) (by decide) _ rfl, hi 67 (by decide) (by decide) _ rfl, hi 68 (by decide) (by decide) _ rfl⟩
