/-! THE LAW'S LOOP: what is left is that each pair of methods agrees (OK2) and keeps the invariant -/
abbrev lwL (i : Nat) : Lv := [some (.ref 0), some (.ref 5), some (.ref 69), some (.ref 96), some (.int (nI i)), none, none]
abbrev aJ (n : Nat) (f : Nat → Int64) : MC := .inl (2, n, .inr (.inl f))
/-- class and reference answer alike, and the invariant holds after -/
def OK2 (Inv : Nat → Mm → Prop) (fc fr : FN) (as : List Value) : Prop := ∀ n M, n < 512 → Inv n M → wF fc (.ref 5 :: as) M fun v M1 => ∃ x, v = some (.int x) ∧ M1.2.2 0 = M.2.2 0 ∧ (∃ fs, M1.2.2 69 = .inr (11, fs)) ∧ wF fr (.ref 69 :: as) M1 fun w M2 => w = some (.int x) ∧ Inv (n + 1) M2
/-- the same of fallen, which may throw -/
def OKf (Inv : Nat → Mm → Prop) (a b : Int32) : Prop := ∀ n M, n < 512 → Inv n M → wF F_L_fallen [.ref 5, .int a, .int b, .ref 96] M fun v M1 => ∃ th f, v = some (.int th) ∧ M1.2.2 0 = M.2.2 0 ∧ (∃ fs, M1.2.2 69 = .inr (11, fs)) ∧ M1.2.2 96 = aJ 1 f ∧
  wF F_X12_fallen [.ref 69, .int a, .int b] M1 fun w M2 => ∃ y, w = some (.int y) ∧ (∃ fs, M2.2.2 69 = .inr (11, fs)) ∧ wF F_X12_thrown [.ref 69] M2 fun u M3 => u = some (.int th) ∧ M3.2.2 96 = aJ 1 f ∧ (th = 0 → f 0 = y.toInt64) ∧ Inv (n + 1) M3
/-- what the invariant tells the loop -/
def Base (L : Nat) (xs : Nat → Int32) (Inv : Nat → Mm → Prop) : Prop := ∀ n M, Inv n M → M.2.2 0 = aI 0 L xs ∧ (∃ fs, M.2.2 5 = .inr (10, fs)) ∧ (∃ fs, M.2.2 69 = .inr (11, fs)) ∧ M.1 ≤ 97 + 1170 * n ∧ M.2.1 ≤ 60520 + 14000 * n
theorem rdJ_of {a n : Nat} {M : Mm} {f : Nat → Int64} {j : Int32} (h : M.2.2 a = aJ n f) (hj : inb j n = true) : rdJ a j M = some (f j.toNatClampNeg) := by
  unfold rdJ
  rw [h]
  exact if_pos ⟨rfl, hj⟩
theorem wI_scr {L : Nat} {xs : Nat → Int32} {i : Nat} {o5 o6 : Option Value} {M : Mm} {Q : Int32 → Mm → Prop} (j : Nat) {c : Int32} (hc : c = nI j) (hM : M.2.2 0 = aI 0 L xs) (hL : L ≤ 3072) (hi : i + 6 ≤ L) (hj : j < 6) (k : Q (xs (i + j)) M) :
    wI (gI 0 (lA 0) (bI oAdd (lI 4) (cI c))) [some (.ref 0), some (.ref 5), some (.ref 69), some (.ref 96), some (.int (nI i)), o5, o6] M Q := by
  subst hc
  refine wI_gI (wA_lA rfl rfl ⟨0, rfl, wI_add (wI_lI rfl rfl (wI_cI ⟨xs (i + j), ?_, k⟩))⟩)
  rw [nI_add, rdI_of hM (inb_nI (by omega) (by omega)), nI_clamp (by omega)]
def CaseOK (L : Nat) (xs : Nat → Int32) (Inv : Nat → Mm → Prop) (B : DS) : Prop := ∀ n M i, i + 6 ≤ L → n < 512 → Inv n M → wS B (lwL i) M fun L' M' c _ => c = 1 ∧ L' = lwL i ∧ Inv (n + 1) M'
section LOOP
variable {L : Nat} {xs : Nat → Int32} {Inv : Nat → Mm → Prop}
theorem b01 (x : Int32) : (if oNe x 0 = true then (1 : Int32) else 0) = 0 ∨ (if oNe x 0 = true then (1 : Int32) else 0) = 1 := by by_cases e : oNe x 0 = true <;> simp [e]
theorem case_0 (hB : Base L xs Inv) (hL : L ≤ 3072) (h : ∀ a1 a2 a3 a4 a5 : Int32, (a5 = 0 ∨ a5 = 1) → OK2 Inv F_X11_kind F_X12_kind [.int a1, .int a2, .int a3, .int a4, .int a5]) : CaseOK L xs Inv B_L_law_0 := by
  intro n M i hi hn hI
  obtain ⟨h0, ⟨fs5, h5⟩, ⟨fs69, h69⟩, -, -⟩ := hB n M hI
  refine wS_seq (wS_if (wC_kI (wI_vI (wV_V (wR_A (wA_lA rfl rfl (wR_I (wI_scr 1 rfl h0 hL hi (by decide) (wR_I (wI_scr 2 rfl h0 hL hi (by decide) (wR_I (wI_scr 3 rfl h0 hL hi (by decide) (wR_I (wI_scr 4 rfl h0 hL hi (by decide) (wR_I (wI_zI (wC_kI (wI_scr 5 rfl h0 hL hi (by decide) (wI_cI (wR_0 ⟨isR_of h5, ?_⟩))))))))))))))))))))
  refine (h _ _ _ _ _ (b01 _) n M hn hI).mono ?_
  rintro v M1 ⟨x, rfl, e0, ⟨fs1, e1⟩, h2⟩
  refine ⟨x, rfl, wI_vI (wV_V (wR_A (wA_lA rfl rfl (wR_I (wI_scr 1 rfl (e0.trans h0) hL hi (by decide) (wR_I (wI_scr 2 rfl (e0.trans h0) hL hi (by decide) (wR_I (wI_scr 3 rfl (e0.trans h0) hL hi (by decide) (wR_I (wI_scr 4 rfl (e0.trans h0) hL hi (by decide) (wR_I (wI_zI (wC_kI (wI_scr 5 rfl (e0.trans h0) hL hi (by decide) (wI_cI (wR_0 ⟨isR_of e1, ?_⟩)))))))))))))))))⟩
  refine h2.mono ?_
  rintro w M2 ⟨rfl, hI2⟩
  exact ⟨x, rfl, fun q => absurd q (by simp [oNe]), fun _ => wS_nop ⟨fun _ => wS_brk ⟨rfl, rfl, hI2⟩, fun q => absurd rfl q⟩⟩
theorem case_1 (hB : Base L xs Inv) (hL : L ≤ 3072) (h : ∀ a1 a2 : Int32, OK2 Inv F_X11_product F_X12_product [.int a1, .int a2]) : CaseOK L xs Inv B_L_law_1 := by
  intro n M i hi hn hI
  obtain ⟨h0, ⟨fs5, h5⟩, ⟨fs69, h69⟩, -, -⟩ := hB n M hI
  refine wS_seq (wS_if (wC_kI (wI_vI (wV_V (wR_A (wA_lA rfl rfl (wR_I (wI_scr 1 rfl h0 hL hi (by decide) (wR_I (wI_scr 2 rfl h0 hL hi (by decide) (wR_0 ⟨isR_of h5, ?_⟩)))))))))))
  refine (h _ _ n M hn hI).mono ?_
  rintro v M1 ⟨x, rfl, e0, ⟨fs1, e1⟩, h2⟩
  refine ⟨x, rfl, wI_vI (wV_V (wR_A (wA_lA rfl rfl (wR_I (wI_scr 1 rfl (e0.trans h0) hL hi (by decide) (wR_I (wI_scr 2 rfl (e0.trans h0) hL hi (by decide) (wR_0 ⟨isR_of e1, ?_⟩))))))))⟩
  refine h2.mono ?_
  rintro w M2 ⟨rfl, hI2⟩
  exact ⟨x, rfl, fun q => absurd q (by simp [oNe]), fun _ => wS_nop ⟨fun _ => wS_brk ⟨rfl, rfl, hI2⟩, fun q => absurd rfl q⟩⟩
theorem case_2 (hB : Base L xs Inv) (hL : L ≤ 3072) (h : ∀ a1 a2 : Int32, OK2 Inv F_X11_layer F_X12_layer [.int a1, .int a2]) : CaseOK L xs Inv B_L_law_2 := by
  intro n M i hi hn hI
  obtain ⟨h0, ⟨fs5, h5⟩, ⟨fs69, h69⟩, -, -⟩ := hB n M hI
  refine wS_seq (wS_if (wC_kI (wI_vI (wV_V (wR_A (wA_lA rfl rfl (wR_I (wI_scr 1 rfl h0 hL hi (by decide) (wR_I (wI_scr 2 rfl h0 hL hi (by decide) (wR_0 ⟨isR_of h5, ?_⟩)))))))))))
  refine (h _ _ n M hn hI).mono ?_
  rintro v M1 ⟨x, rfl, e0, ⟨fs1, e1⟩, h2⟩
  refine ⟨x, rfl, wI_vI (wV_V (wR_A (wA_lA rfl rfl (wR_I (wI_scr 1 rfl (e0.trans h0) hL hi (by decide) (wR_I (wI_scr 2 rfl (e0.trans h0) hL hi (by decide) (wR_0 ⟨isR_of e1, ?_⟩))))))))⟩
  refine h2.mono ?_
  rintro w M2 ⟨rfl, hI2⟩
  exact ⟨x, rfl, fun q => absurd q (by simp [oNe]), fun _ => wS_nop ⟨fun _ => wS_brk ⟨rfl, rfl, hI2⟩, fun q => absurd rfl q⟩⟩
theorem case_3 (hB : Base L xs Inv) (hL : L ≤ 3072) (h : ∀ a1 a2 a3 a4 : Int32, OK2 Inv F_X11_row F_X12_row [.int a1, .int a2, .int a3, .int a4]) : CaseOK L xs Inv B_L_law_3 := by
  intro n M i hi hn hI
  obtain ⟨h0, ⟨fs5, h5⟩, ⟨fs69, h69⟩, -, -⟩ := hB n M hI
  refine wS_seq (wS_if (wC_kI (wI_vI (wV_V (wR_A (wA_lA rfl rfl (wR_I (wI_scr 1 rfl h0 hL hi (by decide) (wR_I (wI_scr 2 rfl h0 hL hi (by decide) (wR_I (wI_scr 3 rfl h0 hL hi (by decide) (wR_I (wI_scr 4 rfl h0 hL hi (by decide) (wR_0 ⟨isR_of h5, ?_⟩)))))))))))))))
  refine (h _ _ _ _ n M hn hI).mono ?_
  rintro v M1 ⟨x, rfl, e0, ⟨fs1, e1⟩, h2⟩
  refine ⟨x, rfl, wI_vI (wV_V (wR_A (wA_lA rfl rfl (wR_I (wI_scr 1 rfl (e0.trans h0) hL hi (by decide) (wR_I (wI_scr 2 rfl (e0.trans h0) hL hi (by decide) (wR_I (wI_scr 3 rfl (e0.trans h0) hL hi (by decide) (wR_I (wI_scr 4 rfl (e0.trans h0) hL hi (by decide) (wR_0 ⟨isR_of e1, ?_⟩))))))))))))⟩
  refine h2.mono ?_
  rintro w M2 ⟨rfl, hI2⟩
  exact ⟨x, rfl, fun q => absurd q (by simp [oNe]), fun _ => wS_nop ⟨fun _ => wS_brk ⟨rfl, rfl, hI2⟩, fun q => absurd rfl q⟩⟩
theorem case_4 (hB : Base L xs Inv) (hL : L ≤ 3072) (h : ∀ a1 a2 : Int32, OK2 Inv F_X11_less F_X12_less [.int a1, .int a2]) : CaseOK L xs Inv B_L_law_4 := by
  intro n M i hi hn hI
  obtain ⟨h0, ⟨fs5, h5⟩, ⟨fs69, h69⟩, -, -⟩ := hB n M hI
  refine wS_seq (wS_if (wC_kI (wI_vI (wV_V (wR_A (wA_lA rfl rfl (wR_I (wI_scr 1 rfl h0 hL hi (by decide) (wR_I (wI_scr 2 rfl h0 hL hi (by decide) (wR_0 ⟨isR_of h5, ?_⟩)))))))))))
  refine (h _ _ n M hn hI).mono ?_
  rintro v M1 ⟨x, rfl, e0, ⟨fs1, e1⟩, h2⟩
  refine ⟨x, rfl, wI_vI (wV_V (wR_A (wA_lA rfl rfl (wR_I (wI_scr 1 rfl (e0.trans h0) hL hi (by decide) (wR_I (wI_scr 2 rfl (e0.trans h0) hL hi (by decide) (wR_0 ⟨isR_of e1, ?_⟩))))))))⟩
  refine h2.mono ?_
  rintro w M2 ⟨rfl, hI2⟩
  exact ⟨x, rfl, fun q => absurd q (by simp [oNe]), fun _ => wS_nop ⟨fun _ => wS_brk ⟨rfl, rfl, hI2⟩, fun q => absurd rfl q⟩⟩
theorem case_5 (hB : Base L xs Inv) (hL : L ≤ 3072) (h : ∀ a1 a2 a3 a4 a5 : Int32, OK2 Inv F_X11_put F_X12_put [.int a1, .int a2, .int a3, .int a4, .int a5]) : CaseOK L xs Inv B_L_law_5 := by
  intro n M i hi hn hI
  obtain ⟨h0, ⟨fs5, h5⟩, ⟨fs69, h69⟩, -, -⟩ := hB n M hI
  refine wS_seq (wS_if (wC_kI (wI_vI (wV_V (wR_A (wA_lA rfl rfl (wR_I (wI_scr 1 rfl h0 hL hi (by decide) (wR_I (wI_scr 2 rfl h0 hL hi (by decide) (wR_I (wI_scr 3 rfl h0 hL hi (by decide) (wR_I (wI_scr 4 rfl h0 hL hi (by decide) (wR_I (wI_scr 5 rfl h0 hL hi (by decide) (wR_0 ⟨isR_of h5, ?_⟩)))))))))))))))))
  refine (h _ _ _ _ _ n M hn hI).mono ?_
  rintro v M1 ⟨x, rfl, e0, ⟨fs1, e1⟩, h2⟩
  refine ⟨x, rfl, wI_vI (wV_V (wR_A (wA_lA rfl rfl (wR_I (wI_scr 1 rfl (e0.trans h0) hL hi (by decide) (wR_I (wI_scr 2 rfl (e0.trans h0) hL hi (by decide) (wR_I (wI_scr 3 rfl (e0.trans h0) hL hi (by decide) (wR_I (wI_scr 4 rfl (e0.trans h0) hL hi (by decide) (wR_I (wI_scr 5 rfl (e0.trans h0) hL hi (by decide) (wR_0 ⟨isR_of e1, ?_⟩))))))))))))))⟩
  refine h2.mono ?_
  rintro w M2 ⟨rfl, hI2⟩
  exact ⟨x, rfl, fun q => absurd q (by simp [oNe]), fun _ => wS_nop ⟨fun _ => wS_brk ⟨rfl, rfl, hI2⟩, fun q => absurd rfl q⟩⟩
theorem case_6 (hB : Base L xs Inv) (hL : L ≤ 3072) (h : ∀ a1 a2 a3 a4 a5 : Int32, OK2 Inv F_X11_face F_X12_face [.int a1, .int a2, .int a3, .int a4, .int a5]) : CaseOK L xs Inv B_L_law_6 := by
  intro n M i hi hn hI
  obtain ⟨h0, ⟨fs5, h5⟩, ⟨fs69, h69⟩, -, -⟩ := hB n M hI
  refine wS_seq (wS_if (wC_kI (wI_vI (wV_V (wR_A (wA_lA rfl rfl (wR_I (wI_scr 1 rfl h0 hL hi (by decide) (wR_I (wI_scr 2 rfl h0 hL hi (by decide) (wR_I (wI_scr 3 rfl h0 hL hi (by decide) (wR_I (wI_scr 4 rfl h0 hL hi (by decide) (wR_I (wI_scr 5 rfl h0 hL hi (by decide) (wR_0 ⟨isR_of h5, ?_⟩)))))))))))))))))
  refine (h _ _ _ _ _ n M hn hI).mono ?_
  rintro v M1 ⟨x, rfl, e0, ⟨fs1, e1⟩, h2⟩
  refine ⟨x, rfl, wI_vI (wV_V (wR_A (wA_lA rfl rfl (wR_I (wI_scr 1 rfl (e0.trans h0) hL hi (by decide) (wR_I (wI_scr 2 rfl (e0.trans h0) hL hi (by decide) (wR_I (wI_scr 3 rfl (e0.trans h0) hL hi (by decide) (wR_I (wI_scr 4 rfl (e0.trans h0) hL hi (by decide) (wR_I (wI_scr 5 rfl (e0.trans h0) hL hi (by decide) (wR_0 ⟨isR_of e1, ?_⟩))))))))))))))⟩
  refine h2.mono ?_
  rintro w M2 ⟨rfl, hI2⟩
  exact ⟨x, rfl, fun q => absurd q (by simp [oNe]), fun _ => wS_nop ⟨fun _ => wS_brk ⟨rfl, rfl, hI2⟩, fun q => absurd rfl q⟩⟩
theorem case_7 (hB : Base L xs Inv) (hL : L ≤ 3072) (h : ∀ a1 a2 a3 a4 : Int32, OK2 Inv F_X11_there F_X12_there [.int a1, .int a2, .int a3, .int a4]) : CaseOK L xs Inv B_L_law_7 := by
  intro n M i hi hn hI
  obtain ⟨h0, ⟨fs5, h5⟩, ⟨fs69, h69⟩, -, -⟩ := hB n M hI
  refine wS_seq (wS_if (wC_kI (wI_vI (wV_V (wR_A (wA_lA rfl rfl (wR_I (wI_scr 1 rfl h0 hL hi (by decide) (wR_I (wI_scr 2 rfl h0 hL hi (by decide) (wR_I (wI_scr 3 rfl h0 hL hi (by decide) (wR_I (wI_scr 4 rfl h0 hL hi (by decide) (wR_0 ⟨isR_of h5, ?_⟩)))))))))))))))
  refine (h _ _ _ _ n M hn hI).mono ?_
  rintro v M1 ⟨x, rfl, e0, ⟨fs1, e1⟩, h2⟩
  refine ⟨x, rfl, wI_vI (wV_V (wR_A (wA_lA rfl rfl (wR_I (wI_scr 1 rfl (e0.trans h0) hL hi (by decide) (wR_I (wI_scr 2 rfl (e0.trans h0) hL hi (by decide) (wR_I (wI_scr 3 rfl (e0.trans h0) hL hi (by decide) (wR_I (wI_scr 4 rfl (e0.trans h0) hL hi (by decide) (wR_0 ⟨isR_of e1, ?_⟩))))))))))))⟩
  refine h2.mono ?_
  rintro w M2 ⟨rfl, hI2⟩
  exact ⟨x, rfl, fun q => absurd q (by simp [oNe]), fun _ => wS_nop ⟨fun _ => wS_brk ⟨rfl, rfl, hI2⟩, fun q => absurd rfl q⟩⟩
theorem case_8 (hB : Base L xs Inv) (hL : L ≤ 3072) (h : ∀ a1 a2 a3 a4 : Int32, OK2 Inv F_X11_at F_X12_at [.int a1, .int a2, .int a3, .int a4]) : CaseOK L xs Inv B_L_law_8 := by
  intro n M i hi hn hI
  obtain ⟨h0, ⟨fs5, h5⟩, ⟨fs69, h69⟩, -, -⟩ := hB n M hI
  refine wS_seq (wS_if (wC_kI (wI_vI (wV_V (wR_A (wA_lA rfl rfl (wR_I (wI_scr 1 rfl h0 hL hi (by decide) (wR_I (wI_scr 2 rfl h0 hL hi (by decide) (wR_I (wI_scr 3 rfl h0 hL hi (by decide) (wR_I (wI_scr 4 rfl h0 hL hi (by decide) (wR_0 ⟨isR_of h5, ?_⟩)))))))))))))))
  refine (h _ _ _ _ n M hn hI).mono ?_
  rintro v M1 ⟨x, rfl, e0, ⟨fs1, e1⟩, h2⟩
  refine ⟨x, rfl, wI_vI (wV_V (wR_A (wA_lA rfl rfl (wR_I (wI_scr 1 rfl (e0.trans h0) hL hi (by decide) (wR_I (wI_scr 2 rfl (e0.trans h0) hL hi (by decide) (wR_I (wI_scr 3 rfl (e0.trans h0) hL hi (by decide) (wR_I (wI_scr 4 rfl (e0.trans h0) hL hi (by decide) (wR_0 ⟨isR_of e1, ?_⟩))))))))))))⟩
  refine h2.mono ?_
  rintro w M2 ⟨rfl, hI2⟩
  exact ⟨x, rfl, fun q => absurd q (by simp [oNe]), fun _ => wS_nop ⟨fun _ => wS_brk ⟨rfl, rfl, hI2⟩, fun q => absurd rfl q⟩⟩
theorem case_9 (hB : Base L xs Inv) (hL : L ≤ 3072) (h : ∀ a1 a2 a3 a4 : Int32, OK2 Inv F_X11_turnAt F_X12_turnAt [.int a1, .int a2, .int a3, .int a4]) : CaseOK L xs Inv B_L_law_9 := by
  intro n M i hi hn hI
  obtain ⟨h0, ⟨fs5, h5⟩, ⟨fs69, h69⟩, -, -⟩ := hB n M hI
  refine wS_seq (wS_if (wC_kI (wI_vI (wV_V (wR_A (wA_lA rfl rfl (wR_I (wI_scr 1 rfl h0 hL hi (by decide) (wR_I (wI_scr 2 rfl h0 hL hi (by decide) (wR_I (wI_scr 3 rfl h0 hL hi (by decide) (wR_I (wI_scr 4 rfl h0 hL hi (by decide) (wR_0 ⟨isR_of h5, ?_⟩)))))))))))))))
  refine (h _ _ _ _ n M hn hI).mono ?_
  rintro v M1 ⟨x, rfl, e0, ⟨fs1, e1⟩, h2⟩
  refine ⟨x, rfl, wI_vI (wV_V (wR_A (wA_lA rfl rfl (wR_I (wI_scr 1 rfl (e0.trans h0) hL hi (by decide) (wR_I (wI_scr 2 rfl (e0.trans h0) hL hi (by decide) (wR_I (wI_scr 3 rfl (e0.trans h0) hL hi (by decide) (wR_I (wI_scr 4 rfl (e0.trans h0) hL hi (by decide) (wR_0 ⟨isR_of e1, ?_⟩))))))))))))⟩
  refine h2.mono ?_
  rintro w M2 ⟨rfl, hI2⟩
  exact ⟨x, rfl, fun q => absurd q (by simp [oNe]), fun _ => wS_nop ⟨fun _ => wS_brk ⟨rfl, rfl, hI2⟩, fun q => absurd rfl q⟩⟩
theorem case_10 (hB : Base L xs Inv) (hL : L ≤ 3072) (h : ∀ a1 a2 : Int32, OK2 Inv F_X11_share F_X12_share [.int a1, .int a2]) : CaseOK L xs Inv B_L_law_10 := by
  intro n M i hi hn hI
  obtain ⟨h0, ⟨fs5, h5⟩, ⟨fs69, h69⟩, -, -⟩ := hB n M hI
  refine wS_seq (wS_if (wC_kI (wI_vI (wV_V (wR_A (wA_lA rfl rfl (wR_I (wI_scr 1 rfl h0 hL hi (by decide) (wR_I (wI_scr 2 rfl h0 hL hi (by decide) (wR_0 ⟨isR_of h5, ?_⟩)))))))))))
  refine (h _ _ n M hn hI).mono ?_
  rintro v M1 ⟨x, rfl, e0, ⟨fs1, e1⟩, h2⟩
  refine ⟨x, rfl, wI_vI (wV_V (wR_A (wA_lA rfl rfl (wR_I (wI_scr 1 rfl (e0.trans h0) hL hi (by decide) (wR_I (wI_scr 2 rfl (e0.trans h0) hL hi (by decide) (wR_0 ⟨isR_of e1, ?_⟩))))))))⟩
  refine h2.mono ?_
  rintro w M2 ⟨rfl, hI2⟩
  exact ⟨x, rfl, fun q => absurd q (by simp [oNe]), fun _ => wS_nop ⟨fun _ => wS_brk ⟨rfl, rfl, hI2⟩, fun q => absurd rfl q⟩⟩
theorem case_11 (hB : Base L xs Inv) (hL : L ≤ 3072) (h : ∀ a1 a2 : Int32, OK2 Inv F_X11_keep F_X12_keep [.int a1, .int a2]) : CaseOK L xs Inv B_L_law_11 := by
  intro n M i hi hn hI
  obtain ⟨h0, ⟨fs5, h5⟩, ⟨fs69, h69⟩, -, -⟩ := hB n M hI
  refine wS_seq (wS_if (wC_kI (wI_vI (wV_V (wR_A (wA_lA rfl rfl (wR_I (wI_scr 1 rfl h0 hL hi (by decide) (wR_I (wI_scr 2 rfl h0 hL hi (by decide) (wR_0 ⟨isR_of h5, ?_⟩)))))))))))
  refine (h _ _ n M hn hI).mono ?_
  rintro v M1 ⟨x, rfl, e0, ⟨fs1, e1⟩, h2⟩
  refine ⟨x, rfl, wI_vI (wV_V (wR_A (wA_lA rfl rfl (wR_I (wI_scr 1 rfl (e0.trans h0) hL hi (by decide) (wR_I (wI_scr 2 rfl (e0.trans h0) hL hi (by decide) (wR_0 ⟨isR_of e1, ?_⟩))))))))⟩
  refine h2.mono ?_
  rintro w M2 ⟨rfl, hI2⟩
  exact ⟨x, rfl, fun q => absurd q (by simp [oNe]), fun _ => wS_nop ⟨fun _ => wS_brk ⟨rfl, rfl, hI2⟩, fun q => absurd rfl q⟩⟩
theorem case_12 (hB : Base L xs Inv) (hL : L ≤ 3072) (h : ∀ a1 a2 : Int32, OK2 Inv F_X11_back F_X12_back [.int a1, .int a2]) : CaseOK L xs Inv B_L_law_12 := by
  intro n M i hi hn hI
  obtain ⟨h0, ⟨fs5, h5⟩, ⟨fs69, h69⟩, -, -⟩ := hB n M hI
  refine wS_seq (wS_if (wC_kI (wI_vI (wV_V (wR_A (wA_lA rfl rfl (wR_I (wI_scr 1 rfl h0 hL hi (by decide) (wR_I (wI_scr 2 rfl h0 hL hi (by decide) (wR_0 ⟨isR_of h5, ?_⟩)))))))))))
  refine (h _ _ n M hn hI).mono ?_
  rintro v M1 ⟨x, rfl, e0, ⟨fs1, e1⟩, h2⟩
  refine ⟨x, rfl, wI_vI (wV_V (wR_A (wA_lA rfl rfl (wR_I (wI_scr 1 rfl (e0.trans h0) hL hi (by decide) (wR_I (wI_scr 2 rfl (e0.trans h0) hL hi (by decide) (wR_0 ⟨isR_of e1, ?_⟩))))))))⟩
  refine h2.mono ?_
  rintro w M2 ⟨rfl, hI2⟩
  exact ⟨x, rfl, fun q => absurd q (by simp [oNe]), fun _ => wS_nop ⟨fun _ => wS_brk ⟨rfl, rfl, hI2⟩, fun q => absurd rfl q⟩⟩
theorem case_13 (hB : Base L xs Inv) (hL : L ≤ 3072) (h : ∀ a1 : Int32, OK2 Inv F_X11_forget F_X12_forget [.int a1]) : CaseOK L xs Inv B_L_law_13 := by
  intro n M i hi hn hI
  obtain ⟨h0, ⟨fs5, h5⟩, ⟨fs69, h69⟩, -, -⟩ := hB n M hI
  refine wS_seq (wS_if (wC_kI (wI_vI (wV_V (wR_A (wA_lA rfl rfl (wR_I (wI_scr 1 rfl h0 hL hi (by decide) (wR_0 ⟨isR_of h5, ?_⟩)))))))))
  refine (h _ n M hn hI).mono ?_
  rintro v M1 ⟨x, rfl, e0, ⟨fs1, e1⟩, h2⟩
  refine ⟨x, rfl, wI_vI (wV_V (wR_A (wA_lA rfl rfl (wR_I (wI_scr 1 rfl (e0.trans h0) hL hi (by decide) (wR_0 ⟨isR_of e1, ?_⟩))))))⟩
  refine h2.mono ?_
  rintro w M2 ⟨rfl, hI2⟩
  exact ⟨x, rfl, fun q => absurd q (by simp [oNe]), fun _ => wS_nop ⟨fun _ => wS_brk ⟨rfl, rfl, hI2⟩, fun q => absurd rfl q⟩⟩
theorem case_14 (hB : Base L xs Inv) (hL : L ≤ 3072) (h : ∀ a1 a2 a3 a4 a5 : Int32, OK2 Inv F_X11_same F_X12_same [.int a1, .int a2, .int a3, .int a4, .int a5]) : CaseOK L xs Inv B_L_law_14 := by
  intro n M i hi hn hI
  obtain ⟨h0, ⟨fs5, h5⟩, ⟨fs69, h69⟩, -, -⟩ := hB n M hI
  refine wS_seq (wS_if (wC_kI (wI_vI (wV_V (wR_A (wA_lA rfl rfl (wR_I (wI_scr 1 rfl h0 hL hi (by decide) (wR_I (wI_scr 2 rfl h0 hL hi (by decide) (wR_I (wI_scr 3 rfl h0 hL hi (by decide) (wR_I (wI_scr 4 rfl h0 hL hi (by decide) (wR_I (wI_scr 5 rfl h0 hL hi (by decide) (wR_0 ⟨isR_of h5, ?_⟩)))))))))))))))))
  refine (h _ _ _ _ _ n M hn hI).mono ?_
  rintro v M1 ⟨x, rfl, e0, ⟨fs1, e1⟩, h2⟩
  refine ⟨x, rfl, wI_vI (wV_V (wR_A (wA_lA rfl rfl (wR_I (wI_scr 1 rfl (e0.trans h0) hL hi (by decide) (wR_I (wI_scr 2 rfl (e0.trans h0) hL hi (by decide) (wR_I (wI_scr 3 rfl (e0.trans h0) hL hi (by decide) (wR_I (wI_scr 4 rfl (e0.trans h0) hL hi (by decide) (wR_I (wI_scr 5 rfl (e0.trans h0) hL hi (by decide) (wR_0 ⟨isR_of e1, ?_⟩))))))))))))))⟩
  refine h2.mono ?_
  rintro w M2 ⟨rfl, hI2⟩
  exact ⟨x, rfl, fun q => absurd q (by simp [oNe]), fun _ => wS_nop ⟨fun _ => wS_brk ⟨rfl, rfl, hI2⟩, fun q => absurd rfl q⟩⟩
theorem case_15 (hB : Base L xs Inv) (hL : L ≤ 3072) (h : ∀ a1 : Int32, OK2 Inv F_X11_made F_X12_made [.int a1]) : CaseOK L xs Inv B_L_law_15 := by
  intro n M i hi hn hI
  obtain ⟨h0, ⟨fs5, h5⟩, ⟨fs69, h69⟩, -, -⟩ := hB n M hI
  refine wS_seq (wS_if (wC_kI (wI_vI (wV_V (wR_A (wA_lA rfl rfl (wR_I (wI_scr 1 rfl h0 hL hi (by decide) (wR_0 ⟨isR_of h5, ?_⟩)))))))))
  refine (h _ n M hn hI).mono ?_
  rintro v M1 ⟨x, rfl, e0, ⟨fs1, e1⟩, h2⟩
  refine ⟨x, rfl, wI_vI (wV_V (wR_A (wA_lA rfl rfl (wR_I (wI_scr 1 rfl (e0.trans h0) hL hi (by decide) (wR_0 ⟨isR_of e1, ?_⟩))))))⟩
  refine h2.mono ?_
  rintro w M2 ⟨rfl, hI2⟩
  exact ⟨x, rfl, fun q => absurd q (by simp [oNe]), fun _ => wS_nop ⟨fun _ => wS_brk ⟨rfl, rfl, hI2⟩, fun q => absurd rfl q⟩⟩
theorem case_16 (hB : Base L xs Inv) (hL : L ≤ 3072) (h : ∀ a1 : Int32, OK2 Inv F_X11_box F_X12_box [.int a1]) : CaseOK L xs Inv B_L_law_16 := by
  intro n M i hi hn hI
  obtain ⟨h0, ⟨fs5, h5⟩, ⟨fs69, h69⟩, -, -⟩ := hB n M hI
  refine wS_seq (wS_if (wC_kI (wI_vI (wV_V (wR_A (wA_lA rfl rfl (wR_I (wI_scr 1 rfl h0 hL hi (by decide) (wR_0 ⟨isR_of h5, ?_⟩)))))))))
  refine (h _ n M hn hI).mono ?_
  rintro v M1 ⟨x, rfl, e0, ⟨fs1, e1⟩, h2⟩
  refine ⟨x, rfl, wI_vI (wV_V (wR_A (wA_lA rfl rfl (wR_I (wI_scr 1 rfl (e0.trans h0) hL hi (by decide) (wR_0 ⟨isR_of e1, ?_⟩))))))⟩
  refine h2.mono ?_
  rintro w M2 ⟨rfl, hI2⟩
  exact ⟨x, rfl, fun q => absurd q (by simp [oNe]), fun _ => wS_nop ⟨fun _ => wS_brk ⟨rfl, rfl, hI2⟩, fun q => absurd rfl q⟩⟩
theorem case_17 (hB : Base L xs Inv) (hL : L ≤ 3072) (h : ∀ a1 a2 a3 : Int32, OK2 Inv F_X11_fill F_X12_fill [.int a1, .int a2, .int a3]) : CaseOK L xs Inv B_L_law_17 := by
  intro n M i hi hn hI
  obtain ⟨h0, ⟨fs5, h5⟩, ⟨fs69, h69⟩, -, -⟩ := hB n M hI
  refine wS_seq (wS_if (wC_kI (wI_vI (wV_V (wR_A (wA_lA rfl rfl (wR_I (wI_scr 1 rfl h0 hL hi (by decide) (wR_I (wI_scr 2 rfl h0 hL hi (by decide) (wR_I (wI_scr 3 rfl h0 hL hi (by decide) (wR_0 ⟨isR_of h5, ?_⟩)))))))))))))
  refine (h _ _ _ n M hn hI).mono ?_
  rintro v M1 ⟨x, rfl, e0, ⟨fs1, e1⟩, h2⟩
  refine ⟨x, rfl, wI_vI (wV_V (wR_A (wA_lA rfl rfl (wR_I (wI_scr 1 rfl (e0.trans h0) hL hi (by decide) (wR_I (wI_scr 2 rfl (e0.trans h0) hL hi (by decide) (wR_I (wI_scr 3 rfl (e0.trans h0) hL hi (by decide) (wR_0 ⟨isR_of e1, ?_⟩))))))))))⟩
  refine h2.mono ?_
  rintro w M2 ⟨rfl, hI2⟩
  exact ⟨x, rfl, fun q => absurd q (by simp [oNe]), fun _ => wS_nop ⟨fun _ => wS_brk ⟨rfl, rfl, hI2⟩, fun q => absurd rfl q⟩⟩
theorem case_18 (hB : Base L xs Inv) (hL : L ≤ 3072) (h : ∀ a1 a2 a3 : Int32, OK2 Inv F_X11_replace F_X12_replace [.int a1, .int a2, .int a3]) : CaseOK L xs Inv B_L_law_18 := by
  intro n M i hi hn hI
  obtain ⟨h0, ⟨fs5, h5⟩, ⟨fs69, h69⟩, -, -⟩ := hB n M hI
  refine wS_seq (wS_if (wC_kI (wI_vI (wV_V (wR_A (wA_lA rfl rfl (wR_I (wI_scr 1 rfl h0 hL hi (by decide) (wR_I (wI_scr 2 rfl h0 hL hi (by decide) (wR_I (wI_scr 3 rfl h0 hL hi (by decide) (wR_0 ⟨isR_of h5, ?_⟩)))))))))))))
  refine (h _ _ _ n M hn hI).mono ?_
  rintro v M1 ⟨x, rfl, e0, ⟨fs1, e1⟩, h2⟩
  refine ⟨x, rfl, wI_vI (wV_V (wR_A (wA_lA rfl rfl (wR_I (wI_scr 1 rfl (e0.trans h0) hL hi (by decide) (wR_I (wI_scr 2 rfl (e0.trans h0) hL hi (by decide) (wR_I (wI_scr 3 rfl (e0.trans h0) hL hi (by decide) (wR_0 ⟨isR_of e1, ?_⟩))))))))))⟩
  refine h2.mono ?_
  rintro w M2 ⟨rfl, hI2⟩
  exact ⟨x, rfl, fun q => absurd q (by simp [oNe]), fun _ => wS_nop ⟨fun _ => wS_brk ⟨rfl, rfl, hI2⟩, fun q => absurd rfl q⟩⟩
theorem case_19 (hB : Base L xs Inv) (hL : L ≤ 3072) (h : ∀ a1 a2 : Int32, OK2 Inv F_X11_count F_X12_count [.int a1, .int a2]) : CaseOK L xs Inv B_L_law_19 := by
  intro n M i hi hn hI
  obtain ⟨h0, ⟨fs5, h5⟩, ⟨fs69, h69⟩, -, -⟩ := hB n M hI
  refine wS_seq (wS_if (wC_kI (wI_vI (wV_V (wR_A (wA_lA rfl rfl (wR_I (wI_scr 1 rfl h0 hL hi (by decide) (wR_I (wI_scr 2 rfl h0 hL hi (by decide) (wR_0 ⟨isR_of h5, ?_⟩)))))))))))
  refine (h _ _ n M hn hI).mono ?_
  rintro v M1 ⟨x, rfl, e0, ⟨fs1, e1⟩, h2⟩
  refine ⟨x, rfl, wI_vI (wV_V (wR_A (wA_lA rfl rfl (wR_I (wI_scr 1 rfl (e0.trans h0) hL hi (by decide) (wR_I (wI_scr 2 rfl (e0.trans h0) hL hi (by decide) (wR_0 ⟨isR_of e1, ?_⟩))))))))⟩
  refine h2.mono ?_
  rintro w M2 ⟨rfl, hI2⟩
  exact ⟨x, rfl, fun q => absurd q (by simp [oNe]), fun _ => wS_nop ⟨fun _ => wS_brk ⟨rfl, rfl, hI2⟩, fun q => absurd rfl q⟩⟩
theorem case_20 (hB : Base L xs Inv) (hL : L ≤ 3072) (h : ∀ a1 : Int32, OK2 Inv F_X11_hollow F_X12_hollow [.int a1]) : CaseOK L xs Inv B_L_law_20 := by
  intro n M i hi hn hI
  obtain ⟨h0, ⟨fs5, h5⟩, ⟨fs69, h69⟩, -, -⟩ := hB n M hI
  refine wS_seq (wS_if (wC_kI (wI_vI (wV_V (wR_A (wA_lA rfl rfl (wR_I (wI_scr 1 rfl h0 hL hi (by decide) (wR_0 ⟨isR_of h5, ?_⟩)))))))))
  refine (h _ n M hn hI).mono ?_
  rintro v M1 ⟨x, rfl, e0, ⟨fs1, e1⟩, h2⟩
  refine ⟨x, rfl, wI_vI (wV_V (wR_A (wA_lA rfl rfl (wR_I (wI_scr 1 rfl (e0.trans h0) hL hi (by decide) (wR_0 ⟨isR_of e1, ?_⟩))))))⟩
  refine h2.mono ?_
  rintro w M2 ⟨rfl, hI2⟩
  exact ⟨x, rfl, fun q => absurd q (by simp [oNe]), fun _ => wS_nop ⟨fun _ => wS_brk ⟨rfl, rfl, hI2⟩, fun q => absurd rfl q⟩⟩
theorem case_21 (hB : Base L xs Inv) (hL : L ≤ 3072) (h : ∀ a1 a2 a3 a4 : Int32, (a4 = 0 ∨ a4 = 1) → OK2 Inv F_X11_move F_X12_move [.int a1, .int a2, .int a3, .int a4]) : CaseOK L xs Inv B_L_law_21 := by
  intro n M i hi hn hI
  obtain ⟨h0, ⟨fs5, h5⟩, ⟨fs69, h69⟩, -, -⟩ := hB n M hI
  refine wS_seq (wS_if (wC_kI (wI_vI (wV_V (wR_A (wA_lA rfl rfl (wR_I (wI_scr 1 rfl h0 hL hi (by decide) (wR_I (wI_scr 2 rfl h0 hL hi (by decide) (wR_I (wI_scr 3 rfl h0 hL hi (by decide) (wR_I (wI_zI (wC_kI (wI_scr 4 rfl h0 hL hi (by decide) (wI_cI (wR_0 ⟨isR_of h5, ?_⟩))))))))))))))))))
  refine (h _ _ _ _ (b01 _) n M hn hI).mono ?_
  rintro v M1 ⟨x, rfl, e0, ⟨fs1, e1⟩, h2⟩
  refine ⟨x, rfl, wI_vI (wV_V (wR_A (wA_lA rfl rfl (wR_I (wI_scr 1 rfl (e0.trans h0) hL hi (by decide) (wR_I (wI_scr 2 rfl (e0.trans h0) hL hi (by decide) (wR_I (wI_scr 3 rfl (e0.trans h0) hL hi (by decide) (wR_I (wI_zI (wC_kI (wI_scr 4 rfl (e0.trans h0) hL hi (by decide) (wI_cI (wR_0 ⟨isR_of e1, ?_⟩)))))))))))))))⟩
  refine h2.mono ?_
  rintro w M2 ⟨rfl, hI2⟩
  exact ⟨x, rfl, fun q => absurd q (by simp [oNe]), fun _ => wS_nop ⟨fun _ => wS_brk ⟨rfl, rfl, hI2⟩, fun q => absurd rfl q⟩⟩
theorem case_22 (hB : Base L xs Inv) (hL : L ≤ 3072) (h : ∀ a1 a2 : Int32, OK2 Inv F_X11_turnBox F_X12_turnBox [.int a1, .int a2]) : CaseOK L xs Inv B_L_law_22 := by
  intro n M i hi hn hI
  obtain ⟨h0, ⟨fs5, h5⟩, ⟨fs69, h69⟩, -, -⟩ := hB n M hI
  refine wS_seq (wS_if (wC_kI (wI_vI (wV_V (wR_A (wA_lA rfl rfl (wR_I (wI_scr 1 rfl h0 hL hi (by decide) (wR_I (wI_scr 2 rfl h0 hL hi (by decide) (wR_0 ⟨isR_of h5, ?_⟩)))))))))))
  refine (h _ _ n M hn hI).mono ?_
  rintro v M1 ⟨x, rfl, e0, ⟨fs1, e1⟩, h2⟩
  refine ⟨x, rfl, wI_vI (wV_V (wR_A (wA_lA rfl rfl (wR_I (wI_scr 1 rfl (e0.trans h0) hL hi (by decide) (wR_I (wI_scr 2 rfl (e0.trans h0) hL hi (by decide) (wR_0 ⟨isR_of e1, ?_⟩))))))))⟩
  refine h2.mono ?_
  rintro w M2 ⟨rfl, hI2⟩
  exact ⟨x, rfl, fun q => absurd q (by simp [oNe]), fun _ => wS_nop ⟨fun _ => wS_brk ⟨rfl, rfl, hI2⟩, fun q => absurd rfl q⟩⟩
theorem case_23 (hB : Base L xs Inv) (hL : L ≤ 3072) (h : ∀ a1 a2 a3 a4 a5 : Int32, OK2 Inv F_X11_cut F_X12_cut [.int a1, .int a2, .int a3, .int a4, .int a5]) : CaseOK L xs Inv B_L_law_23 := by
  intro n M i hi hn hI
  obtain ⟨h0, ⟨fs5, h5⟩, ⟨fs69, h69⟩, -, -⟩ := hB n M hI
  refine wS_seq (wS_if (wC_kI (wI_vI (wV_V (wR_A (wA_lA rfl rfl (wR_I (wI_scr 1 rfl h0 hL hi (by decide) (wR_I (wI_scr 2 rfl h0 hL hi (by decide) (wR_I (wI_scr 3 rfl h0 hL hi (by decide) (wR_I (wI_scr 4 rfl h0 hL hi (by decide) (wR_I (wI_scr 5 rfl h0 hL hi (by decide) (wR_0 ⟨isR_of h5, ?_⟩)))))))))))))))))
  refine (h _ _ _ _ _ n M hn hI).mono ?_
  rintro v M1 ⟨x, rfl, e0, ⟨fs1, e1⟩, h2⟩
  refine ⟨x, rfl, wI_vI (wV_V (wR_A (wA_lA rfl rfl (wR_I (wI_scr 1 rfl (e0.trans h0) hL hi (by decide) (wR_I (wI_scr 2 rfl (e0.trans h0) hL hi (by decide) (wR_I (wI_scr 3 rfl (e0.trans h0) hL hi (by decide) (wR_I (wI_scr 4 rfl (e0.trans h0) hL hi (by decide) (wR_I (wI_scr 5 rfl (e0.trans h0) hL hi (by decide) (wR_0 ⟨isR_of e1, ?_⟩))))))))))))))⟩
  refine h2.mono ?_
  rintro w M2 ⟨rfl, hI2⟩
  exact ⟨x, rfl, fun q => absurd q (by simp [oNe]), fun _ => wS_nop ⟨fun _ => wS_brk ⟨rfl, rfl, hI2⟩, fun q => absurd rfl q⟩⟩
theorem case_24 (hB : Base L xs Inv) (hL : L ≤ 3072) (h : ∀ a1 : Int32, OK2 Inv F_X11_parts F_X12_parts [.int a1]) : CaseOK L xs Inv B_L_law_24 := by
  intro n M i hi hn hI
  obtain ⟨h0, ⟨fs5, h5⟩, ⟨fs69, h69⟩, -, -⟩ := hB n M hI
  refine wS_seq (wS_if (wC_kI (wI_vI (wV_V (wR_A (wA_lA rfl rfl (wR_I (wI_scr 1 rfl h0 hL hi (by decide) (wR_0 ⟨isR_of h5, ?_⟩)))))))))
  refine (h _ n M hn hI).mono ?_
  rintro v M1 ⟨x, rfl, e0, ⟨fs1, e1⟩, h2⟩
  refine ⟨x, rfl, wI_vI (wV_V (wR_A (wA_lA rfl rfl (wR_I (wI_scr 1 rfl (e0.trans h0) hL hi (by decide) (wR_0 ⟨isR_of e1, ?_⟩))))))⟩
  refine h2.mono ?_
  rintro w M2 ⟨rfl, hI2⟩
  exact ⟨x, rfl, fun q => absurd q (by simp [oNe]), fun _ => wS_nop ⟨fun _ => wS_brk ⟨rfl, rfl, hI2⟩, fun q => absurd rfl q⟩⟩
theorem case_25 (hB : Base L xs Inv) (hL : L ≤ 3072) (h : ∀ a1 a2 a3 a4 : Int32, OK2 Inv F_X11_part F_X12_part [.int a1, .int a2, .int a3, .int a4]) : CaseOK L xs Inv B_L_law_25 := by
  intro n M i hi hn hI
  obtain ⟨h0, ⟨fs5, h5⟩, ⟨fs69, h69⟩, -, -⟩ := hB n M hI
  refine wS_seq (wS_if (wC_kI (wI_vI (wV_V (wR_A (wA_lA rfl rfl (wR_I (wI_scr 1 rfl h0 hL hi (by decide) (wR_I (wI_scr 2 rfl h0 hL hi (by decide) (wR_I (wI_scr 3 rfl h0 hL hi (by decide) (wR_I (wI_scr 4 rfl h0 hL hi (by decide) (wR_0 ⟨isR_of h5, ?_⟩)))))))))))))))
  refine (h _ _ _ _ n M hn hI).mono ?_
  rintro v M1 ⟨x, rfl, e0, ⟨fs1, e1⟩, h2⟩
  refine ⟨x, rfl, wI_vI (wV_V (wR_A (wA_lA rfl rfl (wR_I (wI_scr 1 rfl (e0.trans h0) hL hi (by decide) (wR_I (wI_scr 2 rfl (e0.trans h0) hL hi (by decide) (wR_I (wI_scr 3 rfl (e0.trans h0) hL hi (by decide) (wR_I (wI_scr 4 rfl (e0.trans h0) hL hi (by decide) (wR_0 ⟨isR_of e1, ?_⟩))))))))))))⟩
  refine h2.mono ?_
  rintro w M2 ⟨rfl, hI2⟩
  exact ⟨x, rfl, fun q => absurd q (by simp [oNe]), fun _ => wS_nop ⟨fun _ => wS_brk ⟨rfl, rfl, hI2⟩, fun q => absurd rfl q⟩⟩
theorem case_26 (hB : Base L xs Inv) (hL : L ≤ 3072) (h : ∀ a1 a2 a3 : Int32, OK2 Inv F_X11_partOf F_X12_partOf [.int a1, .int a2, .int a3]) : CaseOK L xs Inv B_L_law_26 := by
  intro n M i hi hn hI
  obtain ⟨h0, ⟨fs5, h5⟩, ⟨fs69, h69⟩, -, -⟩ := hB n M hI
  refine wS_seq (wS_if (wC_kI (wI_vI (wV_V (wR_A (wA_lA rfl rfl (wR_I (wI_scr 1 rfl h0 hL hi (by decide) (wR_I (wI_scr 2 rfl h0 hL hi (by decide) (wR_I (wI_scr 3 rfl h0 hL hi (by decide) (wR_0 ⟨isR_of h5, ?_⟩)))))))))))))
  refine (h _ _ _ n M hn hI).mono ?_
  rintro v M1 ⟨x, rfl, e0, ⟨fs1, e1⟩, h2⟩
  refine ⟨x, rfl, wI_vI (wV_V (wR_A (wA_lA rfl rfl (wR_I (wI_scr 1 rfl (e0.trans h0) hL hi (by decide) (wR_I (wI_scr 2 rfl (e0.trans h0) hL hi (by decide) (wR_I (wI_scr 3 rfl (e0.trans h0) hL hi (by decide) (wR_0 ⟨isR_of e1, ?_⟩))))))))))⟩
  refine h2.mono ?_
  rintro w M2 ⟨rfl, hI2⟩
  exact ⟨x, rfl, fun q => absurd q (by simp [oNe]), fun _ => wS_nop ⟨fun _ => wS_brk ⟨rfl, rfl, hI2⟩, fun q => absurd rfl q⟩⟩
theorem case_27 (hB : Base L xs Inv) (hL : L ≤ 3072) (h : ∀ a1 : Int32, OK2 Inv F_X11_settle F_X12_settle [.int a1]) : CaseOK L xs Inv B_L_law_27 := by
  intro n M i hi hn hI
  obtain ⟨h0, ⟨fs5, h5⟩, ⟨fs69, h69⟩, -, -⟩ := hB n M hI
  refine wS_seq (wS_if (wC_kI (wI_vI (wV_V (wR_A (wA_lA rfl rfl (wR_I (wI_scr 1 rfl h0 hL hi (by decide) (wR_0 ⟨isR_of h5, ?_⟩)))))))))
  refine (h _ n M hn hI).mono ?_
  rintro v M1 ⟨x, rfl, e0, ⟨fs1, e1⟩, h2⟩
  refine ⟨x, rfl, wI_vI (wV_V (wR_A (wA_lA rfl rfl (wR_I (wI_scr 1 rfl (e0.trans h0) hL hi (by decide) (wR_0 ⟨isR_of e1, ?_⟩))))))⟩
  refine h2.mono ?_
  rintro w M2 ⟨rfl, hI2⟩
  exact ⟨x, rfl, fun q => absurd q (by simp [oNe]), fun _ => wS_nop ⟨fun _ => wS_brk ⟨rfl, rfl, hI2⟩, fun q => absurd rfl q⟩⟩
theorem case_28 (hB : Base L xs Inv) (hL : L ≤ 3072) (h : ∀ a b, OKf Inv a b) : CaseOK L xs Inv B_L_law_28 := by
  intro n M i hi hn hI
  obtain ⟨h0, ⟨fs5, h5⟩, ⟨fs69, h69⟩, -, -⟩ := hB n M hI
  refine wS_seq (wS_scp (wS_seq (wS_setI (wI_vI (wV_S (wR_A (wA_lA rfl rfl (wR_I (wI_scr 1 rfl h0 hL hi (by decide) (wR_I (wI_scr 2 rfl h0 hL hi (by decide) (wR_A (wA_lA rfl rfl (wR_0 ?_))))))))))))))
  refine (h _ _ n M hn hI).mono ?_
  rintro v M1 ⟨th, f, rfl, e0, ⟨fs1, e1⟩, e96, h2⟩
  refine ⟨th, rfl, fun _ => ?_, fun q => absurd rfl q⟩
  refine wS_seq (wS_setI (wI_vI (wV_V (wR_A (wA_lA rfl rfl (wR_I (wI_scr 1 rfl (e0.trans h0) hL hi (by decide) (wR_I (wI_scr 2 rfl (e0.trans h0) hL hi (by decide) (wR_0 ⟨isR_of e1, ?_⟩))))))))))
  refine h2.mono ?_
  rintro w M2 ⟨y, rfl, ⟨fs2, e2⟩, h3⟩
  refine ⟨y, rfl, fun _ => ?_, fun q => absurd rfl q⟩
  refine wS_seq (wS_if (wC_kI (wI_vI (wV_V (wR_A (wA_lA rfl rfl (wR_0 ⟨isR_of e2, ?_⟩)))))))
  refine h3.mono ?_
  rintro u M3 ⟨rfl, e3, e4, hI3⟩
  refine ⟨th, rfl, wI_lI rfl rfl ⟨fun q => absurd q (by simp [oNe]), fun _ => wS_nop ⟨fun _ => ?_, fun q => absurd rfl q⟩⟩⟩
  refine wS_if (wC_and (wC_kI (wI_lI rfl rfl (wI_cI ⟨fun q => ?_, fun q => ⟨fun q => absurd q (by decide), fun _ => wS_nop ⟨fun _ => wS_brk ⟨rfl, rfl, hI3⟩, fun q => absurd rfl q⟩⟩⟩))))
  have hth : th = 0 := by simpa [oEq] using q
  refine wC_kJ (wJ_gJ (wA_lA rfl rfl ⟨96, rfl, wI_cI ⟨f 0, rdJ_of e3 (by decide), wJ_iJ (wI_lI rfl rfl ⟨fun q => ?_, fun _ => wS_nop ⟨fun _ => wS_brk ⟨rfl, rfl, hI3⟩, fun q => absurd rfl q⟩⟩)⟩⟩))
  exact absurd q (by simp [jNe, e4 hth])
theorem case_29 (hB : Base L xs Inv) (hL : L ≤ 3072) (h : ∀ a1 a2 a3 a4 : Int32, OK2 Inv F_X11_load F_X12_load [.int a1, .int a2, .int a3, .int a4]) : CaseOK L xs Inv B_L_law_29 := by
  intro n M i hi hn hI
  obtain ⟨h0, ⟨fs5, h5⟩, ⟨fs69, h69⟩, -, -⟩ := hB n M hI
  refine wS_seq (wS_if (wC_kI (wI_vI (wV_V (wR_A (wA_lA rfl rfl (wR_I (wI_scr 1 rfl h0 hL hi (by decide) (wR_I (wI_scr 2 rfl h0 hL hi (by decide) (wR_I (wI_scr 3 rfl h0 hL hi (by decide) (wR_I (wI_scr 4 rfl h0 hL hi (by decide) (wR_0 ⟨isR_of h5, ?_⟩)))))))))))))))
  refine (h _ _ _ _ n M hn hI).mono ?_
  rintro v M1 ⟨x, rfl, e0, ⟨fs1, e1⟩, h2⟩
  refine ⟨x, rfl, wI_vI (wV_V (wR_A (wA_lA rfl rfl (wR_I (wI_scr 1 rfl (e0.trans h0) hL hi (by decide) (wR_I (wI_scr 2 rfl (e0.trans h0) hL hi (by decide) (wR_I (wI_scr 3 rfl (e0.trans h0) hL hi (by decide) (wR_I (wI_scr 4 rfl (e0.trans h0) hL hi (by decide) (wR_0 ⟨isR_of e1, ?_⟩))))))))))))⟩
  refine h2.mono ?_
  rintro w M2 ⟨rfl, hI2⟩
  exact ⟨x, rfl, fun q => absurd q (by simp [oNe]), fun _ => wS_nop ⟨fun _ => wS_brk ⟨rfl, rfl, hI2⟩, fun q => absurd rfl q⟩⟩
theorem case_30 (hB : Base L xs Inv) (hL : L ≤ 3072) (h : ∀ a1 : Int32, OK2 Inv F_X11_overloaded F_X12_overloaded [.int a1]) : CaseOK L xs Inv B_L_law_30 := by
  intro n M i hi hn hI
  obtain ⟨h0, ⟨fs5, h5⟩, ⟨fs69, h69⟩, -, -⟩ := hB n M hI
  refine wS_seq (wS_if (wC_kI (wI_vI (wV_V (wR_A (wA_lA rfl rfl (wR_I (wI_scr 1 rfl h0 hL hi (by decide) (wR_0 ⟨isR_of h5, ?_⟩)))))))))
  refine (h _ n M hn hI).mono ?_
  rintro v M1 ⟨x, rfl, e0, ⟨fs1, e1⟩, h2⟩
  refine ⟨x, rfl, wI_vI (wV_V (wR_A (wA_lA rfl rfl (wR_I (wI_scr 1 rfl (e0.trans h0) hL hi (by decide) (wR_0 ⟨isR_of e1, ?_⟩))))))⟩
  refine h2.mono ?_
  rintro w M2 ⟨rfl, hI2⟩
  exact ⟨x, rfl, fun q => absurd q (by simp [oNe]), fun _ => wS_nop ⟨fun _ => wS_brk ⟨rfl, rfl, hI2⟩, fun q => absurd rfl q⟩⟩
theorem case_31 (hB : Base L xs Inv) (hL : L ≤ 3072) (h : ∀ a1 a2 a3 a4 : Int32, OK2 Inv F_X11_light F_X12_light [.int a1, .int a2, .int a3, .int a4]) : CaseOK L xs Inv B_L_law_31 := by
  intro n M i hi hn hI
  obtain ⟨h0, ⟨fs5, h5⟩, ⟨fs69, h69⟩, -, -⟩ := hB n M hI
  refine wS_seq (wS_if (wC_kI (wI_vI (wV_V (wR_A (wA_lA rfl rfl (wR_I (wI_scr 1 rfl h0 hL hi (by decide) (wR_I (wI_scr 2 rfl h0 hL hi (by decide) (wR_I (wI_scr 3 rfl h0 hL hi (by decide) (wR_I (wI_scr 4 rfl h0 hL hi (by decide) (wR_0 ⟨isR_of h5, ?_⟩)))))))))))))))
  refine (h _ _ _ _ n M hn hI).mono ?_
  rintro v M1 ⟨x, rfl, e0, ⟨fs1, e1⟩, h2⟩
  refine ⟨x, rfl, wI_vI (wV_V (wR_A (wA_lA rfl rfl (wR_I (wI_scr 1 rfl (e0.trans h0) hL hi (by decide) (wR_I (wI_scr 2 rfl (e0.trans h0) hL hi (by decide) (wR_I (wI_scr 3 rfl (e0.trans h0) hL hi (by decide) (wR_I (wI_scr 4 rfl (e0.trans h0) hL hi (by decide) (wR_0 ⟨isR_of e1, ?_⟩))))))))))))⟩
  refine h2.mono ?_
  rintro w M2 ⟨rfl, hI2⟩
  exact ⟨x, rfl, fun q => absurd q (by simp [oNe]), fun _ => wS_nop ⟨fun _ => wS_brk ⟨rfl, rfl, hI2⟩, fun q => absurd rfl q⟩⟩
theorem case_32 (hB : Base L xs Inv) (hL : L ≤ 3072) (h : ∀ a1 a2 : Int32, OK2 Inv F_X11_dark F_X12_dark [.int a1, .int a2]) : CaseOK L xs Inv B_L_law_32 := by
  intro n M i hi hn hI
  obtain ⟨h0, ⟨fs5, h5⟩, ⟨fs69, h69⟩, -, -⟩ := hB n M hI
  refine wS_seq (wS_if (wC_kI (wI_vI (wV_V (wR_A (wA_lA rfl rfl (wR_I (wI_scr 1 rfl h0 hL hi (by decide) (wR_I (wI_scr 2 rfl h0 hL hi (by decide) (wR_0 ⟨isR_of h5, ?_⟩)))))))))))
  refine (h _ _ n M hn hI).mono ?_
  rintro v M1 ⟨x, rfl, e0, ⟨fs1, e1⟩, h2⟩
  refine ⟨x, rfl, wI_vI (wV_V (wR_A (wA_lA rfl rfl (wR_I (wI_scr 1 rfl (e0.trans h0) hL hi (by decide) (wR_I (wI_scr 2 rfl (e0.trans h0) hL hi (by decide) (wR_0 ⟨isR_of e1, ?_⟩))))))))⟩
  refine h2.mono ?_
  rintro w M2 ⟨rfl, hI2⟩
  exact ⟨x, rfl, fun q => absurd q (by simp [oNe]), fun _ => wS_nop ⟨fun _ => wS_brk ⟨rfl, rfl, hI2⟩, fun q => absurd rfl q⟩⟩
theorem case_33 (hB : Base L xs Inv) (hL : L ≤ 3072) (h : ∀ a1 : Int32, OK2 Inv F_X11_faces F_X12_faces [.int a1]) : CaseOK L xs Inv B_L_law_33 := by
  intro n M i hi hn hI
  obtain ⟨h0, ⟨fs5, h5⟩, ⟨fs69, h69⟩, -, -⟩ := hB n M hI
  refine wS_seq (wS_if (wC_kI (wI_vI (wV_V (wR_A (wA_lA rfl rfl (wR_I (wI_scr 1 rfl h0 hL hi (by decide) (wR_0 ⟨isR_of h5, ?_⟩)))))))))
  refine (h _ n M hn hI).mono ?_
  rintro v M1 ⟨x, rfl, e0, ⟨fs1, e1⟩, h2⟩
  refine ⟨x, rfl, wI_vI (wV_V (wR_A (wA_lA rfl rfl (wR_I (wI_scr 1 rfl (e0.trans h0) hL hi (by decide) (wR_0 ⟨isR_of e1, ?_⟩))))))⟩
  refine h2.mono ?_
  rintro w M2 ⟨rfl, hI2⟩
  exact ⟨x, rfl, fun q => absurd q (by simp [oNe]), fun _ => wS_nop ⟨fun _ => wS_brk ⟨rfl, rfl, hI2⟩, fun q => absurd rfl q⟩⟩
theorem case_34 (hB : Base L xs Inv) (hL : L ≤ 3072) (h : ∀ a1 a2 a3 : Int32, OK2 Inv F_X11_path F_X12_path [.int a1, .int a2, .int a3]) : CaseOK L xs Inv B_L_law_34 := by
  intro n M i hi hn hI
  obtain ⟨h0, ⟨fs5, h5⟩, ⟨fs69, h69⟩, -, -⟩ := hB n M hI
  refine wS_seq (wS_if (wC_kI (wI_vI (wV_V (wR_A (wA_lA rfl rfl (wR_I (wI_scr 1 rfl h0 hL hi (by decide) (wR_I (wI_scr 2 rfl h0 hL hi (by decide) (wR_I (wI_scr 3 rfl h0 hL hi (by decide) (wR_0 ⟨isR_of h5, ?_⟩)))))))))))))
  refine (h _ _ _ n M hn hI).mono ?_
  rintro v M1 ⟨x, rfl, e0, ⟨fs1, e1⟩, h2⟩
  refine ⟨x, rfl, wI_vI (wV_V (wR_A (wA_lA rfl rfl (wR_I (wI_scr 1 rfl (e0.trans h0) hL hi (by decide) (wR_I (wI_scr 2 rfl (e0.trans h0) hL hi (by decide) (wR_I (wI_scr 3 rfl (e0.trans h0) hL hi (by decide) (wR_0 ⟨isR_of e1, ?_⟩))))))))))⟩
  refine h2.mono ?_
  rintro w M2 ⟨rfl, hI2⟩
  exact ⟨x, rfl, fun q => absurd q (by simp [oNe]), fun _ => wS_nop ⟨fun _ => wS_brk ⟨rfl, rfl, hI2⟩, fun q => absurd rfl q⟩⟩
theorem case_35 (hB : Base L xs Inv) (hL : L ≤ 3072) (h : ∀ a1 a2 : Int32, OK2 Inv F_X11_places F_X12_places [.int a1, .int a2]) : CaseOK L xs Inv B_L_law_35 := by
  intro n M i hi hn hI
  obtain ⟨h0, ⟨fs5, h5⟩, ⟨fs69, h69⟩, -, -⟩ := hB n M hI
  refine wS_seq (wS_if (wC_kI (wI_vI (wV_V (wR_A (wA_lA rfl rfl (wR_I (wI_scr 1 rfl h0 hL hi (by decide) (wR_I (wI_scr 2 rfl h0 hL hi (by decide) (wR_0 ⟨isR_of h5, ?_⟩)))))))))))
  refine (h _ _ n M hn hI).mono ?_
  rintro v M1 ⟨x, rfl, e0, ⟨fs1, e1⟩, h2⟩
  refine ⟨x, rfl, wI_vI (wV_V (wR_A (wA_lA rfl rfl (wR_I (wI_scr 1 rfl (e0.trans h0) hL hi (by decide) (wR_I (wI_scr 2 rfl (e0.trans h0) hL hi (by decide) (wR_0 ⟨isR_of e1, ?_⟩))))))))⟩
  refine h2.mono ?_
  rintro w M2 ⟨rfl, hI2⟩
  exact ⟨x, rfl, fun q => absurd q (by simp [oNe]), fun _ => wS_nop ⟨fun _ => wS_brk ⟨rfl, rfl, hI2⟩, fun q => absurd rfl q⟩⟩
theorem case_36 (hB : Base L xs Inv) (hL : L ≤ 3072) (h : ∀ a1 a2 a3 : Int32, OK2 Inv F_X11_place F_X12_place [.int a1, .int a2, .int a3]) : CaseOK L xs Inv B_L_law_36 := by
  intro n M i hi hn hI
  obtain ⟨h0, ⟨fs5, h5⟩, ⟨fs69, h69⟩, -, -⟩ := hB n M hI
  refine wS_seq (wS_if (wC_kI (wI_vI (wV_V (wR_A (wA_lA rfl rfl (wR_I (wI_scr 1 rfl h0 hL hi (by decide) (wR_I (wI_scr 2 rfl h0 hL hi (by decide) (wR_I (wI_scr 3 rfl h0 hL hi (by decide) (wR_0 ⟨isR_of h5, ?_⟩)))))))))))))
  refine (h _ _ _ n M hn hI).mono ?_
  rintro v M1 ⟨x, rfl, e0, ⟨fs1, e1⟩, h2⟩
  refine ⟨x, rfl, wI_vI (wV_V (wR_A (wA_lA rfl rfl (wR_I (wI_scr 1 rfl (e0.trans h0) hL hi (by decide) (wR_I (wI_scr 2 rfl (e0.trans h0) hL hi (by decide) (wR_I (wI_scr 3 rfl (e0.trans h0) hL hi (by decide) (wR_0 ⟨isR_of e1, ?_⟩))))))))))⟩
  refine h2.mono ?_
  rintro w M2 ⟨rfl, hI2⟩
  exact ⟨x, rfl, fun q => absurd q (by simp [oNe]), fun _ => wS_nop ⟨fun _ => wS_brk ⟨rfl, rfl, hI2⟩, fun q => absurd rfl q⟩⟩
theorem case_37 (hB : Base L xs Inv) (hL : L ≤ 3072) (h : ∀ a1 a2 : Int32, OK2 Inv F_X11_differs F_X12_differs [.int a1, .int a2]) : CaseOK L xs Inv B_L_law_37 := by
  intro n M i hi hn hI
  obtain ⟨h0, ⟨fs5, h5⟩, ⟨fs69, h69⟩, -, -⟩ := hB n M hI
  refine wS_seq (wS_if (wC_kI (wI_vI (wV_V (wR_A (wA_lA rfl rfl (wR_I (wI_scr 1 rfl h0 hL hi (by decide) (wR_I (wI_scr 2 rfl h0 hL hi (by decide) (wR_0 ⟨isR_of h5, ?_⟩)))))))))))
  refine (h _ _ n M hn hI).mono ?_
  rintro v M1 ⟨x, rfl, e0, ⟨fs1, e1⟩, h2⟩
  refine ⟨x, rfl, wI_vI (wV_V (wR_A (wA_lA rfl rfl (wR_I (wI_scr 1 rfl (e0.trans h0) hL hi (by decide) (wR_I (wI_scr 2 rfl (e0.trans h0) hL hi (by decide) (wR_0 ⟨isR_of e1, ?_⟩))))))))⟩
  refine h2.mono ?_
  rintro w M2 ⟨rfl, hI2⟩
  exact ⟨x, rfl, fun q => absurd q (by simp [oNe]), fun _ => wS_nop ⟨fun _ => wS_brk ⟨rfl, rfl, hI2⟩, fun q => absurd rfl q⟩⟩
end LOOP
def AllOK (Inv : Nat → Mm → Prop) : Prop := (∀ a1 a2 a3 a4 a5 : Int32, (a5 = 0 ∨ a5 = 1) → OK2 Inv F_X11_kind F_X12_kind [.int a1, .int a2, .int a3, .int a4, .int a5]) ∧ (∀ a1 a2 : Int32, OK2 Inv F_X11_product F_X12_product [.int a1, .int a2]) ∧ (∀ a1 a2 : Int32, OK2 Inv F_X11_layer F_X12_layer [.int a1, .int a2]) ∧ (∀ a1 a2 a3 a4 : Int32, OK2 Inv F_X11_row F_X12_row [.int a1, .int a2, .int a3, .int a4]) ∧ (∀ a1 a2 : Int32, OK2 Inv F_X11_less F_X12_less [.int a1, .int a2]) ∧ (∀ a1 a2 a3 a4 a5 : Int32, OK2 Inv F_X11_put F_X12_put [.int a1, .int a2, .int a3, .int a4, .int a5]) ∧ (∀ a1 a2 a3 a4 a5 : Int32, OK2 Inv F_X11_face F_X12_face [.int a1, .int a2, .int a3, .int a4, .int a5]) ∧ (∀ a1 a2 a3 a4 : Int32, OK2 Inv F_X11_there F_X12_there [.int a1, .int a2, .int a3, .int a4]) ∧ (∀ a1 a2 a3 a4 : Int32, OK2 Inv F_X11_at F_X12_at [.int a1, .int a2, .int a3, .int a4]) ∧ (∀ a1 a2 a3 a4 : Int32, OK2 Inv F_X11_turnAt F_X12_turnAt [.int a1, .int a2, .int a3, .int a4]) ∧ (∀ a1 a2 : Int32, OK2 Inv F_X11_share F_X12_share [.int a1, .int a2]) ∧ (∀ a1 a2 : Int32, OK2 Inv F_X11_keep F_X12_keep [.int a1, .int a2]) ∧ (∀ a1 a2 : Int32, OK2 Inv F_X11_back F_X12_back [.int a1, .int a2]) ∧ (∀ a1 : Int32, OK2 Inv F_X11_forget F_X12_forget [.int a1]) ∧ (∀ a1 a2 a3 a4 a5 : Int32, OK2 Inv F_X11_same F_X12_same [.int a1, .int a2, .int a3, .int a4, .int a5]) ∧ (∀ a1 : Int32, OK2 Inv F_X11_made F_X12_made [.int a1]) ∧ (∀ a1 : Int32, OK2 Inv F_X11_box F_X12_box [.int a1]) ∧ (∀ a1 a2 a3 : Int32, OK2 Inv F_X11_fill F_X12_fill [.int a1, .int a2, .int a3]) ∧ (∀ a1 a2 a3 : Int32, OK2 Inv F_X11_replace F_X12_replace [.int a1, .int a2, .int a3]) ∧ (∀ a1 a2 : Int32, OK2 Inv F_X11_count F_X12_count [.int a1, .int a2]) ∧ (∀ a1 : Int32, OK2 Inv F_X11_hollow F_X12_hollow [.int a1]) ∧ (∀ a1 a2 a3 a4 : Int32, (a4 = 0 ∨ a4 = 1) → OK2 Inv F_X11_move F_X12_move [.int a1, .int a2, .int a3, .int a4]) ∧ (∀ a1 a2 : Int32, OK2 Inv F_X11_turnBox F_X12_turnBox [.int a1, .int a2]) ∧ (∀ a1 a2 a3 a4 a5 : Int32, OK2 Inv F_X11_cut F_X12_cut [.int a1, .int a2, .int a3, .int a4, .int a5]) ∧ (∀ a1 : Int32, OK2 Inv F_X11_parts F_X12_parts [.int a1]) ∧ (∀ a1 a2 a3 a4 : Int32, OK2 Inv F_X11_part F_X12_part [.int a1, .int a2, .int a3, .int a4]) ∧ (∀ a1 a2 a3 : Int32, OK2 Inv F_X11_partOf F_X12_partOf [.int a1, .int a2, .int a3]) ∧ (∀ a1 : Int32, OK2 Inv F_X11_settle F_X12_settle [.int a1]) ∧ (∀ a b, OKf Inv a b) ∧ (∀ a1 a2 a3 a4 : Int32, OK2 Inv F_X11_load F_X12_load [.int a1, .int a2, .int a3, .int a4]) ∧ (∀ a1 : Int32, OK2 Inv F_X11_overloaded F_X12_overloaded [.int a1]) ∧ (∀ a1 a2 a3 a4 : Int32, OK2 Inv F_X11_light F_X12_light [.int a1, .int a2, .int a3, .int a4]) ∧ (∀ a1 a2 : Int32, OK2 Inv F_X11_dark F_X12_dark [.int a1, .int a2]) ∧ (∀ a1 : Int32, OK2 Inv F_X11_faces F_X12_faces [.int a1]) ∧ (∀ a1 a2 a3 : Int32, OK2 Inv F_X11_path F_X12_path [.int a1, .int a2, .int a3]) ∧ (∀ a1 a2 : Int32, OK2 Inv F_X11_places F_X12_places [.int a1, .int a2]) ∧ (∀ a1 a2 a3 : Int32, OK2 Inv F_X11_place F_X12_place [.int a1, .int a2, .int a3]) ∧ (∀ a1 a2 : Int32, OK2 Inv F_X11_differs F_X12_differs [.int a1, .int a2])
theorem all_cases {L : Nat} {xs : Nat → Int32} {Inv : Nat → Mm → Prop} (hB : Base L xs Inv) (hL : L ≤ 3072) (h : AllOK Inv) : ∀ B ∈ [B_L_law_0, B_L_law_1, B_L_law_2, B_L_law_3, B_L_law_4, B_L_law_5, B_L_law_6, B_L_law_7, B_L_law_8, B_L_law_9, B_L_law_10, B_L_law_11, B_L_law_12, B_L_law_13, B_L_law_14, B_L_law_15, B_L_law_16, B_L_law_17, B_L_law_18, B_L_law_19, B_L_law_20, B_L_law_21, B_L_law_22, B_L_law_23, B_L_law_24, B_L_law_25, B_L_law_26, B_L_law_27, B_L_law_28, B_L_law_29, B_L_law_30, B_L_law_31, B_L_law_32, B_L_law_33, B_L_law_34, B_L_law_35, B_L_law_36, B_L_law_37], CaseOK L xs Inv B := by
  obtain ⟨h0, h1, h2, h3, h4, h5, h6, h7, h8, h9, h10, h11, h12, h13, h14, h15, h16, h17, h18, h19, h20, h21, h22, h23, h24, h25, h26, h27, h28, h29, h30, h31, h32, h33, h34, h35, h36, h37⟩ := h
  intro B hm
  simp only [List.mem_cons, List.not_mem_nil, or_false] at hm
  rcases hm with rfl | rfl | rfl | rfl | rfl | rfl | rfl | rfl | rfl | rfl | rfl | rfl | rfl | rfl | rfl | rfl | rfl | rfl | rfl | rfl | rfl | rfl | rfl | rfl | rfl | rfl | rfl | rfl | rfl | rfl | rfl | rfl | rfl | rfl | rfl | rfl | rfl | rfl
  · exact case_0 hB hL h0
  · exact case_1 hB hL h1
  · exact case_2 hB hL h2
  · exact case_3 hB hL h3
  · exact case_4 hB hL h4
  · exact case_5 hB hL h5
  · exact case_6 hB hL h6
  · exact case_7 hB hL h7
  · exact case_8 hB hL h8
  · exact case_9 hB hL h9
  · exact case_10 hB hL h10
  · exact case_11 hB hL h11
  · exact case_12 hB hL h12
  · exact case_13 hB hL h13
  · exact case_14 hB hL h14
  · exact case_15 hB hL h15
  · exact case_16 hB hL h16
  · exact case_17 hB hL h17
  · exact case_18 hB hL h18
  · exact case_19 hB hL h19
  · exact case_20 hB hL h20
  · exact case_21 hB hL h21
  · exact case_22 hB hL h22
  · exact case_23 hB hL h23
  · exact case_24 hB hL h24
  · exact case_25 hB hL h25
  · exact case_26 hB hL h26
  · exact case_27 hB hL h27
  · exact case_28 hB hL h28
  · exact case_29 hB hL h29
  · exact case_30 hB hL h30
  · exact case_31 hB hL h31
  · exact case_32 hB hL h32
  · exact case_33 hB hL h33
  · exact case_34 hB hL h34
  · exact case_35 hB hL h35
  · exact case_36 hB hL h36
  · exact case_37 hB hL h37
