/-! THE CODE DOES WHAT IT MEANS, second half: conditions, arguments, calls, statements, methods -/
section Conds
variable {I : MI} {d pc p1 p2 : Nat}
theorem ic_bin {op : Int32 → Int32 → Bool} {pT pF : Nat} {a b : DI} (ha : IE .int I d pc p1 a) (hb : IE .int I (d + 1) p1 p2 b)
    (hop : ∀ (G : GT) (L : Lv) (st : List Value) (M : Mm) (x y : Int32), CX G I → (op x y = true → PT G pT L st M) → (op x y = false → PT G pF L st M) → PT G p2 L (.int y :: .int x :: st) M) : IC I d pc pT pF (kI op a b) := by
  intro L M w M' h
  obtain ⟨⟨x, M1⟩, h1, h⟩ := Option.bind_eq_some_iff.mp h
  obtain ⟨⟨y, M2⟩, h2, h⟩ := Option.map_eq_some_iff.mp h
  cases h
  obtain ⟨l1, k1⟩ := ha L M x M1 h1
  obtain ⟨l2, k2⟩ := hb L M1 y M2 h2
  exact ⟨l1.tr l2, fun G st C hs hw hr kt kf => k1 G st C hs hw (hr.dn l2) (k2 G _ C (csum_int x hs) (hw.up l1) hr (hop G L st M2 x y C kt kf))⟩
theorem ic_zero {op : Int32 → Int32 → Bool} {pT pF : Nat} {a : DI} (ha : IE .int I d pc p1 a)
    (hop : ∀ (G : GT) (L : Lv) (st : List Value) (M : Mm) (x : Int32), CX G I → (op x 0 = true → PT G pT L st M) → (op x 0 = false → PT G pF L st M) → PT G p1 L (.int x :: st) M) : IC I d pc pT pF (kI op a (cI 0)) := by
  intro L M w M' h
  obtain ⟨⟨x, M1⟩, h1, h⟩ := Option.bind_eq_some_iff.mp h
  obtain ⟨⟨y, M2⟩, h2, h⟩ := Option.map_eq_some_iff.mp h
  cases h
  obtain ⟨rfl, rfl⟩ := some2 h2
  obtain ⟨l1, k1⟩ := ha L M x M1 h1
  exact ⟨l1, fun G st C hs hw hr kt kf => k1 G st C hs hw hr (hop G L st M1 x C kt kf)⟩
theorem ic_eq_n {a b : DI} {off : Int} {pF : Nat} (ha : IE .int I d pc p1 a) (hb : IE .int I (d + 1) p1 p2 b) (hd : decode I.1 p2 = .ok (.if_icmp .ne off, 3)) (ht : (p2 : Int) + off = (pF : Int)) : IC I d pc (p2 + 3) pF (kI oEq a b) :=
  ic_bin ha hb fun G L st M x y C kt kf => pt_icmp_ne C hd ht (fun h => kf (by simpa [oEq] using h)) (fun h => kt (by simpa [oEq] using h))
theorem iz_eq_n {a : DI} {off : Int} {pF : Nat} (ha : IE .int I d pc p1 a) (hd : decode I.1 p1 = .ok (.ifCond .ne off, 3)) (ht : (p1 : Int) + off = (pF : Int)) : IC I d pc (p1 + 3) pF (kI oEq a (cI 0)) :=
  ic_zero ha fun G L st M x C kt kf => pt_if_ne C hd ht (fun h => kf (by simpa [oEq] using h)) (fun h => kt (by simpa [oEq] using h))
theorem ic_eq_t {a b : DI} {off : Int} {pT : Nat} (ha : IE .int I d pc p1 a) (hb : IE .int I (d + 1) p1 p2 b) (hd : decode I.1 p2 = .ok (.if_icmp .eq off, 3)) (ht : (p2 : Int) + off = (pT : Int)) : IC I d pc pT (p2 + 3) (kI oEq a b) :=
  ic_bin ha hb fun G L st M x y C kt kf => pt_icmp_eq C hd ht (fun h => kt (by simpa [oEq] using h)) (fun h => kf (by simpa [oEq] using h))
theorem iz_eq_t {a : DI} {off : Int} {pT : Nat} (ha : IE .int I d pc p1 a) (hd : decode I.1 p1 = .ok (.ifCond .eq off, 3)) (ht : (p1 : Int) + off = (pT : Int)) : IC I d pc pT (p1 + 3) (kI oEq a (cI 0)) :=
  ic_zero ha fun G L st M x C kt kf => pt_if_eq C hd ht (fun h => kt (by simpa [oEq] using h)) (fun h => kf (by simpa [oEq] using h))
theorem ic_ne_n {a b : DI} {off : Int} {pF : Nat} (ha : IE .int I d pc p1 a) (hb : IE .int I (d + 1) p1 p2 b) (hd : decode I.1 p2 = .ok (.if_icmp .eq off, 3)) (ht : (p2 : Int) + off = (pF : Int)) : IC I d pc (p2 + 3) pF (kI oNe a b) :=
  ic_bin ha hb fun G L st M x y C kt kf => pt_icmp_eq C hd ht (fun h => kf (by simpa [oNe] using h)) (fun h => kt (by simpa [oNe] using h))
theorem iz_ne_n {a : DI} {off : Int} {pF : Nat} (ha : IE .int I d pc p1 a) (hd : decode I.1 p1 = .ok (.ifCond .eq off, 3)) (ht : (p1 : Int) + off = (pF : Int)) : IC I d pc (p1 + 3) pF (kI oNe a (cI 0)) :=
  ic_zero ha fun G L st M x C kt kf => pt_if_eq C hd ht (fun h => kf (by simpa [oNe] using h)) (fun h => kt (by simpa [oNe] using h))
theorem ic_ne_t {a b : DI} {off : Int} {pT : Nat} (ha : IE .int I d pc p1 a) (hb : IE .int I (d + 1) p1 p2 b) (hd : decode I.1 p2 = .ok (.if_icmp .ne off, 3)) (ht : (p2 : Int) + off = (pT : Int)) : IC I d pc pT (p2 + 3) (kI oNe a b) :=
  ic_bin ha hb fun G L st M x y C kt kf => pt_icmp_ne C hd ht (fun h => kt (by simpa [oNe] using h)) (fun h => kf (by simpa [oNe] using h))
theorem iz_ne_t {a : DI} {off : Int} {pT : Nat} (ha : IE .int I d pc p1 a) (hd : decode I.1 p1 = .ok (.ifCond .ne off, 3)) (ht : (p1 : Int) + off = (pT : Int)) : IC I d pc pT (p1 + 3) (kI oNe a (cI 0)) :=
  ic_zero ha fun G L st M x C kt kf => pt_if_ne C hd ht (fun h => kt (by simpa [oNe] using h)) (fun h => kf (by simpa [oNe] using h))
theorem ic_lt_n {a b : DI} {off : Int} {pF : Nat} (ha : IE .int I d pc p1 a) (hb : IE .int I (d + 1) p1 p2 b) (hd : decode I.1 p2 = .ok (.if_icmp .ge off, 3)) (ht : (p2 : Int) + off = (pF : Int)) : IC I d pc (p2 + 3) pF (kI oLt a b) :=
  ic_bin ha hb fun G L st M x y C kt kf => pt_icmp_ge C hd ht (fun h => kf (by simp only [oLt, decide_eq_true_eq, decide_eq_false_iff_not, Int32.lt_iff_toInt_lt, Int32.le_iff_toInt_le] at h ⊢; omega)) (fun h => kt (by simp only [oLt, decide_eq_true_eq, decide_eq_false_iff_not, Int32.lt_iff_toInt_lt, Int32.le_iff_toInt_le] at h ⊢; omega))
theorem iz_lt_n {a : DI} {off : Int} {pF : Nat} (ha : IE .int I d pc p1 a) (hd : decode I.1 p1 = .ok (.ifCond .ge off, 3)) (ht : (p1 : Int) + off = (pF : Int)) : IC I d pc (p1 + 3) pF (kI oLt a (cI 0)) :=
  ic_zero ha fun G L st M x C kt kf => pt_if_ge C hd ht (fun h => kf (by simp only [oLt, decide_eq_true_eq, decide_eq_false_iff_not, Int32.lt_iff_toInt_lt, Int32.le_iff_toInt_le] at h ⊢; omega)) (fun h => kt (by simp only [oLt, decide_eq_true_eq, decide_eq_false_iff_not, Int32.lt_iff_toInt_lt, Int32.le_iff_toInt_le] at h ⊢; omega))
theorem ic_lt_t {a b : DI} {off : Int} {pT : Nat} (ha : IE .int I d pc p1 a) (hb : IE .int I (d + 1) p1 p2 b) (hd : decode I.1 p2 = .ok (.if_icmp .lt off, 3)) (ht : (p2 : Int) + off = (pT : Int)) : IC I d pc pT (p2 + 3) (kI oLt a b) :=
  ic_bin ha hb fun G L st M x y C kt kf => pt_icmp_lt C hd ht (fun h => kt (by simp only [oLt, decide_eq_true_eq, decide_eq_false_iff_not, Int32.lt_iff_toInt_lt, Int32.le_iff_toInt_le] at h ⊢; omega)) (fun h => kf (by simp only [oLt, decide_eq_true_eq, decide_eq_false_iff_not, Int32.lt_iff_toInt_lt, Int32.le_iff_toInt_le] at h ⊢; omega))
theorem iz_lt_t {a : DI} {off : Int} {pT : Nat} (ha : IE .int I d pc p1 a) (hd : decode I.1 p1 = .ok (.ifCond .lt off, 3)) (ht : (p1 : Int) + off = (pT : Int)) : IC I d pc pT (p1 + 3) (kI oLt a (cI 0)) :=
  ic_zero ha fun G L st M x C kt kf => pt_if_lt C hd ht (fun h => kt (by simp only [oLt, decide_eq_true_eq, decide_eq_false_iff_not, Int32.lt_iff_toInt_lt, Int32.le_iff_toInt_le] at h ⊢; omega)) (fun h => kf (by simp only [oLt, decide_eq_true_eq, decide_eq_false_iff_not, Int32.lt_iff_toInt_lt, Int32.le_iff_toInt_le] at h ⊢; omega))
theorem ic_ge_n {a b : DI} {off : Int} {pF : Nat} (ha : IE .int I d pc p1 a) (hb : IE .int I (d + 1) p1 p2 b) (hd : decode I.1 p2 = .ok (.if_icmp .lt off, 3)) (ht : (p2 : Int) + off = (pF : Int)) : IC I d pc (p2 + 3) pF (kI oGe a b) :=
  ic_bin ha hb fun G L st M x y C kt kf => pt_icmp_lt C hd ht (fun h => kf (by simp only [oGe, decide_eq_true_eq, decide_eq_false_iff_not, Int32.lt_iff_toInt_lt, Int32.le_iff_toInt_le] at h ⊢; omega)) (fun h => kt (by simp only [oGe, decide_eq_true_eq, decide_eq_false_iff_not, Int32.lt_iff_toInt_lt, Int32.le_iff_toInt_le] at h ⊢; omega))
theorem iz_ge_n {a : DI} {off : Int} {pF : Nat} (ha : IE .int I d pc p1 a) (hd : decode I.1 p1 = .ok (.ifCond .lt off, 3)) (ht : (p1 : Int) + off = (pF : Int)) : IC I d pc (p1 + 3) pF (kI oGe a (cI 0)) :=
  ic_zero ha fun G L st M x C kt kf => pt_if_lt C hd ht (fun h => kf (by simp only [oGe, decide_eq_true_eq, decide_eq_false_iff_not, Int32.lt_iff_toInt_lt, Int32.le_iff_toInt_le] at h ⊢; omega)) (fun h => kt (by simp only [oGe, decide_eq_true_eq, decide_eq_false_iff_not, Int32.lt_iff_toInt_lt, Int32.le_iff_toInt_le] at h ⊢; omega))
theorem ic_ge_t {a b : DI} {off : Int} {pT : Nat} (ha : IE .int I d pc p1 a) (hb : IE .int I (d + 1) p1 p2 b) (hd : decode I.1 p2 = .ok (.if_icmp .ge off, 3)) (ht : (p2 : Int) + off = (pT : Int)) : IC I d pc pT (p2 + 3) (kI oGe a b) :=
  ic_bin ha hb fun G L st M x y C kt kf => pt_icmp_ge C hd ht (fun h => kt (by simp only [oGe, decide_eq_true_eq, decide_eq_false_iff_not, Int32.lt_iff_toInt_lt, Int32.le_iff_toInt_le] at h ⊢; omega)) (fun h => kf (by simp only [oGe, decide_eq_true_eq, decide_eq_false_iff_not, Int32.lt_iff_toInt_lt, Int32.le_iff_toInt_le] at h ⊢; omega))
theorem iz_ge_t {a : DI} {off : Int} {pT : Nat} (ha : IE .int I d pc p1 a) (hd : decode I.1 p1 = .ok (.ifCond .ge off, 3)) (ht : (p1 : Int) + off = (pT : Int)) : IC I d pc pT (p1 + 3) (kI oGe a (cI 0)) :=
  ic_zero ha fun G L st M x C kt kf => pt_if_ge C hd ht (fun h => kt (by simp only [oGe, decide_eq_true_eq, decide_eq_false_iff_not, Int32.lt_iff_toInt_lt, Int32.le_iff_toInt_le] at h ⊢; omega)) (fun h => kf (by simp only [oGe, decide_eq_true_eq, decide_eq_false_iff_not, Int32.lt_iff_toInt_lt, Int32.le_iff_toInt_le] at h ⊢; omega))
theorem ic_gt_n {a b : DI} {off : Int} {pF : Nat} (ha : IE .int I d pc p1 a) (hb : IE .int I (d + 1) p1 p2 b) (hd : decode I.1 p2 = .ok (.if_icmp .le off, 3)) (ht : (p2 : Int) + off = (pF : Int)) : IC I d pc (p2 + 3) pF (kI oGt a b) :=
  ic_bin ha hb fun G L st M x y C kt kf => pt_icmp_le C hd ht (fun h => kf (by simp only [oGt, decide_eq_true_eq, decide_eq_false_iff_not, Int32.lt_iff_toInt_lt, Int32.le_iff_toInt_le] at h ⊢; omega)) (fun h => kt (by simp only [oGt, decide_eq_true_eq, decide_eq_false_iff_not, Int32.lt_iff_toInt_lt, Int32.le_iff_toInt_le] at h ⊢; omega))
theorem iz_gt_n {a : DI} {off : Int} {pF : Nat} (ha : IE .int I d pc p1 a) (hd : decode I.1 p1 = .ok (.ifCond .le off, 3)) (ht : (p1 : Int) + off = (pF : Int)) : IC I d pc (p1 + 3) pF (kI oGt a (cI 0)) :=
  ic_zero ha fun G L st M x C kt kf => pt_if_le C hd ht (fun h => kf (by simp only [oGt, decide_eq_true_eq, decide_eq_false_iff_not, Int32.lt_iff_toInt_lt, Int32.le_iff_toInt_le] at h ⊢; omega)) (fun h => kt (by simp only [oGt, decide_eq_true_eq, decide_eq_false_iff_not, Int32.lt_iff_toInt_lt, Int32.le_iff_toInt_le] at h ⊢; omega))
theorem ic_gt_t {a b : DI} {off : Int} {pT : Nat} (ha : IE .int I d pc p1 a) (hb : IE .int I (d + 1) p1 p2 b) (hd : decode I.1 p2 = .ok (.if_icmp .gt off, 3)) (ht : (p2 : Int) + off = (pT : Int)) : IC I d pc pT (p2 + 3) (kI oGt a b) :=
  ic_bin ha hb fun G L st M x y C kt kf => pt_icmp_gt C hd ht (fun h => kt (by simp only [oGt, decide_eq_true_eq, decide_eq_false_iff_not, Int32.lt_iff_toInt_lt, Int32.le_iff_toInt_le] at h ⊢; omega)) (fun h => kf (by simp only [oGt, decide_eq_true_eq, decide_eq_false_iff_not, Int32.lt_iff_toInt_lt, Int32.le_iff_toInt_le] at h ⊢; omega))
theorem iz_gt_t {a : DI} {off : Int} {pT : Nat} (ha : IE .int I d pc p1 a) (hd : decode I.1 p1 = .ok (.ifCond .gt off, 3)) (ht : (p1 : Int) + off = (pT : Int)) : IC I d pc pT (p1 + 3) (kI oGt a (cI 0)) :=
  ic_zero ha fun G L st M x C kt kf => pt_if_gt C hd ht (fun h => kt (by simp only [oGt, decide_eq_true_eq, decide_eq_false_iff_not, Int32.lt_iff_toInt_lt, Int32.le_iff_toInt_le] at h ⊢; omega)) (fun h => kf (by simp only [oGt, decide_eq_true_eq, decide_eq_false_iff_not, Int32.lt_iff_toInt_lt, Int32.le_iff_toInt_le] at h ⊢; omega))
theorem ic_le_n {a b : DI} {off : Int} {pF : Nat} (ha : IE .int I d pc p1 a) (hb : IE .int I (d + 1) p1 p2 b) (hd : decode I.1 p2 = .ok (.if_icmp .gt off, 3)) (ht : (p2 : Int) + off = (pF : Int)) : IC I d pc (p2 + 3) pF (kI oLe a b) :=
  ic_bin ha hb fun G L st M x y C kt kf => pt_icmp_gt C hd ht (fun h => kf (by simp only [oLe, decide_eq_true_eq, decide_eq_false_iff_not, Int32.lt_iff_toInt_lt, Int32.le_iff_toInt_le] at h ⊢; omega)) (fun h => kt (by simp only [oLe, decide_eq_true_eq, decide_eq_false_iff_not, Int32.lt_iff_toInt_lt, Int32.le_iff_toInt_le] at h ⊢; omega))
theorem iz_le_n {a : DI} {off : Int} {pF : Nat} (ha : IE .int I d pc p1 a) (hd : decode I.1 p1 = .ok (.ifCond .gt off, 3)) (ht : (p1 : Int) + off = (pF : Int)) : IC I d pc (p1 + 3) pF (kI oLe a (cI 0)) :=
  ic_zero ha fun G L st M x C kt kf => pt_if_gt C hd ht (fun h => kf (by simp only [oLe, decide_eq_true_eq, decide_eq_false_iff_not, Int32.lt_iff_toInt_lt, Int32.le_iff_toInt_le] at h ⊢; omega)) (fun h => kt (by simp only [oLe, decide_eq_true_eq, decide_eq_false_iff_not, Int32.lt_iff_toInt_lt, Int32.le_iff_toInt_le] at h ⊢; omega))
theorem ic_le_t {a b : DI} {off : Int} {pT : Nat} (ha : IE .int I d pc p1 a) (hb : IE .int I (d + 1) p1 p2 b) (hd : decode I.1 p2 = .ok (.if_icmp .le off, 3)) (ht : (p2 : Int) + off = (pT : Int)) : IC I d pc pT (p2 + 3) (kI oLe a b) :=
  ic_bin ha hb fun G L st M x y C kt kf => pt_icmp_le C hd ht (fun h => kt (by simp only [oLe, decide_eq_true_eq, decide_eq_false_iff_not, Int32.lt_iff_toInt_lt, Int32.le_iff_toInt_le] at h ⊢; omega)) (fun h => kf (by simp only [oLe, decide_eq_true_eq, decide_eq_false_iff_not, Int32.lt_iff_toInt_lt, Int32.le_iff_toInt_le] at h ⊢; omega))
theorem iz_le_t {a : DI} {off : Int} {pT : Nat} (ha : IE .int I d pc p1 a) (hd : decode I.1 p1 = .ok (.ifCond .le off, 3)) (ht : (p1 : Int) + off = (pT : Int)) : IC I d pc pT (p1 + 3) (kI oLe a (cI 0)) :=
  ic_zero ha fun G L st M x C kt kf => pt_if_le C hd ht (fun h => kt (by simp only [oLe, decide_eq_true_eq, decide_eq_false_iff_not, Int32.lt_iff_toInt_lt, Int32.le_iff_toInt_le] at h ⊢; omega)) (fun h => kf (by simp only [oLe, decide_eq_true_eq, decide_eq_false_iff_not, Int32.lt_iff_toInt_lt, Int32.le_iff_toInt_le] at h ⊢; omega))
theorem ic_jump {op : Int64 → Int64 → Bool} {pT pF : Nat} {a b : DJ} (ha : IE .long I d pc p1 a) (hb : IE .long I (d + 2) p1 p2 b) (hd : decode I.1 p2 = .ok (.lcmp, 1))
    (hop : ∀ (G : GT) (L : Lv) (st : List Value) (M : Mm) (x y : Int64), CX G I → (op x y = true → PT G pT L st M) → (op x y = false → PT G pF L st M) → PT G (p2 + 1) L (.int (lg_cmp x y) :: st) M) : IC I d pc pT pF (kJ op a b) := by
  intro L M w M' h
  obtain ⟨⟨x, M1⟩, h1, h⟩ := Option.bind_eq_some_iff.mp h
  obtain ⟨⟨y, M2⟩, h2, h⟩ := Option.map_eq_some_iff.mp h
  cases h
  obtain ⟨l1, k1⟩ := ha L M x M1 h1
  obtain ⟨l2, k2⟩ := hb L M1 y M2 h2
  exact ⟨l1.tr l2, fun G st C hs hw hr kt kf => k1 G st C hs hw (hr.dn l2) (k2 G _ C (csum_long x hs) (hw.up l1) hr (fun ls H locs hl hR hS => W.lcmp C.1 C.2.1 hd (hop G L st M2 x y C kt kf ls H locs hl hR hS)))⟩
theorem ij_gt_n {a b : DJ} {off : Int} {pF : Nat} (ha : IE .long I d pc p1 a) (hb : IE .long I (d + 2) p1 p2 b) (hd : decode I.1 p2 = .ok (.lcmp, 1)) (hd2 : decode I.1 (p2 + 1) = .ok (.ifCond .le off, 3)) (ht : ((p2 + 1 : Nat) : Int) + off = (pF : Int)) : IC I d pc (p2 + 1 + 3) pF (kJ jGt a b) :=
  ic_jump ha hb hd fun G L st M x y C kt kf => pt_if_le C hd2 ht (fun h => kf (by
    have h1 := (lg_cmp_le x y).mp h
    simp only [jGt, decide_eq_false_iff_not, Int64.lt_iff_toInt_lt, Int64.le_iff_toInt_le] at h1 ⊢
    omega)) (fun h => kt (by
    have h1 : ¬ x ≤ y := fun q => h ((lg_cmp_le x y).mpr q)
    simp only [jGt, decide_eq_true_eq, Int64.lt_iff_toInt_lt, Int64.le_iff_toInt_le] at h1 ⊢
    omega))
theorem ij_ne_n {a b : DJ} {off : Int} {pF : Nat} (ha : IE .long I d pc p1 a) (hb : IE .long I (d + 2) p1 p2 b) (hd : decode I.1 p2 = .ok (.lcmp, 1)) (hd2 : decode I.1 (p2 + 1) = .ok (.ifCond .eq off, 3)) (ht : ((p2 + 1 : Nat) : Int) + off = (pF : Int)) : IC I d pc (p2 + 1 + 3) pF (kJ jNe a b) :=
  ic_jump ha hb hd fun G L st M x y C kt kf => pt_if_eq C hd2 ht (fun h => kf (by
    have h1 := (lg_cmp_le x y).mp (by rw [h]; decide)
    have h2 := (lg_cmp_ge x y).mp (by rw [h]; decide)
    simp only [jNe, decide_eq_false_iff_not, Decidable.not_not]
    exact Int64.le_antisymm h1 h2)) (fun h => kt (by
    simp only [jNe, decide_eq_true_eq]
    exact fun e => h ((lg_cmp_eq x y).mpr e)))
theorem ic_isnull_n {e : DA} {off : Int} {pF : Nat} (he : IE va_rf I d pc p1 e) (hd : decode I.1 p1 = .ok (.ifnonnull off, 3)) (ht : (p1 : Int) + off = (pF : Int)) : IC I d pc (p1 + 3) pF (isN e) := by
  intro L M w M' h
  obtain ⟨⟨r, M1⟩, h1, h⟩ := Option.map_eq_some_iff.mp h
  cases h
  obtain ⟨l1, k1⟩ := he L M _ M1 h1
  exact ⟨l1, fun G st C hs hw hr kt kf => k1 G st C hs hw hr (pt_ifnonnull C hd ht (fun h => kf (by cases r <;> first | rfl | exact absurd rfl h)) (fun h => kt (by cases h; rfl)))⟩
theorem ic_isnull_t {e : DA} {off : Int} {pT : Nat} (he : IE va_rf I d pc p1 e) (hd : decode I.1 p1 = .ok (.ifnull off, 3)) (ht : (p1 : Int) + off = (pT : Int)) : IC I d pc pT (p1 + 3) (isN e) := by
  intro L M w M' h
  obtain ⟨⟨r, M1⟩, h1, h⟩ := Option.map_eq_some_iff.mp h
  cases h
  obtain ⟨l1, k1⟩ := he L M _ M1 h1
  exact ⟨l1, fun G st C hs hw hr kt kf => k1 G st C hs hw hr (pt_ifnull C hd ht (fun h => kt (by cases h; rfl)) (fun h => kf (by cases r <;> first | rfl | exact absurd rfl h)))⟩
theorem ic_nonnull_n {e : DA} {off : Int} {pF : Nat} (he : IE va_rf I d pc p1 e) (hd : decode I.1 p1 = .ok (.ifnull off, 3)) (ht : (p1 : Int) + off = (pF : Int)) : IC I d pc (p1 + 3) pF (notN e) := by
  intro L M w M' h
  obtain ⟨⟨r, M1⟩, h1, h⟩ := Option.map_eq_some_iff.mp h
  cases h
  obtain ⟨l1, k1⟩ := he L M _ M1 h1
  exact ⟨l1, fun G st C hs hw hr kt kf => k1 G st C hs hw hr (pt_ifnull C hd ht (fun h => kf (by cases h; rfl)) (fun h => kt (by cases r <;> first | rfl | exact absurd rfl h)))⟩
theorem ic_nonnull_t {e : DA} {off : Int} {pT : Nat} (he : IE va_rf I d pc p1 e) (hd : decode I.1 p1 = .ok (.ifnonnull off, 3)) (ht : (p1 : Int) + off = (pT : Int)) : IC I d pc pT (p1 + 3) (notN e) := by
  intro L M w M' h
  obtain ⟨⟨r, M1⟩, h1, h⟩ := Option.map_eq_some_iff.mp h
  cases h
  obtain ⟨l1, k1⟩ := he L M _ M1 h1
  exact ⟨l1, fun G st C hs hw hr kt kf => k1 G st C hs hw hr (pt_ifnonnull C hd ht (fun h => kt (by cases r <;> first | rfl | exact absurd rfl h)) (fun h => kf (by cases h; rfl)))⟩
theorem ic_acmp_n {a b : DA} {off : Int} {pF : Nat} (ha : IE va_rf I d pc p1 a) (hb : IE va_rf I (d + 1) p1 p2 b) (hd : decode I.1 p2 = .ok (.if_acmp .ne off, 3)) (ht : (p2 : Int) + off = (pF : Int)) : IC I d pc (p2 + 3) pF (eqA a b) := by
  intro L M w M' h
  obtain ⟨⟨x, M1⟩, h1, h⟩ := Option.bind_eq_some_iff.mp h
  obtain ⟨⟨y, M2⟩, h2, h⟩ := Option.bind_eq_some_iff.mp h
  split at h
  · rename_i hh
    cases h
    obtain ⟨l1, k1⟩ := ha L M x M1 h1
    obtain ⟨l2, k2⟩ := hb L M1 y M2 h2
    refine ⟨l1.tr l2, fun G st C hs hw hr kt kf => k1 G st C hs hw (hr.dn l2) (k2 G _ C (csum_rf x hs) (hw.up l1) hr (pt_acmp C (fun X a b ea eb e => ?_) hd ht (fun h => kf (by simpa using h)) (fun h => kt (by simpa using h))))⟩
    subst ea
    subst eb
    exact adr_inj X (by simpa [hiA] using hh.1) (by simpa [hiA] using hh.2) e
  · cases h
theorem ic_and {pM pT pF : Nat} {a b : DC} (ha : IC I d pc pM pF a) (hb : IC I d pM pT pF b) : IC I d pc pT pF (andC a b) := by
  intro L M w M' h
  obtain ⟨⟨r, M1⟩, h1, h⟩ := Option.bind_eq_some_iff.mp h
  obtain ⟨l1, k1⟩ := ha L M _ M1 h1
  cases r with
  | true =>
    obtain ⟨l2, k2⟩ := hb L M1 w M' h
    exact ⟨l1.tr l2, fun G st C hs hw hr kt kf => k1 G st C hs hw (hr.dn l2) (fun _ => k2 G st C hs (hw.up l1) hr kt kf) (fun q => by cases q)⟩
  | false =>
    cases h
    exact ⟨l1, fun G st C hs hw hr kt kf => k1 G st C hs hw hr (fun q => by cases q) kf⟩
theorem ic_or {pM pT pF : Nat} {a b : DC} (ha : IC I d pc pT pM a) (hb : IC I d pM pT pF b) : IC I d pc pT pF (orC a b) := by
  intro L M w M' h
  obtain ⟨⟨r, M1⟩, h1, h⟩ := Option.bind_eq_some_iff.mp h
  obtain ⟨l1, k1⟩ := ha L M _ M1 h1
  cases r with
  | true =>
    cases h
    exact ⟨l1, fun G st C hs hw hr kt kf => k1 G st C hs hw hr kt (fun q => by cases q)⟩
  | false =>
    obtain ⟨l2, k2⟩ := hb L M1 w M' h
    exact ⟨l1.tr l2, fun G st C hs hw hr kt kf => k1 G st C hs hw (hr.dn l2) (fun q => by cases q) (fun _ => k2 G st C hs (hw.up l1) hr kt kf)⟩
theorem ic_not {pT pF : Nat} {a : DC} (ha : IC I d pc pF pT a) : IC I d pc pT pF (notC a) := by
  intro L M w M' h
  obtain ⟨⟨r, M1⟩, h1, h⟩ := Option.map_eq_some_iff.mp h
  cases h
  obtain ⟨l1, k1⟩ := ha L M _ M1 h1
  exact ⟨l1, fun G st C hs hw hr kt kf => k1 G st C hs hw hr (fun q => kf (by have q : r = true := q; rw [q]; rfl)) (fun q => kt (by have q : r = false := q; rw [q]; rfl))⟩
end Conds
