/-! the reference's layers: counted, made new, made alone -/
theorem sm_swap (n m : Nat) (f : Nat → Nat → Nat) : (sm n fun i => sm m fun j => f i j) = sm m fun j => sm n fun i => f i j := by
  have add : ∀ m (p q : Nat → Nat), (sm m fun j => p j + q j) = sm m p + sm m q := by
    intro m p q
    induction m with
    | zero => rfl
    | succ m ih => rw [sm, sm, sm, ih]; omega
  induction n with
  | zero => exact (sm_none fun _ _ => rfl).symm
  | succ n ih =>
    rw [sm, ih, ← add]
    exact sm_congr fun j _ => rfl
theorem sm_le {n : Nat} {p q : Nat → Nat} (h : ∀ i, i < n → p i ≤ q i) : sm n p ≤ sm n q := by
  induction n with
  | zero => exact Nat.le_refl _
  | succ n ih =>
    rw [sm, sm]
    have h1 := ih fun i hi => h i (by omega)
    have h2 := h n (by omega)
    omega
theorem sm_const (n c : Nat) : (sm n fun _ => c) = n * c := by
  induction n with
  | zero => rw [Nat.zero_mul]; rfl
  | succ n ih => rw [sm, ih, Nat.succ_mul]
theorem cn_some (n : Nat) (o : Option Nat) : (cn n fun l => decide (o = some l)) ≤ 1 := by
  cases o with
  | none => rw [cn_none fun i _ => decide_eq_false fun q => by cases q]; omega
  | some m =>
    by_cases e : m < n
    · rw [cn_sm, sm_one e fun i hi hne => if_neg fun q => hne (Option.some.inj (of_decide_eq_true q)).symm]
      split <;> omega
    · rw [cn_none fun i hi => decide_eq_false fun q => e (by rw [Option.some.inj q]; exact hi)]
      omega
/-- so many layers are held at most -/
theorem held_few {s : SN} {n : Nat} (h : ∀ l, l < n → 1 ≤ hcnt s l) : n ≤ 160 := by
  have h1 : (sm n fun _ => 1) ≤ sm n fun l => sm 160 fun k => if decide (nf s k = some l) = true then 1 else 0 := sm_le fun l hl => by
    have := h l hl
    unfold hcnt at this
    rw [cn_sm] at this
    exact this
  rw [sm_swap, sm_const] at h1
  have h2 : (sm 160 fun k => sm n fun l => if decide (nf s k = some l) = true then 1 else 0) ≤ sm 160 fun _ => 1 := sm_le fun k _ => by
    rw [← cn_sm]
    exact cn_some n _
  rw [sm_const] at h2
  omega
theorem rows_few {s : SN} {n : Nat} (h : ∀ r, r < n → ∃ k x, k < 160 ∧ x < 10 ∧ rwo s k x = some r) : n ≤ 1600 := by
  have h1 : (sm n fun _ => 1) ≤ sm n fun r => sm 160 fun k => sm 10 fun x => if decide (rwo s k x = some r) = true then 1 else 0 := sm_le fun r hr => by
    obtain ⟨k, x, hk, hx, e⟩ := h r hr
    have a1 := sm_pos (p := fun k => sm 10 fun x => if decide (rwo s k x = some r) = true then 1 else 0) hk
    have a2 := sm_pos (p := fun x => if decide (rwo s k x = some r) = true then 1 else 0) hx
    rw [if_pos (decide_eq_true e)] at a2
    exact Nat.le_trans a2 a1
  rw [sm_swap, sm_const] at h1
  have h2 : (sm 160 fun k => sm n fun r => sm 10 fun x => if decide (rwo s k x = some r) = true then 1 else 0) ≤ sm 160 fun _ => 10 := sm_le fun k _ => by
    rw [sm_swap]
    have : (sm 10 fun x => sm n fun r => if decide (rwo s k x = some r) = true then 1 else 0) ≤ sm 10 fun _ => 1 := sm_le fun x _ => by
      rw [← cn_sm]
      exact cn_some n _
    rw [sm_const] at this
    omega
  rw [sm_const] at h2
  omega
theorem oI_eq {o : Option Nat} {l : Nat} (hl : l < 2 ^ 31) (ho : ∀ m, o = some m → m < 2 ^ 31) : oEq (oI o) (nI l) = decide (o = some l) := by
  cases o with
  | none =>
    unfold oEq
    rw [decide_eq_decide]
    exact ⟨fun q => absurd q.symm (nI_ne hl), fun q => by cases q⟩
  | some m =>
    show oEq (nI m) (nI l) = _
    rw [oEq_nI (ho m rfl) hl, decide_eq_decide]
    exact ⟨fun q => by rw [q], fun q => Option.some.inj q⟩
theorem oI_noe {o : Option Nat} (ho : ∀ m, o = some m → m < 2 ^ 31) : oEq (oI o) (-1) = o.isNone := by
  cases o with
  | none => rfl
  | some m => exact oI_some (ho m rfl)
theorem cn_add (n : Nat) (p : Nat → Bool) : nI (cn n p) + (if p n = true then 1 else 0) = nI (cn (n + 1) p) := by
  rw [cn]
  cases p n with
  | true => rw [if_pos rfl, if_pos rfl]; exact nI_1 _
  | false => rw [if_neg (by decide), if_neg (by decide)]; exact Int32.add_zero _
section RH
variable {M : Mm} {s : SN} {th pm bm : Int32} {kn nl nr fe : Nat}
theorem RRep.hd (hR : RRep M s) : ∃ hd, M.2.2 75 = aI 0 160 hd ∧ ∀ k, k < 160 → hd k = oI (nf s k) ∧ ∀ l, nf s k = some l → l < 170 := hR.1
theorem sp_holdsOf (h69 : M.2.2 69 = .inr (11, fsRv th kn nl nr pm fe bm)) (hR : RRep M s) {l : Nat} (hl : l < 2 ^ 31) : F_X12_holdsOf [.ref 69, .int (nI l)] M = some (some (.int (nI (hcnt s l))), M) := by
  obtain ⟨hd, a1, a2⟩ := hR.1
  refine wF_eq (wF_b rfl (Nat.le_of_ble_eq_true rfl) (q_I rfl pI_cI ?_))
  refine q_for 160 (fun j L M1 => L = [some (.ref 69), some (.int (nI l)), some (.int (nI (cn j fun k => decide (nf s k = some l)))), some (.int (nI j))] ∧ M1 = M) rfl (a := 0) rfl rfl (by decide) (by decide) ⟨rfl, rfl⟩ ?_ ?_ ?_
  · rintro j L M1 ⟨rfl, -⟩
    rfl
  · rintro j L M1 hj ⟨rfl, rfl⟩
    have h9 := pI_gI (t := 0) (L := [some (.ref 69), some (.int (nI l)), some (.int (nI (cn j fun k => decide (nf s k = some l)))), some (.int (nI j))]) (pA_fA (k := 7) (pA_lA (i := 0) rfl) h69 rfl) (pI_lI (i := 3) rfl) a1 (inb_nI hj (by decide))
    rw [nI_clamp (by omega), (a2 j hj).1] at h9
    refine l_I rfl (pI_eq (pI_add (pI_lI rfl) (pI_tI (pC_eq (pC_kI h9 (pI_lI rfl)) (oI_eq hl fun m hm => by have := (a2 j hj).2 m hm; omega)) pI_cI pI_cI)) (cn_add j _)) (Or.inr ⟨by decide, by decide, rfl, rfl, rfl, rfl⟩)
  · rintro L M1 ⟨rfl, rfl⟩
    exact l_ret (pI_lI rfl) ⟨rfl, rfl, rfl⟩
/-- layer l has no rows -/
def sClr (s : SN) (l : Nat) : SN := (nf s, fun m y => if m = l then none else ng s m y, nln s, ncd s)
def sLay (s : SN) (l : Nat) (g : Nat → Option Nat) : SN := (nf s, fun m y => if m = l then g y else ng s m y, nln s, ncd s)
theorem RRep.lay {M' : Mm} {l : Nat} {g : Nat → Option Nat} {rw' : Nat → Int32} (hR : RRep M s) (hl : l < 170) (h0 : hcnt s l = 0) (hO : ∀ b, b ≠ 69 → b ≠ 77 → M'.2.2 b = M.2.2 b) (h77 : M'.2.2 77 = aI 0 1700 rw') (hg : ∀ m x, m < 170 → x < 10 → rw' (10 * m + x) = if m = l then oI (g x) else oI (ng s m x)) (hg2 : ∀ x r, x < 10 → g x = some r → r < 1710) : RRep M' (sLay s l g) := by
  obtain ⟨⟨hd, a1, a2⟩, ⟨rw9, b1, b2⟩, ⟨ln, c1, c2⟩, ⟨ck, ct, d1, d2, d3⟩, e⟩ := hR
  have hno : ∀ k, k < 160 → nf s k ≠ some l := fun k hk q => by
    have := hcnt_pos hk q
    omega
  refine ⟨⟨hd, (hO _ (by decide) (by decide)).trans a1, a2⟩, ⟨rw', h77, fun m x hm hx => ?_⟩, ⟨ln, (hO _ (by decide) (by decide)).trans c1, c2⟩, ⟨ck, ct, (hO _ (by decide) (by decide)).trans d1, (hO _ (by decide) (by decide)).trans d2, d3⟩, ?_⟩
  · rw [hg m x hm hx]
    show (if m = l then _ else _) = oI (if m = l then g x else ng s m x) ∧ ∀ r, (if m = l then g x else ng s m x) = some r → r < 1710
    by_cases em : m = l
    · rw [if_pos em, if_pos em]
      exact ⟨rfl, fun r hr => hg2 x r hx hr⟩
    · rw [if_neg em, if_neg em]
      exact ⟨rfl, (b2 m x hm hx).2⟩
  · intro k k' m m' x x' r hk hk' hx hx' h1 h2 h3 h4
    have h3 : (if m = l then g x else ng s m x) = some r := h3
    have h4 : (if m' = l then g x' else ng s m' x') = some r := h4
    rw [if_neg (fun q => hno k hk (by rw [← q]; exact h1))] at h3
    rw [if_neg (fun q => hno k' hk' (by rw [← q]; exact h2))] at h4
    exact e k k' m m' x x' r hk hk' hx hx' h1 h2 h3 h4
theorem sp_newLayer (h69 : M.2.2 69 = .inr (11, fsRv th kn nl nr pm fe bm)) (hR : RRep M s) : wF F_X12_newLayer [.ref 69] M fun v M' => ∃ l, v = some (.int (nI l)) ∧ l < 170 ∧ hcnt s l = 0 ∧ RRep M' (sLay s l fun _ => none) ∧ M'.2.2 69 = .inr (11, fsRv th kn (nl + 1) nr pm fe bm) ∧ But [69, 77] M M' := by
  obtain ⟨rw9, b1, b2⟩ := hR.2.1
  refine wF_b rfl (Nat.le_of_ble_eq_true rfl) (q_I rfl pI_cI (wS_seq ?_))
  refine wS_wh (I := fun m L M1 => ∃ l, L = [some (.ref 69), some (.int (nI l)), none] ∧ M1 = M ∧ m + l = 161 ∧ ∀ i, i < l → 1 ≤ hcnt s i) ?_ 161 _ _ ⟨0, rfl, rfl, rfl, fun i hi => absurd hi (Nat.not_lt_zero i)⟩ (by decide)
  rintro m L M1 ⟨l, rfl, rfl, hm, hall⟩
  have hl160 := held_few hall
  have hle := hcnt_le s l
  refine wC_p (pC_eq (pC_kI (pI_vV (pR_A (pA_lA rfl) (pR_I (pI_lI rfl) pR_0)) h69 (sp_holdsOf h69 hR (l := l) (by omega))) pI_cI) (oGt_nI (b := 0) (by omega) (by decide))) ⟨fun hb => ?_, fun hb => ?_⟩
  · have h0 : hcnt s l = 0 := by have := of_decide_eq_false hb; omega
    refine ⟨fun _ => ?_, fun q => absurd rfl q⟩
    refine q_for 10 (fun j L M2 => L = [some (.ref 69), some (.int (nI l)), some (.int (nI j))] ∧ But [77] M1 M2 ∧ ∃ f, M2.2.2 77 = aI 0 1700 f ∧ ∀ i, f i = if 10 * l ≤ i ∧ i < 10 * l + j then -1 else rw9 i) rfl (a := 0) rfl rfl (by decide) (by decide) ⟨rfl, But.rf, rw9, b1, fun i => by rw [if_neg (by omega)]⟩ ?_ ?_ ?_
    · rintro j L M2 ⟨rfl, -⟩
      rfl
    · rintro j L M2 hj ⟨rfl, c1, f, c2, c3⟩
      refine l_pa (j := 10 * l + j) (pA_fA (k := 9) (pA_lA rfl) ((c1.2.2 _ (by decide)).trans h69) rfl) (pI_eq (pI_add (pI_mul pI_cI (pI_lI rfl)) (pI_lI rfl)) (nI_mul10 _ _)) pI_cI c2 (by decide) (by omega) (by decide) (Or.inl rfl) (Or.inr ⟨by decide, by decide, rfl, rfl, rfl, c1.set (by decide), _, get_at, fun i => ?_⟩)
      unfold upd
      by_cases e : i = 10 * l + j
      · rw [if_pos e, if_pos (by omega)]
      · rw [if_neg e, c3]
        by_cases e2 : 10 * l ≤ i ∧ i < 10 * l + j
        · rw [if_pos e2, if_pos (by omega)]
        · rw [if_neg e2, if_neg (by omega)]
    · rintro L M2 ⟨rfl, c1, f, c2, c3⟩
      refine q_up (pA_lA rfl) pI_cI ((c1.2.2 _ (by decide)).trans h69) rfl (Nat.le_of_ble_eq_true rfl) (l_ret (pI_lI rfl) ⟨rfl, l, rfl, by omega, h0, ?_, ?_, (c1.mono (by decide)).set (by decide)⟩)
      · refine hR.lay (by omega) h0 (fun b h1 h2 => (get_ne h1).trans (c1.2.2 b (by simpa using h2))) ((get_ne (by decide)).trans c2) (fun m x hm hx => ?_) (fun x r _ q => by cases q)
        rw [c3]
        by_cases em : m = l
        · subst em
          rw [if_pos (by omega), if_pos rfl]; rfl
        · rw [if_neg (by omega), if_neg em]
          exact (b2 m x hm hx).1
      · rw [get_at, nI_1]; rfl
  · have h1 : 1 ≤ hcnt s l := by have := of_decide_eq_true hb; omega
    have hall2 : ∀ i, i < l + 1 → 1 ≤ hcnt s i := fun i hi => by
      by_cases e : i = l
      · rw [e]; exact h1
      · exact hall i (by omega)
    have := held_few hall2
    refine wS_inc rfl rfl ⟨fun q => absurd q (by decide), fun q => absurd q (by decide), fun _ _ => wS_nop ⟨rfl, m - 1, by omega, l + 1, ?_, rfl, by omega, hall2⟩⟩
    rw [← nI_1]; rfl
theorem But.two {M1 M2 : Mm} {S : List Nat} (h : But S M M1) (g : But S M1 M2) : But S M M2 := h.tr g
theorem RRep.pl {M' : Mm} {k : Nat} {o : Option Nat} {hd' : Nat → Int32} (hR : RRep M s) (hk : k < 160) (ho : ∀ l, o = some l → l < 170) (hO : ∀ b, b ≠ 69 → b ≠ 75 → M'.2.2 b = M.2.2 b) (h75 : M'.2.2 75 = aI 0 160 hd') (hh : ∀ j, j < 160 → hd' j = if j = k then oI o else oI (nf s j)) (hX : RowX (sPut s k o)) : RRep M' (sPut s k o) := by
  obtain ⟨⟨hd, a1, a2⟩, ⟨rw9, b1, b2⟩, ⟨ln, c1, c2⟩, ⟨ck, ct, d1, d2, d3⟩, e⟩ := hR
  refine ⟨⟨hd', h75, fun j hj => ?_⟩, ⟨rw9, (hO _ (by decide) (by decide)).trans b1, b2⟩, ⟨ln, (hO _ (by decide) (by decide)).trans c1, c2⟩, ⟨ck, ct, (hO _ (by decide) (by decide)).trans d1, (hO _ (by decide) (by decide)).trans d2, d3⟩, hX⟩
  rw [hh j hj]
  show (if j = k then _ else _) = oI (if j = k then o else nf s j) ∧ ∀ l, (if j = k then o else nf s j) = some l → l < 170
  by_cases ej : j = k
  · rw [if_pos ej, if_pos ej]
    exact ⟨rfl, ho⟩
  · rw [if_neg ej, if_neg ej]
    exact ⟨rfl, (a2 j hj).2⟩
theorem pI_held {Lc : Lv} {M1 : Mm} {h z i j : Nat} (h69 : M1.2.2 69 = .inr (11, fsRv th kn nl nr pm fe bm)) (hR : RRep M1 s) (hh : h < 16) (hz : z < 10) (h0 : lkp Lc 0 = some (.ref 69)) (h1 : lkp Lc i = some (.int (nI h))) (h2 : lkp Lc j = some (.int (nI z))) : pI (gI 0 (fA 11 7 (lA 0)) (bI oAdd (bI oMul (cI 10) (lI i)) (lI j))) Lc M1 (oI (nf s (10 * h + z))) := by
  obtain ⟨hd, a1, a2⟩ := hR.1
  have h9 := pI_gI (t := 0) (pA_fA (k := 7) (pA_lA h0) h69 rfl) (pI_add (pI_mul pI_cI (pI_lI h1)) (pI_lI h2)) a1 (by rw [nI_mul10]; exact inb_nI (by omega) (by decide))
  rw [nI_mul10, nI_clamp (by omega), (a2 _ (by omega)).1] at h9
  exact h9
theorem pI_rowOf {Lc : Lv} {M1 : Mm} {l x i j : Nat} (h69 : M1.2.2 69 = .inr (11, fsRv th kn nl nr pm fe bm)) (hR : RRep M1 s) (hl : l < 170) (hx : x < 10) (h0 : lkp Lc 0 = some (.ref 69)) (h1 : lkp Lc i = some (.int (nI l))) (h2 : lkp Lc j = some (.int (nI x))) : pI (gI 0 (fA 11 9 (lA 0)) (bI oAdd (bI oMul (cI 10) (lI i)) (lI j))) Lc M1 (oI (ng s l x)) := by
  obtain ⟨rw9, b1, b2⟩ := hR.2.1
  have h9 := pI_gI (t := 0) (pA_fA (k := 9) (pA_lA h0) h69 rfl) (pI_add (pI_mul pI_cI (pI_lI h1)) (pI_lI h2)) b1 (by rw [nI_mul10]; exact inb_nI (by omega) (by decide))
  rw [nI_mul10, nI_clamp (by omega), (b2 l x hl hx).1] at h9
  exact h9
theorem sp_aloneLayer {h z l : Nat} (h69 : M.2.2 69 = .inr (11, fsRv th kn nl nr pm fe bm)) (hR : RRep M s) (hh : h < 16) (hz : z < 10) (hl : nf s (10 * h + z) = some l) : wF F_X12_aloneLayer [.ref 69, .int (nI h), .int (nI z)] M fun v M' => v = none ∧ ∃ l' s', RRep M' s' ∧ OwnL s s' (10 * h + z) l l' ∧
    M'.2.2 69 = .inr (11, fsRv th kn (nl + if 2 ≤ hcnt s l then 1 else 0) nr pm fe bm) ∧ But [69, 75, 77] M M' := by
  have hk : 10 * h + z < 160 := by omega
  have hl170 : l < 170 := by
    obtain ⟨hd, a1, a2⟩ := hR.1
    exact (a2 _ hk).2 l hl
  have hle := hcnt_le s l
  have p1 := pI_held (Lc := mkL 6 [.ref 69, .int (nI h), .int (nI z)]) (i := 1) (j := 2) h69 hR hh hz rfl rfl rfl
  rw [hl] at p1
  refine wF_b rfl (Nat.le_of_ble_eq_true rfl) (q_I (v := nI l) rfl p1 ?_)
  refine q_if (pC_eq (pC_kI (pI_vV (pR_A (pA_lA rfl) (pR_I (pI_lI rfl) pR_0)) h69 (sp_holdsOf h69 hR (l := l) (by omega))) pI_cI) (oLt_nI (b := 2) (by omega) (by decide))) (fun hb => ?_) (fun hb => ?_)
  · have hb : hcnt s l < 2 := of_decide_eq_true hb
    have e : ¬ 2 ≤ hcnt s l := by omega
    refine q_retV ⟨rfl, rfl, l, s, hR, ⟨hl, fun j hj hne => ⟨rfl, fun q => e ((hcnt_two hk hl).mpr ⟨j, hj, hne, q⟩)⟩, fun _ => rfl, fun _ _ _ _ => rfl, rfl, rfl⟩, ?_, But.rf⟩
    rw [if_neg e]; exact h69
  · have hb : ¬ hcnt s l < 2 := of_decide_eq_false hb
    rw [if_pos (show 2 ≤ hcnt s l by omega)]
    refine q_Iw rfl (wI_vVw (pR_A (pA_lA rfl) pR_0) h69 ((sp_newLayer h69 hR).mono ?_))
    rintro v M1 ⟨l', rfl, c1, c2, c3, c4, c5⟩
    refine ⟨_, rfl, ?_⟩
    have hne : ∀ j, j < 160 → nf s j ≠ some l' := fun j hj q => by
      have := hcnt_pos hj q
      omega
    have hll : l ≠ l' := fun q => hne _ hk (by rw [hl, q])
    obtain ⟨rw1, b1, b2⟩ := c3.2.1
    refine q_for 10 (fun j L M2 => L = [some (.ref 69), some (.int (nI h)), some (.int (nI z)), some (.int (nI l)), some (.int (nI l')), some (.int (nI j))] ∧ But [77] M1 M2 ∧ ∃ f, M2.2.2 77 = aI 0 1700 f ∧ ∀ m x, m < 170 → x < 10 → f (10 * m + x) = if m = l' ∧ x < j then oI (ng s l x) else if m = l' then -1 else oI (ng s m x)) rfl (a := 0) rfl rfl (by decide) (by decide) ⟨rfl, But.rf, rw1, b1, fun m x hm hx => ?_⟩ ?_ ?_ ?_
    · rw [if_neg (by omega), (b2 m x hm hx).1]
      show oI (if m = l' then none else ng s m x) = _
      by_cases em : m = l'
      · rw [if_pos em, if_pos em]; rfl
      · rw [if_neg em, if_neg em]
    · rintro j L M2 ⟨rfl, -⟩
      rfl
    · rintro j L M2 hj ⟨rfl, d1, f, d2, d3⟩
      have h692 : M2.2.2 69 = .inr (11, fsRv th kn (nl + 1) nr pm fe bm) := (d1.2.2 _ (by decide)).trans c4
      have h9 := pI_gI (t := 0) (L := [some (.ref 69), some (.int (nI h)), some (.int (nI z)), some (.int (nI l)), some (.int (nI l')), some (.int (nI j))]) (pA_fA (k := 9) (pA_lA (i := 0) rfl) h692 rfl) (pI_add (pI_mul (pI_cI (v := 10)) (pI_lI (i := 3) rfl)) (pI_lI (i := 5) rfl)) d2 (by rw [nI_mul10]; exact inb_nI (by omega) (by decide))
      rw [nI_mul10, nI_clamp (by omega), d3 l j hl170 hj, if_neg (fun q => hll q.1), if_neg hll] at h9
      refine l_pa (j := 10 * l' + j) (pA_fA (k := 9) (pA_lA rfl) h692 rfl) (pI_eq (pI_add (pI_mul pI_cI (pI_lI rfl)) (pI_lI rfl)) (nI_mul10 _ _)) h9 d2 (by decide) (by omega) (by decide) (Or.inl rfl) (Or.inr ⟨by decide, by decide, rfl, rfl, rfl, d1.set (by decide), _, get_at, fun m x hm hx => ?_⟩)
      unfold upd
      by_cases e : 10 * m + x = 10 * l' + j
      · have e1 : m = l' := by omega
        have e2 : x = j := by omega
        rw [if_pos e, if_pos ⟨e1, by omega⟩, e2]
      · rw [if_neg e, d3 m x hm hx]
        by_cases em : m = l'
        · by_cases ex : x < j
          · rw [if_pos ⟨em, ex⟩, if_pos ⟨em, by omega⟩]
          · rw [if_neg (fun q => ex q.2), if_neg (c := m = l' ∧ x < j + 1) (fun q => e (by omega))]
        · rw [if_neg (fun q => em q.1), if_neg (c := m = l' ∧ x < j + 1) (fun q => em q.1)]
    · rintro L M2 ⟨rfl, d1, f, d2, d3⟩
      have h692 : M2.2.2 69 = .inr (11, fsRv th kn (nl + 1) nr pm fe bm) := (d1.2.2 _ (by decide)).trans c4
      obtain ⟨hd, a1, a2⟩ := c3.1
      have h752 : M2.2.2 75 = aI 0 160 hd := (d1.2.2 _ (by decide)).trans a1
      have hb2 : But [69, 75, 77] M M2 := (c5.mono (by decide)).tr (d1.mono (by decide))
      have r1 : RRep M2 (sLay s l' (ng s l)) := by
        refine hR.lay c1 c2 (fun b h1 h2 => (d1.2.2 b (by simpa using h2)).trans (c5.2.2 b (by simp; omega))) d2 (fun m x hm hx => ?_) (fun x r hx hr => ?_)
        · rw [d3 m x hm hx]
          by_cases em : m = l'
          · rw [if_pos ⟨em, hx⟩, if_pos em]
          · rw [if_neg (fun q => em q.1), if_neg em, if_neg em]
        · exact (hR.2.1.choose_spec.2 l x hl170 hx).2 r hr
      let s' : SN := sPut (sLay s l' (ng s l)) (10 * h + z) (some l')
      have hown : OwnL s s' (10 * h + z) l l' := ⟨if_pos rfl, fun j hj hn => ⟨if_neg hn, hne j hj⟩, fun x => if_pos rfl, fun m _ hm x => if_neg hm, rfl, rfl⟩
      refine q_pa (j := 10 * h + z) (pA_fA (k := 7) (pA_lA rfl) h692 rfl) (pI_eq (pI_add (pI_mul pI_cI (pI_lI rfl)) (pI_lI rfl)) (nI_mul10 _ _)) (pI_lI rfl) h752 (by decide) hk (by decide) (Or.inl rfl) (wS_retV ⟨rfl, rfl, l', s', r1.pl hk (fun m hm => by cases hm; exact c1) (fun b _ h2 => get_ne h2) get_at (fun j hj => ?_) ?_, hown, (get_ne (by decide)).trans h692, hb2.set (by decide)⟩)
      · unfold upd
        by_cases ej : j = 10 * h + z
        · rw [if_pos ej, if_pos ej]; rfl
        · rw [if_neg ej, if_neg ej]
          exact (a2 j hj).1
      · rw [RowX_iff]
        intro k k' x x' r hk' hk'' hx hx' h1 h2
        rw [hown.rw hl hk'] at h1
        rw [hown.rw hl hk''] at h2
        exact RowX_iff.mp hR.2.2.2.2 k k' x x' r hk' hk'' hx hx' h1 h2
end RH
