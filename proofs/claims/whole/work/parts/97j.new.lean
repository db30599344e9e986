/-! new layers, new rows; a layer of one's own -/
def NewL (M M2 : Mm) : Prop := M2.1 = M.1 + 2 ∧ M2.2.1 = M.2.1 + 12 ∧ M2.2.2 M.1 = .inr (4, [.ref (M.1 + 1), .int 0]) ∧ M2.2.2 (M.1 + 1) = aR 5 10 (fun _ => none) ∧ ∀ b, b < M.1 → M2.2.2 b = M.2.2 b
def NewR (M M2 : Mm) (n : Nat) (f : Nat → Int32) : Prop := M2.1 = M.1 + 2 ∧ M2.2.1 = M.2.1 + 2 + n ∧ M2.2.2 M.1 = .inr (7, [.ref (M.1 + 1), .int 0]) ∧ M2.2.2 (M.1 + 1) = aI 0 n f ∧ ∀ b, b < M.1 → M2.2.2 b = M.2.2 b
theorem wA_newL {Lc : Lv} {M : Mm} {Q : Option Nat → Mm → Prop} (k : ∀ M2, NewL M M2 → Q (some M.1) M2) : wA (newO 4 2 D_X4 F_X4_init r0) Lc M Q := by
  refine wA_newO (wR_0 ?_)
  have e0 : (newC (newC M 2 (.inr (4, D_X4))) 10 (aR 5 10 fun _ => none)).2.2 M.1 = .inr (4, D_X4) := (new_ne (by rw [new_1]; omega)).trans new_at
  have e1 : (newC (newC M 2 (.inr (4, D_X4))) 10 (aR 5 10 fun _ => none)).2.2 (M.1 + 1) = aR 5 10 fun _ => none := new_at (M := newC M 2 (.inr (4, D_X4)))
  refine wF_b rfl (Nat.le_of_ble_eq_true rfl) (wS_seq (wS_sup (wA_lA rfl rfl ⟨_, rfl, fun _ => ?_, fun q => absurd rfl q⟩)))
  refine wS_seq (wS_pfA (wA_lA rfl rfl ⟨M.1, rfl, wA_newA (wI_cI ⟨⟨by decide, by decide⟩, _, wrF_of e0 (Nat.le_of_ble_eq_true rfl), fun _ => ?_, fun q => absurd rfl q⟩)⟩))
  refine wS_retV ⟨rfl, rfl, k _ ⟨rfl, rfl, get_at, (get_ne (by omega)).trans e1, fun b hb => ?_⟩⟩
  exact (get_ne (by omega)).trans ((new_ne (by rw [new_1]; omega)).trans (new_ne (by omega)))
theorem wA_newR {Lc : Lv} {M : Mm} {Q : Option Nat → Mm → Prop} {e : DA} {n : Nat} {f : Nat → Int32} (he : e Lc (newC M 2 (.inr (7, D_X7))) = some (some (M.1 + 1), newC (newC M 2 (.inr (7, D_X7))) n (aI 0 n f))) (k : ∀ M2, NewR M M2 n f → Q (some M.1) M2) : wA (newO 7 2 D_X7 F_X7_init (rA e r0)) Lc M Q := by
  refine wA_newO (wR_A ⟨_, _, he, wR_0 ?_⟩)
  have e0 : (newC (newC M 2 (.inr (7, D_X7))) n (aI 0 n f)).2.2 M.1 = .inr (7, D_X7) := (new_ne (by rw [new_1]; omega)).trans new_at
  have e1 : (newC (newC M 2 (.inr (7, D_X7))) n (aI 0 n f)).2.2 (M.1 + 1) = aI 0 n f := new_at (M := newC M 2 (.inr (7, D_X7)))
  refine wF_b rfl (Nat.le_of_ble_eq_true rfl) (wS_seq (wS_sup (wA_lA rfl rfl ⟨_, rfl, fun _ => ?_, fun q => absurd rfl q⟩)))
  refine wS_seq (wS_pfA (wA_lA rfl rfl ⟨M.1, rfl, wA_lA rfl rfl ⟨_, wrF_of e0 (Nat.le_of_ble_eq_true rfl), fun _ => ?_, fun q => absurd rfl q⟩⟩))
  refine wS_retV ⟨rfl, rfl, k _ ⟨rfl, rfl, get_at, (get_ne (by omega)).trans e1, fun b hb => ?_⟩⟩
  exact (get_ne (by omega)).trans ((new_ne (by rw [new_1]; omega)).trans (new_ne (by omega)))
theorem RowX_iff {s : SN} : RowX s ↔ ∀ k k' x x' r, k < 160 → k' < 160 → x < 10 → x' < 10 → rwo s k x = some r → rwo s k' x' = some r → x = x' := by
  constructor
  · intro h k k' x x' r hk hk' hx hx' h1 h2
    unfold rwo at h1 h2
    obtain ⟨l, e1, e2⟩ := Option.bind_eq_some_iff.mp h1
    obtain ⟨l', e3, e4⟩ := Option.bind_eq_some_iff.mp h2
    exact h k k' l l' x x' r hk hk' hx hx' e1 e3 e2 e4
  · intro h k k' l l' x x' r hk hk' hx hx' e1 e3 e2 e4
    exact h k k' x x' r hk hk' hx hx' (by rw [rwo_some e1]; exact e2) (by rw [rwo_some e3]; exact e4)
def OwnL (s s' : SN) (k l l' : Nat) : Prop := nf s' k = some l' ∧ (∀ j, j < 160 → j ≠ k → nf s' j = nf s j ∧ nf s j ≠ some l') ∧ (∀ y, ng s' l' y = ng s l y) ∧ (∀ m, DLs s m → m ≠ l' → ∀ y, ng s' m y = ng s m y) ∧ nln s' = nln s ∧ ncd s' = ncd s
theorem OwnL.rw {s s' : SN} {k l l' : Nat} (h : OwnL s s' k l l') (hl : nf s k = some l) {j : Nat} (hj : j < 160) (y : Nat) : rwo s' j y = rwo s j y := by
  obtain ⟨e1, e2, e3, e4, -, -⟩ := h
  by_cases e : j = k
  · subst e
    rw [rwo_some e1, rwo_some hl, e3]
  · obtain ⟨f1, f2⟩ := e2 j hj e
    cases hm : nf s j with
    | none => rw [rwo_none hm, rwo_none (f1.trans hm)]
    | some m => rw [rwo_some hm, rwo_some (f1.trans hm), e4 m ⟨j, hj, hm⟩ (fun q => f2 (by rw [hm, q]))]
theorem rcF_free {g g' : Nat → Nat → Option Nat} {hc : Nat → Nat} {l : Nat} (h0 : hc l = 0) (h : ∀ m, m ≠ l → ∀ y, g' m y = g m y) : rcF g' hc = rcF g hc := by
  funext r
  unfold rcF
  refine sm_congr fun m _ => ?_
  by_cases e : m = l
  · subst e
    rw [if_pos h0, if_pos h0]
  · simp only [h m e]
theorem LA_y {y : Nat} (h : y < 4) : LA y = 18 + 2 * y := if_pos h
theorem LA_lt {h : Nat} (hh : h < 16) : LA h < 97 ∧ 6 < LA h := by unfold LA; split <;> omega
theorem LA_ne {h y : Nat} (hh : h < 16) (hy : y < 16) (hne : h ≠ y) : LA h ≠ LA y := by unfold LA; split <;> split <;> omega
/-- the layers' arrays after place z of holder y has got o -/
theorem arr_put {M M' : Mm} {s s' : SN} {y z : Nat} {o : Option Nat} {fl : Nat → Option Nat} (hy : y < 16) (hz : z < 10) (hF : ∀ h, h < 16 → ∃ fl, M.2.2 (LA h) = aR 4 10 fl ∧ ∀ z, z < 10 → fl z = nf s (10 * h + z)) (h1 : nf s' (10 * y + z) = o) (h2 : ∀ j, j < 160 → j ≠ 10 * y + z → nf s' j = nf s j) (hfl : ∀ z, z < 10 → fl z = nf s (10 * y + z))
    (hM : M'.2.2 (LA y) = aR 4 10 (va_up fl z o)) (hO : ∀ b, b < 97 → b ≠ 6 → b ≠ LA y → M'.2.2 b = M.2.2 b) : ∀ h, h < 16 → ∃ fl, M'.2.2 (LA h) = aR 4 10 fl ∧ ∀ z, z < 10 → fl z = nf s' (10 * h + z) := by
  intro h hh
  by_cases e : h = y
  · subst e
    refine ⟨_, hM, fun w hw => ?_⟩
    unfold va_up
    by_cases e2 : w = z
    · rw [if_pos e2, e2, h1]
    · rw [if_neg e2, h2 _ (by omega) (by omega)]
      exact hfl w hw
  · obtain ⟨f, f1, f2⟩ := hF h hh
    have := LA_lt hh
    refine ⟨f, (hO _ this.1 (by omega) (LA_ne hh hy e)).trans f1, fun w hw => ?_⟩
    rw [h2 _ (by omega) (by omega)]
    exact f2 w hw
theorem CRep.lt {M : Mm} {s : SN} {nl nr : Nat} (h : CRep M s nl nr) {j m : Nat} (hj : j < 160) (hm : nf s j = some m) : m + 1 < M.1 ∧ 97 ≤ m := by
  obtain ⟨a1, a2, -⟩ := h.2.1 j m hj hm
  exact ⟨a2, a1⟩
theorem hcnt_0' {s : SN} {l : Nat} (h : ∀ j, j < 160 → nf s j ≠ some l) : hcnt s l = 0 := cn_none fun i hi => decide_eq_false (h i hi)
theorem sp_ownLayer {L : Nat} {xs : Nat → Int32} {M : Mm} {s : SN} {nl nr y z l : Nat} (hG : GFx L xs M) (hC : CRep M s nl nr) (hy : y < 4) (hz : z < 10) (hl : nf s (10 * y + z) = some l) (hB : M.1 + 10 ≤ BC) : wF F_X10_ownLayer [.ref (17 + 2 * y), .int (nI z)] M fun v M' => ∃ l' s', v = some (.ref l') ∧
    CRep M' s' (nl + if 2 ≤ hcnt s l then 1 else 0) nr ∧ OwnL s s' (10 * y + z) l l' ∧ M'.1 = M.1 + 2 * (if 2 ≤ hcnt s l then 1 else 0) ∧ M'.2.1 = M.2.1 + 12 * (if 2 ≤ hcnt s l then 1 else 0) ∧ ∀ b, b < 97 → b ≠ 6 → b ≠ 18 + 2 * y → M'.2.2 b = M.2.2 b := by
  have hk : 10 * y + z < 160 := by omega
  have hY := hG.2.2.2.1 y hy
  obtain ⟨fl, hF, hf⟩ := hC.1 y (by omega)
  rw [LA_y hy] at hF
  have hlay := hC.2.1 _ l hk hl
  obtain ⟨l1, l2, l3, gl, l4, l5⟩ := id hlay
  have hle := hcnt_le s l
  have hla := sp_layerAt hG hC hy hz
  rw [hl] at hla
  refine wF_b rfl (Nat.le_of_ble_eq_true rfl) (q_A rfl (pA_vV (pR_A (pA_lA rfl) (pR_I (pI_lI rfl) pR_0)) hY hla) ?_)
  refine q_if (v := decide (hcnt s l ≤ 1)) ?_ (fun hb => ?_) (fun hb => ?_)
  · have := pC_or (L := (mkL 5 [.ref (17 + 2 * y), .int (nI z)]).set 2 (some (va_rf (some l)))) (pC_isN (pA_lA (i := 2) (a := l) (M := M) rfl)) (pC_kI (op := oLe) (pI_fI (k := 1) (pA_lA (i := 2) rfl) l3 rfl) (pI_cI (v := 1)))
    rw [show oLe (nI (hcnt s l)) 1 = decide (hcnt s l ≤ 1) from oLe_nI (b := 1) (by omega) (by decide)] at this
    exact this
  · have hb : hcnt s l ≤ 1 := of_decide_eq_true hb
    have e : ¬ 2 ≤ hcnt s l := by omega
    refine wS_seq (wS_retA (wA_p (pA_lA rfl) ⟨fun q => absurd q (by decide), fun _ => ⟨rfl, l, s, rfl, ?_, ⟨hl, fun j hj hne => ⟨rfl, fun q => e ((hcnt_two hk hl).mpr ⟨j, hj, hne, q⟩)⟩, fun _ => rfl, fun _ _ _ _ => rfl, rfl, rfl⟩, ?_, ?_, fun _ _ _ _ => rfl⟩⟩))
    · rw [if_neg e]; exact hC
    · rw [if_neg e]; rfl
    · rw [if_neg e]; rfl
  · have hb : ¬ hcnt s l ≤ 1 := of_decide_eq_false hb
    have e : 2 ≤ hcnt s l := by omega
    rw [if_pos e]
    refine q_Aw rfl (wA_newL fun M2 hN => ?_)
    obtain ⟨n1, n2, n3, n4, n5⟩ := hN
    have hM97 : 97 ≤ M.1 := by omega
    have fresh : ∀ j m, j < 160 → nf s j = some m → m < M.1 := fun j m hj hm => by have := hC.lt hj hm; omega
    have hne : ∀ j, j < 160 → nf s j ≠ some M.1 := fun j hj q => absurd (fresh j _ hj q) (by omega)
    refine q_for 10 (fun j L M3 => L = [some (.ref (17 + 2 * y)), some (.int (nI z)), some (.ref l), some (.ref M.1), some (.int (nI j))] ∧ But [M.1 + 1] M2 M3 ∧ ∃ gn, M3.2.2 (M.1 + 1) = aR 5 10 gn ∧ ∀ x, x < 10 → gn x = if x < j then ng s l x else none) rfl (a := 0) rfl rfl (by decide) (by decide) ⟨rfl, But.rf, _, n4, fun x _ => rfl⟩ ?_ ?_ ?_
    · rintro j L M3 ⟨rfl, -⟩
      rfl
    · rintro j L M3 hj ⟨rfl, b1, gn, b2, b3⟩
      have c3 : ∀ b, b < M.1 → M3.2.2 b = M.2.2 b := fun b hb => (b1.2.2 b (by simp; omega)).trans (n5 b hb)
      have cl : M3.2.2 M.1 = .inr (4, [.ref (M.1 + 1), .int 0]) := (b1.2.2 _ (by simp)).trans n3
      have hLO : LOb M3 (ng s) (hcnt s) l := ⟨l1, by rw [b1.1, n1]; omega, (c3 l (by omega)).trans l3, gl, (c3 _ l2).trans l4, fun x hx => (l5 x hx).1⟩
      have hg := pA_rows (Lc := [some (.ref (17 + 2 * y)), some (.int (nI z)), some (.ref l), some (.ref M.1), some (.int (nI j))]) (i := 2) (k := 4) hLO rfl rfl hj
      have hE : isE 5 M3 (ng s l j) = true := by
        cases hq : ng s l j with
        | none => rfl
        | some r =>
          obtain ⟨r1, r2, r3, -⟩ := (l5 j hj).2 r hq
          exact isC_of ((c3 r (by omega)).trans r3)
      refine wS_paA (wA_p (pA_fA (pA_lA rfl) cl rfl) ⟨M.1 + 1, rfl, wI_p (pI_lI rfl) (wA_p hg ⟨_, wrA_of b2 (by omega) (inb_nI hj (by decide)) hE, Or.inr ⟨by decide, by decide, rfl, rfl, rfl, b1.set (by simp), _, get_at, fun x hx => ?_⟩⟩)⟩)
      rw [nI_clamp (by omega)]
      unfold va_up
      by_cases q : x = j
      · rw [if_pos q, if_pos (by omega), q]
      · rw [if_neg q, b3 x hx]
        by_cases q2 : x < j
        · rw [if_pos q2, if_pos (by omega)]
        · rw [if_neg q2, if_neg (by omega)]
    · rintro L M3 ⟨rfl, b1, gn, b2, b3⟩
      have c3 : ∀ b, b < M.1 → M3.2.2 b = M.2.2 b := fun b hb => (b1.2.2 b (by simp; omega)).trans (n5 b hb)
      have cl : M3.2.2 M.1 = .inr (4, [.ref (M.1 + 1), .int 0]) := (b1.2.2 _ (by simp)).trans n3
      have h0 : hcnt s M.1 = 0 := hcnt_0' hne
      have hY3 : M3.2.2 (17 + 2 * y) = .inr (9, [.ref 6, .ref (18 + 2 * y)]) := (c3 _ (by omega)).trans hY
      have h63 : M3.2.2 6 = led nl nr (lhF (hcnt s)) (rhF (rcF (ng s) (hcnt s))) := (c3 _ (by omega)).trans hC.cl.2
      refine q_up (pA_fA (pA_lA rfl) hY3 rfl) pI_cI h63 rfl (Nat.le_of_ble_eq_true rfl) ?_
      let g1 : Nat → Nat → Option Nat := fun m x => if m = M.1 then ng s l x else ng s m x
      let s1 : SN := (nf s, g1, nln s, ncd s)
      let s' : SN := (fun i => if i = 10 * y + z then some M.1 else nf s i, g1, nln s, ncd s)
      have hrc : rcF g1 (hcnt s) = rcF (ng s) (hcnt s) := rcF_free h0 fun m hm x => if_neg hm
      have co1 : COb M3 s1 (hcnt s) (rcF g1 (hcnt s)) (DLs s) (DRs s) := by
        rw [hrc]
        refine hC.cl.1.mv (by rw [b1.1, n1]; omega) (fun b _ hb => c3 b hb) (fun m hm => ⟨rfl, fun x _ => ?_⟩) (fun r _ => ⟨rfl, rfl, fun _ _ => rfl⟩)
        obtain ⟨j, hj, hm⟩ := hm
        exact if_neg fun q => hne j hj (by rw [hm, q])
      have co2 := co1.addL (l := M.1) ⟨hM97, by rw [b1.1, n1]; omega, by rw [h0]; exact cl, gn, b2, fun x hx => by
        rw [b3 x hx, if_pos hx]
        exact (if_pos rfl).symm⟩ (fun x r hx hr => ⟨10 * y + z, x, hk, hx, by
          rw [rwo_some hl, ← hr]
          exact (if_pos rfl).symm⟩)
      have cl2 : CL (setC M3 6 (.inr (5, ([.int (nI nl), .int (nI nr), .int (nI (lhF (hcnt s))), .int (nI (rhF (rcF (ng s) (hcnt s))))] : List Value).set 0 (.int (nI nl + 1))))) s1 (hcnt s) (fun m => DLs s m ∨ m = M.1) (DRs s) (nl + 1) nr := by
        refine ⟨co2.low (by decide), ?_⟩
        rw [get_at, show rcF (ng s1) (hcnt s) = rcF (ng s) (hcnt s) from hrc, nI_1]
        rfl
      have hY4 : (setC M3 6 (.inr (5, ([.int (nI nl), .int (nI nr), .int (nI (lhF (hcnt s))), .int (nI (rhF (rcF (ng s) (hcnt s))))] : List Value).set 0 (.int (nI nl + 1))))).2.2 (17 + 2 * y) = .inr (9, [.ref 6, .ref (18 + 2 * y)]) := (get_ne (by omega)).trans hY3
      have hA4 : (setC M3 6 (.inr (5, ([.int (nI nl), .int (nI nr), .int (nI (lhF (hcnt s))), .int (nI (rhF (rcF (ng s) (hcnt s))))] : List Value).set 0 (.int (nI nl + 1))))).2.2 (18 + 2 * y) = aR 4 10 fl := (get_ne (by omega)).trans ((c3 _ (by omega)).trans hF)
      refine q_ex (wV_V (wR_A (wA_p (pA_lA rfl) (wR_I (wI_p (pI_lI rfl) (wR_A (wA_p (pA_lA rfl) (wR_0 ⟨isR_of hY4, (sp_setLayer cl2 hY4 (by omega) (by omega) (by omega) (by omega) (by omega) (by omega) hA4 hz (some M.1) (fun m hm => Or.inr (Option.some.inj hm).symm) (fun m hm => ?_) (by show M3.1 ≤ BC; rw [b1.1, n1]; omega) (fun m => by have := hcnt_le s m; omega)).mono ?_⟩))))))))
      · rw [hf z hz] at hm
        exact ⟨Or.inl ⟨_, hk, hm⟩, hcnt_pos hk hm⟩
      · rintro v M5 ⟨rfl, d1, d2, d3⟩
        have hO : ∀ b, b < 97 → b ≠ 6 → b ≠ 18 + 2 * y → M5.2.2 b = M.2.2 b := fun b h1 h2 h3 => (d3.2.2 b h1 h2 h3).trans ((get_ne h2).trans (c3 b (by omega)))
        have q1 : nf s' (10 * y + z) = some M.1 := if_pos rfl
        have q2 : ∀ j, j < 160 → j ≠ 10 * y + z → nf s' j = nf s j := fun j _ hj => if_neg hj
        have hown : OwnL s s' (10 * y + z) l M.1 := ⟨q1, fun j hj hn => ⟨q2 j hj hn, hne j hj⟩, fun x => if_pos rfl, fun m _ hm x => if_neg hm, rfl, rfl⟩
        have hcn : decO (incO (hcnt s) (some M.1)) (fl z) = hcnt s' := by rw [hf z hz]; exact (hcnt_put hk q1 q2).symm
        rw [hcn] at d1
        refine ⟨rfl, wS_retA (wA_p (pA_lA rfl) ⟨rfl, M.1, s', rfl, CRep.of (DL := fun m => DLs s m ∨ m = M.1) (DR := DRs s) d1 ?_ ?_ ?_, hown, ?_, ?_, hO⟩)⟩
        · rw [← LA_y hy] at d2 hO
          exact arr_put (by omega) hz hC.1 q1 q2 hf d2 hO
        · intro j m hj hm
          by_cases ej : j = 10 * y + z
          · right
            rw [ej, q1] at hm
            exact (Option.some.inj hm).symm
          · left
            rw [q2 j hj ej] at hm
            exact ⟨j, hj, hm⟩
        · rw [RowX_iff]
          intro k k' x x' r hk' hk'' hx hx' h1 h2
          rw [hown.rw hl hk'] at h1
          rw [hown.rw hl hk''] at h2
          exact RowX_iff.mp hC.2.2.2 k k' x x' r hk' hk'' hx hx' h1 h2
        · rw [d3.1, set_1, b1.1, n1]
        · rw [d3.2.1, set_2, b1.2.1, n2]
