/-! a row of one's own; what is told of sharing -/
abbrev b2n (b : Bool) : Nat := if b = true then 1 else 0
theorem shL_cn {s : SN} {ab : AB} {k l : Nat} (hA : Ag s ab) (hk : k < 160) (hl : nf s k = some l) : (2 ≤ hcnt s l) = (shL ab k = true) := by
  rw [hcnt_two hk hl, shL_iff]
  refine propext (exists_congr fun j => and_congr_right fun hj => and_congr_right fun _ => ?_)
  rw [(hA k hk).2.1 j hj, hl]
  simp [eq_comm]
theorem shR_cn {s : SN} {ab : AB} {k x r : Nat} (hA : Ag s ab) (hk : k < 160) (hx : x < 10) (hr : rwo s k x = some r) : (∃ j, j < 160 ∧ j ≠ k ∧ rwo s j x = some r) = (shR ab k x = true) := by
  rw [shR_iff]
  refine propext (exists_congr fun j => and_congr_right fun hj => and_congr_right fun _ => ?_)
  rw [((hA k hk).2.2 x hx).2.1 j hj, hr]
  simp [eq_comm]
theorem rcnt_two {B : Nat} {s : SN} {k x l r : Nat} (hk : k < 160) (hx : x < 10) (hX : RowX s) (hl : nf s k = some l) (hf : ∀ j, j < 160 → j ≠ k → nf s j ≠ some l) (hr : ng s l x = some r) (hB : ∀ j m, j < 160 → nf s j = some m → m < B) : 2 ≤ rcnt B s r ↔ ∃ j, j < 160 ∧ j ≠ k ∧ rwo s j x = some r := by
  have hX2 := RowX_iff.mp hX
  have hkr : rwo s k x = some r := by rw [rwo_some hl]; exact hr
  have hlB := hB k l hk hl
  have h1 := hcnt_pos hk hl
  constructor
  · intro h2
    refine Classical.byContradiction fun hno => ?_
    unfold rcnt at h2
    rw [sm_one hlB fun m hm hne => ?_] at h2
    · rw [if_neg (by omega), cn_sm, sm_one hx fun y hy hne => if_neg fun q => hne (hX2 k k y x r hk hk hy hx (by rw [rwo_some hl]; exact of_decide_eq_true q) hkr)] at h2
      split at h2 <;> omega
    · by_cases e : hcnt s m = 0
      · exact if_pos e
      · rw [if_neg e]
        refine cn_none fun y hy => decide_eq_false fun q => ?_
        obtain ⟨j, hj, hm2⟩ : ∃ j, j < 160 ∧ nf s j = some m := Classical.byContradiction fun hno2 => e (hcnt_0' fun j hj q2 => hno2 ⟨j, hj, q2⟩)
        have hjy : rwo s j y = some r := by rw [rwo_some hm2]; exact q
        have ey := hX2 j k y x r hj hk hy hx hjy hkr
        subst ey
        exact hno ⟨j, hj, fun ej => hne (by rw [ej, hl] at hm2; exact (Option.some.inj hm2).symm), hjy⟩
  · rintro ⟨j, hj, hne, hjr⟩
    cases hm : nf s j with
    | none => rw [rwo_none hm] at hjr; cases hjr
    | some m =>
      rw [rwo_some hm] at hjr
      have hml : m ≠ l := fun q => hf j hj hne (by rw [hm, q])
      have := sm_two (p := fun l => if hcnt s l = 0 then 0 else cn 10 fun x => decide (ng s l x = some r)) (hB j m hj hm) hlB hml
      have p1 := cn_pos (p := fun y => decide (ng s m y = some r)) hx (decide_eq_true hjr)
      have p2 := cn_pos (p := fun y => decide (ng s l y = some r)) hx (decide_eq_true hr)
      have p3 := hcnt_pos hj hm
      rw [if_neg (c := hcnt s m = 0) (by omega), if_neg (c := hcnt s l = 0) (by omega)] at this
      unfold rcnt
      omega
theorem rcF_0 {s : SN} {r : Nat} (h : ∀ j x, j < 160 → x < 10 → rwo s j x ≠ some r) : rcF (ng s) (hcnt s) r = 0 := by
  refine sm_none fun m _ => ?_
  by_cases e : hcnt s m = 0
  · exact if_pos e
  · rw [if_neg e]
    obtain ⟨j, hj, hm2⟩ : ∃ j, j < 160 ∧ nf s j = some m := Classical.byContradiction fun hno2 => e (hcnt_0' fun j hj q2 => hno2 ⟨j, hj, q2⟩)
    exact cn_none fun y hy => decide_eq_false fun q => h j y hj hy (by rw [rwo_some hm2]; exact q)
theorem CRep.rlt {M : Mm} {s : SN} {nl nr : Nat} (h : CRep M s nl nr) {j x r : Nat} (hj : j < 160) (hx : x < 10) (hr : rwo s j x = some r) : r + 1 < M.1 := by
  obtain ⟨-, b, -⟩ := h.cl.1.2 r ⟨j, x, hj, hx, hr⟩
  exact b
theorem GFx.mv {L : Nat} {xs : Nat → Int32} {M M' : Mm} {y : Nat} (h : GFx L xs M) (hO : ∀ b, b < 97 → b ≠ 6 → b ≠ LA y → M'.2.2 b = M.2.2 b) (hy : y < 16) : GFx L xs M' := by
  refine h.fr fun b hb => hO b ?_ ?_ ?_ <;> simp only [fFx, Bool.or_eq_true, Bool.and_eq_true, decide_eq_true_eq, beq_iff_eq] at hb <;> (try unfold LA) <;> (try split) <;> omega
/-- a new row with these cells comes to place x of layer l, which is place k's alone -/
def sNr (s : SN) (l x r n : Nat) (f : Nat → Int32) : SN := (nf s, fun m y => if m = l ∧ y = x then some r else ng s m y, fun q => if q = r then n else nln s q, fun q w => if q = r then f w else ncd s q w)
def NewQ (M M2 : Mm) (n : Nat) (f : Nat → Int32) : Prop := M2.1 = M.1 + 2 ∧ M2.2.1 = M.2.1 + 2 + n ∧ M2.2.2 M.1 = .inr (7, [.ref (M.1 + 1), .int 0]) ∧ M2.2.2 (M.1 + 1) = aI 0 n f ∧ ∀ b, b < M.1 → b ≠ 6 → M2.2.2 b = M.2.2 b
theorem newRow_put {M M4 : Mm} {s : SN} {nl nr k l x n : Nat} {f : Nat → Int32} (hC : CRep M s nl nr) (hk : k < 160) (hx : x < 10) (hl : nf s k = some l) (hf : ∀ j, j < 160 → j ≠ k → nf s j ≠ some l) (hn : n ≤ 10) (hv : ∀ w, w < n → codeOk (f w)) (hN : NewQ M M4 n f) (h46 : M4.2.2 6 = led nl (nr + 1) (lhF (hcnt s)) (rhF (rcF (ng s) (hcnt s)))) (hB : M.1 + 5 ≤ BC) : wF F_X4_setRow [.ref l, .int (nI x), .ref M.1, .ref 6] M4 fun v M' => v = none ∧ CRep M' (sNr s l x M.1 n f) nl (nr + 1) ∧ M'.1 = M.1 + 2 ∧ M'.2.1 = M.2.1 + 2 + n ∧ ∀ b, b < 97 → b ≠ 6 → M'.2.2 b = M.2.2 b := by
  obtain ⟨n1, n2, n3, n4, n5⟩ := hN
  have hlm := hC.lt hk hl
  have fresh : ∀ j y, j < 160 → y < 10 → rwo s j y ≠ some M.1 := fun j y hj hy q => absurd (hC.rlt hj hy q) (by omega)
  have h0 : rcF (ng s) (hcnt s) M.1 = 0 := rcF_0 fresh
  let sa : SN := (nf s, ng s, fun q => if q = M.1 then n else nln s q, fun q w => if q = M.1 then f w else ncd s q w)
  have ca : COb M4 sa (hcnt s) (rcF (ng s) (hcnt s)) (DLs s) (DRs s) := hC.cl.1.mv (by omega) (fun b h97 hb => n5 b hb (by omega)) (fun m hm => ⟨rfl, fun _ _ => rfl⟩) (fun r hr => by
    obtain ⟨j, y, hj, hy, hr⟩ := hr
    have hne : r ≠ M.1 := fun q => fresh j y hj hy (by rw [hr, q])
    exact ⟨rfl, if_neg hne, fun w _ => if_neg hne⟩)
  have cb := ca.addR (r := M.1) ⟨by omega, by omega, by rw [h0]; exact n3, by show (if M.1 = M.1 then n else _) ≤ 10; rw [if_pos rfl]; exact hn, f, by
    show M4.2.2 (M.1 + 1) = aI 0 (if M.1 = M.1 then n else _) f
    rw [if_pos rfl]; exact n4, fun w hw => ⟨(if_pos rfl).symm, hv w (by
    have hw : w < if M.1 = M.1 then n else nln s M.1 := hw
    rw [if_pos rfl] at hw; exact hw)⟩⟩
  have cc : CL M4 sa (hcnt s) (DLs s) (fun q => DRs s q ∨ q = M.1) nl (nr + 1) := ⟨cb, h46⟩
  refine (sp_setRow cc ⟨k, hk, hl⟩ hx (Or.inr rfl) (hcnt_pos hk hl) (by omega)).mono ?_
  rintro v M' ⟨rfl, d1, d2⟩
  have hO : ∀ b, b < 97 → b ≠ 6 → M'.2.2 b = M.2.2 b := fun b h1 h2 => (d2.2.2 b h1 h2).trans (n5 b (by omega) h2)
  refine ⟨rfl, CRep.of (DL := DLs s) (DR := fun q => DRs s q ∨ q = M.1) d1 (fun h hh => ?_) (fun j m hj hm => ⟨j, hj, hm⟩) ?_, d2.1.trans n1, d2.2.1.trans n2, hO⟩
  · obtain ⟨fl, f1, f2⟩ := hC.1 h hh
    have := LA_lt hh
    exact ⟨fl, (hO _ this.1 (by omega)).trans f1, f2⟩
  · rw [RowX_iff]
    have hrw : ∀ j y, j < 160 → y < 10 → rwo (sNr s l x M.1 n f) j y = if j = k ∧ y = x then some M.1 else rwo s j y := fun j y hj hy => by
      cases hm : nf s j with
      | none =>
        rw [rwo_none hm, rwo_none (s := sNr s l x M.1 n f) hm, if_neg (fun q => by rw [q.1, hl] at hm; cases hm)]
      | some m =>
        rw [rwo_some hm, rwo_some (s := sNr s l x M.1 n f) hm]
        show (if m = l ∧ y = x then some M.1 else ng s m y) = _
        by_cases ej : j = k
        · subst ej
          rw [hl] at hm
          cases hm
          by_cases ey : y = x
          · rw [if_pos ⟨rfl, ey⟩, if_pos ⟨rfl, ey⟩]
          · rw [if_neg (fun q => ey q.2), if_neg (fun q => ey q.2)]
        · rw [if_neg (fun q => hf j hj ej (by rw [hm, q.1])), if_neg (fun q => ej q.1)]
    intro j j' y y' r hj hj' hy hy' h1 h2
    rw [hrw j y hj hy] at h1
    rw [hrw j' y' hj' hy'] at h2
    split at h1 <;> split at h2
    · rename_i a1 a2; rw [a1.2, a2.2]
    · cases h1; exact absurd h2 (fresh j' y' hj' hy')
    · cases h2; exact absurd h1 (fresh j y hj hy)
    · exact RowX_iff.mp hC.2.2.2 j j' y y' r hj hj' hy hy' h1 h2
theorem SSet_nr {s s1 : SN} {k x l l' r' n : Nat} {f : Nat → Int32} (hl : nf s k = some l) (ho : OwnL s s1 k l l') (hfr : ∀ j y, j < 160 → y < 10 → rwo s j y ≠ some r') (hk : k < 160) : SSet s (sNr s1 l' x r' n f) k x l l' r' := by
  obtain ⟨e1, e2, e3, e4, e5, e6⟩ := ho
  refine ⟨e1, e2, if_pos ⟨rfl, rfl⟩, fun y hy hne => ⟨(if_neg fun q => hne q.2).trans (e3 y), fun q => hfr k y hk hy (by rw [rwo_some hl]; exact q)⟩, fun j m hj hne hm y hy => ⟨?_, fun q => hfr j y hj hy (by rw [rwo_some hm]; exact q)⟩, fun j y q w hj hy _ _ hne => ⟨?_, ?_⟩⟩
  · have hml : m ≠ l' := fun q => (e2 j hj hne).2 (by rw [hm, q])
    exact (if_neg fun q => hml q.1).trans (e4 m ⟨j, hj, hm⟩ hml y)
  · show (if q = r' then n else nln s1 q) = _
    rw [if_neg hne, e5]
  · show (if q = r' then f w else ncd s1 q w) = _
    rw [if_neg hne, e6]
theorem sp_ownRow {L : Nat} {xs : Nat → Int32} {M M1 : Mm} {s s1 : SN} {ab : AB} {nl nr y z x l l' r : Nat} (hG : GFx L xs M) (hC : CRep M s nl nr) (hA : Ag s ab) (hy : y < 4) (hz : z < 10) (hx : x < 10) (hl : nf s (10 * y + z) = some l) (hr : ng s l x = some r) (hB : M.1 + 20 ≤ BC) (c1 : CRep M1 s1 (nl + if 2 ≤ hcnt s l then 1 else 0) nr) (c2 : OwnL s s1 (10 * y + z) l l') (c3 : M1.1 = M.1 + 2 * (if 2 ≤ hcnt s l then 1 else 0)) (c4 : M1.2.1 = M.2.1 + 12 * (if 2 ≤ hcnt s l then 1 else 0)) (c5 : ∀ b, b < 97 → b ≠ 6 → b ≠ 18 + 2 * y → M1.2.2 b = M.2.2 b) : wF F_X10_ownRow [.ref (17 + 2 * y), .ref l', .int (nI x)] M1 fun v M' => ∃ l' r' s', v = some (.ref r') ∧
    CRep M' s' (nl + b2n (shL ab (10 * y + z))) (nr + b2n (shR ab (10 * y + z) x)) ∧ SSet s s' (10 * y + z) x l l' r' ∧ nln s' r' = nln s r ∧ (∀ w, w < nln s r → ncd s' r' w = ncd s r w) ∧ M'.1 = M.1 + 2 * (b2n (shL ab (10 * y + z)) + b2n (shR ab (10 * y + z) x)) ∧
    M'.2.1 ≤ M.2.1 + 12 * (b2n (shL ab (10 * y + z)) + b2n (shR ab (10 * y + z) x)) ∧ ∀ b, b < 97 → b ≠ 6 → b ≠ LA y → M'.2.2 b = M.2.2 b := by
  have hk : 10 * y + z < 160 := by omega
  have hY := hG.2.2.2.1 y hy
  have hkr : rwo s (10 * y + z) x = some r := by rw [rwo_some hl]; exact hr
  have e1 : (if 2 ≤ hcnt s l then 1 else 0) = b2n (shL ab (10 * y + z)) := by
    by_cases q : shL ab (10 * y + z) = true
    · rw [b2n, if_pos q, if_pos (by rw [shL_cn hA hk hl]; exact q)]
    · rw [b2n, if_neg q, if_neg (by rw [shL_cn hA hk hl]; exact q)]
  rw [LA_y hy]
  rw [e1] at c1 c3 c4
  have hG1 : GFx L xs M1 := hG.mv (y := y) (by rw [LA_y hy]; exact c5) (by omega)
  have hkr1 : rwo s1 (10 * y + z) x = some r := by rw [c2.rw hl hk]; exact hkr
  have hl1 : nf s1 (10 * y + z) = some l' := c2.1
  have hr1 : ng s1 l' x = some r := by rw [c2.2.2.1]; exact hr
  have hf1 : ∀ j, j < 160 → j ≠ 10 * y + z → nf s1 j ≠ some l' := fun j hj hne => by rw [(c2.2.1 j hj hne).1]; exact (c2.2.1 j hj hne).2
  obtain ⟨⟨-, -, hlo, gl, hgl, hrow⟩, -⟩ := c1.cl.1.1 l' ⟨_, hk, hl1⟩
  have hp : isP (nI x) = true := by
    simp only [isP, oGe, oLt, Bool.and_eq_true, decide_eq_true_eq]
    exact ⟨nI_pos' (by omega), nI_lt (b := 10) hx (by decide)⟩
  refine wF_b rfl (Nat.le_of_ble_eq_true rfl) (q_if (v := false) ?_ (fun q => (by cases q)) (fun _ => ?_))
  · have := pC_or (L := mkL 5 [.ref (17 + 2 * y), .ref l', .int (nI x)]) (M := M1) (pC_isN (pA_lA (i := 1) (a := l') rfl)) (pC_not (pC_kI (op := oNe) (pI_vS (pR_I (pI_lI (i := 2) rfl) pR_0) (sp_isPlace _ _)) (pI_cI (v := 0))))
    exact pC_eq this (by rw [bz_ne, hp]; rfl)
  have h9 := pA_gA (L := mkL 5 [.ref (17 + 2 * y), .ref l', .int (nI x)]) (pA_fA (k := 0) (pA_lA (i := 1) rfl) hlo rfl) (pI_lI (i := 2) rfl) hgl (inb_nI hx (by decide))
  rw [nI_clamp (by omega), hrow x hx, hr1] at h9
  refine q_A rfl h9 ?_
  obtain ⟨r1, r2, r3, r4, cr, r5, r6⟩ := c1.cl.1.2 r ⟨_, x, hk, hx, hkr1⟩
  have hbn1 : b2n (shL ab (10 * y + z)) ≤ 1 := by unfold b2n; split <;> omega
  have h2 : 2 ≤ rcnt BC s1 r ↔ shR ab (10 * y + z) x = true := by
    rw [rcnt_two hk hx c1.2.2.2 hl1 hf1 hr1 fun j m hj hm => by have := c1.lt hj hm; omega, ← shR_cn hA hk hx hkr]
    refine exists_congr fun j => and_congr_right fun hj => and_congr_right fun _ => ?_
    rw [c2.rw hl hj]
  have hle : rcF (ng s1) (hcnt s1) r ≤ 7000000 := rcF_le _ _ _
  have hrc : rcnt BC s1 r = rcF (ng s1) (hcnt s1) r := rfl
  refine q_if (v := decide (rcF (ng s1) (hcnt s1) r ≤ 1)) ?_ (fun hb => ?_) (fun hb => ?_)
  · have := pC_or (L := (mkL 5 [.ref (17 + 2 * y), .ref l', .int (nI x)]).set 3 (some (va_rf (some r)))) (M := M1) (pC_isN (pA_lA (i := 3) (a := r) rfl)) (pC_kI (op := oLe) (pI_fI (k := 1) (pA_lA (i := 3) rfl) r3 rfl) (pI_cI (v := 1)))
    rw [show oLe (nI (rcF (ng s1) (hcnt s1) r)) 1 = decide (rcF (ng s1) (hcnt s1) r ≤ 1) from oLe_nI (b := 1) (by omega) (by decide)] at this
    exact pC_eq this (Bool.false_or _)
  · have hb : rcF (ng s1) (hcnt s1) r ≤ 1 := of_decide_eq_true hb
    have hns : ¬ shR ab (10 * y + z) x = true := fun q => by
      have := h2.mpr q
      omega
    have hno : ∀ j, j < 160 → j ≠ 10 * y + z → rwo s j x ≠ some r := fun j hj hne q => hns (by
      rw [← shR_cn hA hk hx hkr]
      exact ⟨j, hj, hne, q⟩)
    have hX := RowX_iff.mp hC.2.2.2
    have e2 : b2n (shR ab (10 * y + z) x) = 0 := if_neg hns
    rw [e2]
    refine wS_seq (wS_retA (wA_p (pA_lA rfl) ⟨fun q => absurd q (by decide), fun _ => ⟨rfl, l', r, s1, rfl, c1, ⟨hl1, c2.2.1, hr1, fun x' hx' hne => ⟨c2.2.2.1 x', fun q => hne (hX _ _ x' x r hk hk hx' hx (by rw [rwo_some hl]; exact q) hkr)⟩, fun j m hj hne hm x' hx' => ⟨?_, fun q => ?_⟩, fun j y' q w hj hy' hw hq hne => ?_⟩, ?_, fun w _ => ?_, ?_, ?_, c5⟩⟩))
    · exact c2.2.2.2.1 m ⟨j, hj, hm⟩ (fun q => (c2.2.1 j hj hne).2 (by rw [hm, q])) x'
    · have hjx : rwo s j x' = some r := by rw [rwo_some hm]; exact q
      have := hX j _ x' x r hj hk hx' hx hjx hkr
      subst this
      exact hno j hj hne hjx
    · rw [c2.2.2.2.2.1, c2.2.2.2.2.2]; exact ⟨rfl, rfl⟩
    · rw [c2.2.2.2.2.1]
    · rw [c2.2.2.2.2.2]
    · rw [c3]; rfl
    · rw [c4]; exact Nat.le_refl _
  · have hb : ¬ rcF (ng s1) (hcnt s1) r ≤ 1 := of_decide_eq_false hb
    have hsh : shR ab (10 * y + z) x = true := h2.mp (by omega)
    have e2 : b2n (shR ab (10 * y + z) x) = 1 := if_pos hsh
    rw [e2]
    have hcl : cloI (fA 7 0 (lA 3)) ((mkL 5 [.ref (17 + 2 * y), .ref l', .int (nI x)]).set 3 (some (va_rf (some r)))) (newC M1 2 (.inr (7, D_X7))) = some (some (M1.1 + 1), newC (newC M1 2 (.inr (7, D_X7))) (nln s1 r) (aI 0 (nln s1 r) cr)) := by
      have hp : pA (fA 7 0 (lA 3)) ((mkL 5 [.ref (17 + 2 * y), .ref l', .int (nI x)]).set 3 (some (va_rf (some r)))) (newC M1 2 (.inr (7, D_X7))) (some (r + 1)) := pA_fA (k := 0) (pA_lA rfl) ((new_ne (by omega)).trans r3) rfl
      have hcell : (newC M1 2 (.inr (7, D_X7))).2.2 (r + 1) = aI 0 (nln s1 r) cr := (new_ne (by omega)).trans r5
      unfold cloI
      rw [show fA 7 0 (lA 3) _ _ = some (some (r + 1), _) from hp]
      simp only [Option.bind_some]
      rw [hcell]
      exact if_pos (by omega)
    refine q_Aw rfl (wA_newR hcl fun M2 hN => ?_)
    have n5 := hN.2.2.2.2
    have hY2 : M2.2.2 (17 + 2 * y) = .inr (9, [.ref 6, .ref (18 + 2 * y)]) := (n5 _ (by omega)).trans (hG1.2.2.2.1 y hy)
    have h62 : M2.2.2 6 = led (nl + b2n (shL ab (10 * y + z))) nr (lhF (hcnt s1)) (rhF (rcF (ng s1) (hcnt s1))) := (n5 _ (by omega)).trans c1.cl.2
    refine q_up (pA_fA (pA_lA rfl) hY2 rfl) pI_cI h62 rfl (Nat.le_of_ble_eq_true rfl) ?_
    have hl4 : isC 4 M2 l' = true := by
      have := c1.lt hk hl1
      exact isC_of ((n5 _ (by omega)).trans (c1.cl.1.1 l' ⟨_, hk, hl1⟩).1.2.2.1)
    have hl6 : ¬ l' = 6 := by
      intro q
      have h9 := (c1.lt hk hl1).2
      rw [q] at h9
      exact absurd h9 (by decide)
    have hfr : ∀ j y', j < 160 → y' < 10 → rwo s j y' ≠ some M1.1 := fun j y' hj hy' q => by
      have := c1.rlt hj hy' ((c2.rw hl hj y').trans q)
      omega
    have hlc := c1.cl.1.1 l' ⟨_, hk, hl1⟩
    refine q_ex (wV_V (wR_A (wA_p (pA_lA rfl) (wR_I (wI_p (pI_lI rfl) (wR_A (wA_p (pA_lA rfl) (wR_A (wA_p (pA_fA (pA_lA rfl) ((get_ne (by omega)).trans hY2) rfl) (wR_0 ⟨isC_of ((get_ne hl6).trans ((n5 _ (by have := c1.lt hk hl1; omega)).trans hlc.1.2.2.1)), (newRow_put (M4 := setC M2 6 (.inr (5, ([.int (nI (nl + b2n (shL ab (10 * y + z)))), .int (nI nr), .int (nI (lhF (hcnt s1))), .int (nI (rhF (rcF (ng s1) (hcnt s1))))] : List Value).set 1 (.int (nI nr + 1))))) c1 hk hx hl1 hf1 r4 (fun w hw => (r6 w hw).2) ⟨hN.1, hN.2.1, (get_ne (by omega)).trans hN.2.2.1, (get_ne (by omega)).trans hN.2.2.2.1, fun b hb hb6 => (get_ne hb6).trans (n5 b hb)⟩ (by rw [get_at, nI_1]; rfl) (by omega)).mono ?_⟩))))))))))
    rintro v M3 ⟨rfl, d1, d2, d3, d4⟩
    refine ⟨rfl, wS_retA (wA_p (pA_lA rfl) ⟨rfl, l', M1.1, _, rfl, d1, SSet_nr hl c2 hfr hk, ?_, fun w hw => ?_, ?_, ?_, fun b h1 h2 h3 => (d4 b h1 h2).trans (c5 b h1 h2 h3)⟩)⟩
    · show (if M1.1 = M1.1 then nln s1 r else _) = _
      rw [if_pos rfl, c2.2.2.2.2.1]
    · show (if M1.1 = M1.1 then cr w else _) = _
      rw [if_pos rfl]
      have hw2 : w < nln s1 r := by rw [c2.2.2.2.2.1]; exact hw
      rw [(r6 w hw2).1, c2.2.2.2.2.2]
    · rw [d2, c3]; omega
    · rw [d3, c4]; omega
