/-! what is done to the state without names, and to one with names -/
theorem cn_le (n : Nat) (p : Nat → Bool) : cn n p ≤ n := by
  induction n with
  | zero => exact Nat.le_refl _
  | succ n ih => rw [cn]; split <;> omega
theorem cn_congr {n : Nat} {p q : Nat → Bool} (h : ∀ i, i < n → p i = q i) : cn n p = cn n q := by
  induction n with
  | zero => rfl
  | succ n ih => rw [cn, cn, ih fun i hi => h i (by omega), h n (by omega)]
theorem sm_congr {n : Nat} {p q : Nat → Nat} (h : ∀ i, i < n → p i = q i) : sm n p = sm n q := by
  induction n with
  | zero => rfl
  | succ n ih => rw [sm, sm, ih fun i hi => h i (by omega), h n (by omega)]
theorem cn_sm (n : Nat) (p : Nat → Bool) : cn n p = sm n fun i => if p i = true then 1 else 0 := by
  induction n with
  | zero => rfl
  | succ n ih => rw [cn, sm, ih]
/-- two sums that differ at one place -/
theorem sm_at {n k : Nat} {p q : Nat → Nat} (hk : k < n) (h : ∀ i, i < n → i ≠ k → p i = q i) : sm n p + q k = sm n q + p k := by
  induction n with
  | zero => omega
  | succ n ih =>
    rw [sm, sm]
    by_cases e : k = n
    · subst e
      rw [sm_congr fun i hi => h i (by omega) (by omega)]
      omega
    · have := ih (by omega) fun i hi hne => h i (by omega) hne
      rw [h n (by omega) fun q => e q.symm]
      omega
theorem cn_at {n k : Nat} {p q : Nat → Bool} (hk : k < n) (h : ∀ i, i < n → i ≠ k → p i = q i) : cn n p + (if q k = true then 1 else 0) = cn n q + (if p k = true then 1 else 0) := by
  rw [cn_sm, cn_sm]
  exact sm_at (p := fun i => if p i = true then 1 else 0) (q := fun i => if q i = true then 1 else 0) hk fun i hi hne => by rw [h i hi hne]
theorem sm_pos {n k : Nat} {p : Nat → Nat} (hk : k < n) : p k ≤ sm n p := by
  induction n with
  | zero => omega
  | succ n ih =>
    rw [sm]
    by_cases e : k = n
    · subst e; omega
    · have := ih (by omega); omega
theorem cn_pos {n k : Nat} {p : Nat → Bool} (hk : k < n) (h : p k = true) : 1 ≤ cn n p := by
  rw [cn_sm]
  have := sm_pos (p := fun i => if p i = true then 1 else 0) hk
  simp only [h, if_true] at this
  exact this
theorem sm_two {n j k : Nat} {p : Nat → Nat} (hj : j < n) (hk : k < n) (hne : j ≠ k) : p j + p k ≤ sm n p := by
  induction n with
  | zero => omega
  | succ n ih =>
    rw [sm]
    by_cases e : k = n
    · subst e
      have := sm_pos (p := p) (show j < k by omega)
      omega
    · by_cases e2 : j = n
      · subst e2
        have := sm_pos (p := p) (show k < j by omega)
        omega
      · have := ih (by omega) (by omega)
        omega
theorem sm_one {n k : Nat} {p : Nat → Nat} (hk : k < n) (h : ∀ i, i < n → i ≠ k → p i = 0) : sm n p = p k := by
  have e := sm_at (p := p) (q := fun _ => 0) hk fun i hi hne => h i hi hne
  rw [sm_none (p := fun _ => 0) fun _ _ => rfl] at e
  omega
theorem cn_two {n k : Nat} {p : Nat → Bool} (hk : k < n) (h : p k = true) : 2 ≤ cn n p ↔ ∃ j, j < n ∧ j ≠ k ∧ p j = true := by
  rw [cn_sm]
  constructor
  · intro h2
    refine Classical.byContradiction fun hno => ?_
    rw [sm_one hk fun i hi hne => if_neg fun q => hno ⟨i, hi, hne, q⟩, if_pos h] at h2
    omega
  · rintro ⟨j, hj, hne, hp⟩
    have := sm_two (p := fun i => if p i = true then 1 else 0) hj hk hne
    simp only [h, hp, if_true] at this
    exact this
-- at the state without names
def sepL (k : Nat) (f : Nat → Nat → Bool) : Nat → Nat → Bool := fun i j => if i = k ∨ j = k then decide (i = j) else f i j
def sepR (k x : Nat) (f : Nat → Nat → Nat → Bool) : Nat → Nat → Nat → Bool := fun i y j => if y = x ∧ (i = k ∨ j = k) then decide (i = j) else f i y j
/-- place k's layer and its row x become their own, with these cells -/
def aSet (k x : Nat) (c : Nat → Int32) (a : AB) : AB := (aly a, sepL k (asl a), fun i y => if i = k ∧ y = x then true else arp a i y, sepR k x (asr a), fun i y u => if i = k ∧ y = x then c u else aat a i y u)
def aNew (k : Nat) (a : AB) : AB := (fun i => if i = k then true else aly a i, sepL k (asl a), fun i x => if i = k then false else arp a i x, fun i x j => if i = k ∨ j = k then false else asr a i x j, fun i x w => if i = k then -1 else aat a i x w)
def aDel (k : Nat) (a : AB) : AB := (fun i => if i = k then false else aly a i, fun i j => if i = k ∨ j = k then false else asl a i j, fun i x => if i = k then false else arp a i x, fun i x j => if i = k ∨ j = k then false else asr a i x j, fun i x w => if i = k then -1 else aat a i x w)
/-- place k takes what place q has -/
def aCpy (q k : Nat) (a : AB) : AB := (fun i => aly a (if i = k then q else i), fun i j => asl a (if i = k then q else i) (if j = k then q else j), fun i x => arp a (if i = k then q else i) x, fun i x j => asr a (if i = k then q else i) x (if j = k then q else j), fun i x w => aat a (if i = k then q else i) x w)
def shL (a : AB) (k : Nat) : Bool := (List.range 160).any fun j => decide (j ≠ k) && asl a k j
def shR (a : AB) (k x : Nat) : Bool := (List.range 160).any fun j => decide (j ≠ k) && asr a k x j
theorem shL_iff {a : AB} {k : Nat} : shL a k = true ↔ ∃ j, j < 160 ∧ j ≠ k ∧ asl a k j = true := by
  unfold shL
  simp only [List.any_eq_true, List.mem_range, Bool.and_eq_true, decide_eq_true_eq]
theorem shR_iff {a : AB} {k x : Nat} : shR a k x = true ↔ ∃ j, j < 160 ∧ j ≠ k ∧ asr a k x j = true := by
  unfold shR
  simp only [List.any_eq_true, List.mem_range, Bool.and_eq_true, decide_eq_true_eq]
-- with names
theorem rwo_some {s : SN} {k x l : Nat} (h : nf s k = some l) : rwo s k x = ng s l x := by
  unfold rwo
  rw [h]
  rfl
theorem rwo_none {s : SN} {k x : Nat} (h : nf s k = none) : rwo s k x = none := by
  unfold rwo
  rw [h]
  rfl
/-- place k has a layer l' of its own, whose rows are l's but for r' at x, which is its own -/
def SSet (s s' : SN) (k x l l' r' : Nat) : Prop := nf s' k = some l' ∧ (∀ j, j < 160 → j ≠ k → nf s' j = nf s j ∧ nf s j ≠ some l') ∧ ng s' l' x = some r' ∧ (∀ y, y < 10 → y ≠ x → ng s' l' y = ng s l y ∧ ng s l y ≠ some r') ∧
  (∀ j m, j < 160 → j ≠ k → nf s j = some m → ∀ y, y < 10 → ng s' m y = ng s m y ∧ ng s m y ≠ some r') ∧ (∀ j y q w, j < 160 → y < 10 → w < 10 → rwo s j y = some q → q ≠ r' → nln s' q = nln s q ∧ ncd s' q w = ncd s q w)
theorem Ag_set {s s' : SN} {a : AB} (h : Ag s a) {k x l l' r' : Nat} {c : Nat → Int32} (hk : k < 160) (hx : x < 10) (hl : nf s k = some l) (hs : SSet s s' k x l l' r') (hc : ∀ w, w < 10 → c w = if w < nln s' r' then ncd s' r' w else -1) : Ag s' (aSet k x c a) := by
  obtain ⟨e1, e2, e3, e4, e5, e6⟩ := hs
  have rk : rwo s' k x = some r' := by rw [rwo_some e1, e3]
  have rky : ∀ y, y < 10 → y ≠ x → rwo s' k y = rwo s k y ∧ rwo s k y ≠ some r' := fun y hy hne => by rw [rwo_some e1, rwo_some hl]; exact e4 y hy hne
  have rj : ∀ j y, j < 160 → j ≠ k → y < 10 → rwo s' j y = rwo s j y ∧ rwo s j y ≠ some r' := fun j y hj hne hy => by
    cases hm : nf s j with
    | none => rw [rwo_none hm, rwo_none ((e2 j hj hne).1.trans hm)]; exact ⟨rfl, fun q => by cases q⟩
    | some m => rw [rwo_some hm, rwo_some ((e2 j hj hne).1.trans hm)]; exact e5 j m hj hne hm y hy
  intro i hi
  obtain ⟨h1, h2, h3⟩ := h i hi
  obtain ⟨h1k, h2k, h3k⟩ := h k hk
  by_cases ei : i = k
  · subst ei
    refine ⟨?_, fun j hj => ?_, fun y hy => ?_⟩
    · show aly a i = _
      rw [h1, hl, e1]; rfl
    · show sepL i (asl a) i j = _
      unfold sepL
      rw [if_pos (Or.inl rfl), e1]
      by_cases ej : j = i
      · subst ej
        rw [e1]; simp
      · obtain ⟨f1, f2⟩ := e2 j hj ej
        rw [f1]
        have : ¬ some l' = nf s j := fun q => f2 q.symm
        simp [this, Ne.symm ej]
    · by_cases ey : y = x
      · subst ey
        refine ⟨?_, fun j hj => ?_, fun w hw => ?_⟩
        · rw [rk]
          show (if i = i ∧ y = y then true else _) = _
          rw [if_pos ⟨rfl, rfl⟩]; rfl
        · show sepR i y (asr a) i y j = _
          unfold sepR
          rw [if_pos ⟨rfl, Or.inl rfl⟩, rk]
          by_cases ej : j = i
          · subst ej
            rw [rk]; simp
          · obtain ⟨f1, f2⟩ := rj j y hj ej hy
            rw [f1]
            have : ¬ some r' = rwo s j y := fun q => f2 q.symm
            simp [this, Ne.symm ej]
        · show (if i = i ∧ y = y then c w else _) = _
          rw [if_pos ⟨rfl, rfl⟩, hc w hw]
          unfold cdo
          rw [rk]
      · obtain ⟨f1, f2⟩ := rky y hy ey
        obtain ⟨g1, g2, g3⟩ := h3 y hy
        refine ⟨?_, fun j hj => ?_, fun w hw => ?_⟩
        · show (if i = i ∧ y = x then true else arp a i y) = _
          rw [if_neg (fun q => ey q.2), f1, g1]
        · show sepR i x (asr a) i y j = _
          unfold sepR
          rw [if_neg (fun q => ey q.1), g2 j hj, f1]
          by_cases ej : j = i
          · rw [ej, f1]
          · rw [(rj j y hj ej hy).1]
        · show (if i = i ∧ y = x then c w else aat a i y w) = _
          rw [if_neg (fun q => ey q.2), g3 w hw]
          unfold cdo
          rw [f1]
          cases hq : rwo s i y with
          | none => rfl
          | some q =>
            obtain ⟨k1, k2⟩ := e6 i y q w hi hy hw hq (fun e => f2 (by rw [hq, e]))
            dsimp only
            rw [k1, k2]
  · obtain ⟨f1, f2⟩ := e2 i hi ei
    refine ⟨?_, fun j hj => ?_, fun y hy => ?_⟩
    · show aly a i = _
      rw [h1, f1]
    · show sepL k (asl a) i j = _
      unfold sepL
      by_cases ej : j = k
      · subst ej
        rw [if_pos (Or.inr rfl), f1, e1]
        simp [f2, ei]
      · rw [if_neg (fun q => q.elim ei ej), h2 j hj, f1, (e2 j hj ej).1]
    · obtain ⟨g1, g2, g3⟩ := h3 y hy
      obtain ⟨f3, f4⟩ := rj i y hi ei hy
      refine ⟨?_, fun j hj => ?_, fun w hw => ?_⟩
      · show (if i = k ∧ y = x then true else arp a i y) = _
        rw [if_neg (fun q => ei q.1), g1, f3]
      · show sepR k x (asr a) i y j = _
        unfold sepR
        by_cases ej : j = k
        · subst ej
          by_cases ey : y = x
          · subst ey
            rw [if_pos ⟨rfl, Or.inr rfl⟩, f3, rk]
            simp [f4, ei]
          · rw [if_neg (fun q => ey q.1), g2 j hj, f3, (rky y hy ey).1]
        · rw [if_neg (fun q => q.2.elim ei ej), g2 j hj, f3, (rj j y hj ej hy).1]
      · show (if i = k ∧ y = x then c w else aat a i y w) = _
        rw [if_neg (fun q => ei q.1), g3 w hw]
        unfold cdo
        rw [f3]
        cases hq : rwo s i y with
        | none => rfl
        | some q =>
          obtain ⟨k1, k2⟩ := e6 i y q w hi hy hw hq (fun e => f4 (by rw [hq, e]))
          dsimp only
          rw [k1, k2]
/-- place k has o, the layers that are held at other places stay; rows stay -/
def SPl (s s' : SN) (k : Nat) (o : Option Nat) : Prop := nf s' k = o ∧ (∀ j, j < 160 → j ≠ k → nf s' j = nf s j) ∧ (∀ j m, j < 160 → j ≠ k → nf s j = some m → ∀ y, y < 10 → ng s' m y = ng s m y) ∧ (∀ j y q w, j < 160 → y < 10 → w < 10 → rwo s j y = some q → nln s' q = nln s q ∧ ncd s' q w = ncd s q w)
theorem SPl.rj {s s' : SN} {k : Nat} {o : Option Nat} (h : SPl s s' k o) {j y : Nat} (hj : j < 160) (hne : j ≠ k) (hy : y < 10) : rwo s' j y = rwo s j y := by
  obtain ⟨e1, e2, e3, e4⟩ := h
  cases hm : nf s j with
  | none => rw [rwo_none hm, rwo_none ((e2 j hj hne).trans hm)]
  | some m => rw [rwo_some hm, rwo_some ((e2 j hj hne).trans hm)]; exact e3 j m hj hne hm y hy
theorem SPl.cj {s s' : SN} {k : Nat} {o : Option Nat} (h : SPl s s' k o) {j y w : Nat} (hj : j < 160) (hne : j ≠ k) (hy : y < 10) (hw : w < 10) : cdo s' j y w = cdo s j y w := by
  unfold cdo
  rw [h.rj hj hne hy]
  cases hq : rwo s j y with
  | none => rfl
  | some q =>
    obtain ⟨k1, k2⟩ := h.2.2.2 j y q w hj hy hw hq
    dsimp only
    rw [k1, k2]
theorem Ag_new {s s' : SN} {a : AB} (h : Ag s a) {k l' : Nat} (hk : k < 160) (hs : SPl s s' k (some l')) (hf : ∀ j, j < 160 → j ≠ k → nf s j ≠ some l') (he : ∀ y, y < 10 → ng s' l' y = none) : Ag s' (aNew k a) := by
  have rk : ∀ y, y < 10 → rwo s' k y = none := fun y hy => by rw [rwo_some hs.1]; exact he y hy
  intro i hi
  obtain ⟨h1, h2, h3⟩ := h i hi
  by_cases ei : i = k
  · subst ei
    refine ⟨?_, fun j hj => ?_, fun y hy => ⟨?_, fun j hj => ?_, fun w hw => ?_⟩⟩
    · rw [hs.1]
      show (if i = i then true else _) = _
      rw [if_pos rfl]; rfl
    · show sepL i (asl a) i j = _
      unfold sepL
      rw [if_pos (Or.inl rfl), hs.1]
      by_cases ej : j = i
      · subst ej
        rw [hs.1]; simp
      · rw [hs.2.1 j hj ej]
        have : ¬ some l' = nf s j := fun q => hf j hj ej q.symm
        simp [this, Ne.symm ej]
    · rw [rk y hy]
      show (if i = i then false else _) = _
      rw [if_pos rfl]; rfl
    · rw [rk y hy]
      show (if i = i ∨ j = i then false else _) = _
      rw [if_pos (Or.inl rfl)]; rfl
    · unfold cdo
      rw [rk y hy]
      show (if i = i then (-1 : Int32) else _) = _
      rw [if_pos rfl]
  · refine ⟨?_, fun j hj => ?_, fun y hy => ?_⟩
    · show (if i = k then true else aly a i) = _
      rw [if_neg ei, h1, hs.2.1 i hi ei]
    · show sepL k (asl a) i j = _
      unfold sepL
      by_cases ej : j = k
      · subst ej
        rw [if_pos (Or.inr rfl), hs.2.1 i hi ei, hs.1]
        simp [hf i hi ei, ei]
      · rw [if_neg (fun q => q.elim ei ej), h2 j hj, hs.2.1 i hi ei, hs.2.1 j hj ej]
    · obtain ⟨g1, g2, g3⟩ := h3 y hy
      refine ⟨?_, fun j hj => ?_, fun w hw => ?_⟩
      · show (if i = k then false else arp a i y) = _
        rw [if_neg ei, g1, hs.rj hi ei hy]
      · show (if i = k ∨ j = k then false else asr a i y j) = _
        by_cases ej : j = k
        · subst ej
          rw [if_pos (Or.inr rfl), rk y hy, hs.rj hi ei hy]
          cases rwo s i y <;> simp
        · rw [if_neg (fun q => q.elim ei ej), g2 j hj, hs.rj hi ei hy, hs.rj hj ej hy]
      · show (if i = k then (-1 : Int32) else aat a i y w) = _
        rw [if_neg ei, g3 w hw, hs.cj hi ei hy hw]
theorem Ag_del {s s' : SN} {a : AB} (h : Ag s a) {k : Nat} (hk : k < 160) (hs : SPl s s' k none) : Ag s' (aDel k a) := by
  have rk : ∀ y, rwo s' k y = none := fun y => rwo_none hs.1
  intro i hi
  obtain ⟨h1, h2, h3⟩ := h i hi
  by_cases ei : i = k
  · subst ei
    refine ⟨?_, fun j hj => ?_, fun y hy => ⟨?_, fun j hj => ?_, fun w hw => ?_⟩⟩
    · rw [hs.1]
      show (if i = i then false else _) = _
      rw [if_pos rfl]; rfl
    · rw [hs.1]
      show (if i = i ∨ j = i then false else _) = _
      rw [if_pos (Or.inl rfl)]; rfl
    · rw [rk y]
      show (if i = i then false else _) = _
      rw [if_pos rfl]; rfl
    · rw [rk y]
      show (if i = i ∨ j = i then false else _) = _
      rw [if_pos (Or.inl rfl)]; rfl
    · unfold cdo
      rw [rk y]
      show (if i = i then (-1 : Int32) else _) = _
      rw [if_pos rfl]
  · refine ⟨?_, fun j hj => ?_, fun y hy => ?_⟩
    · show (if i = k then false else aly a i) = _
      rw [if_neg ei, h1, hs.2.1 i hi ei]
    · show (if i = k ∨ j = k then false else asl a i j) = _
      by_cases ej : j = k
      · subst ej
        rw [if_pos (Or.inr rfl), hs.2.1 i hi ei, hs.1]
        cases nf s i <;> simp
      · rw [if_neg (fun q => q.elim ei ej), h2 j hj, hs.2.1 i hi ei, hs.2.1 j hj ej]
    · obtain ⟨g1, g2, g3⟩ := h3 y hy
      refine ⟨?_, fun j hj => ?_, fun w hw => ?_⟩
      · show (if i = k then false else arp a i y) = _
        rw [if_neg ei, g1, hs.rj hi ei hy]
      · show (if i = k ∨ j = k then false else asr a i y j) = _
        by_cases ej : j = k
        · subst ej
          rw [if_pos (Or.inr rfl), rk y, hs.rj hi ei hy]
          cases rwo s i y <;> simp
        · rw [if_neg (fun q => q.elim ei ej), g2 j hj, hs.rj hi ei hy, hs.rj hj ej hy]
      · show (if i = k then (-1 : Int32) else aat a i y w) = _
        rw [if_neg ei, g3 w hw, hs.cj hi ei hy hw]
theorem Ag_cpy {s s' : SN} {a : AB} (h : Ag s a) {q k : Nat} (hq : q < 160) (h1 : nf s' k = nf s q) (h2 : ∀ j, j < 160 → j ≠ k → nf s' j = nf s j) (h3 : ∀ m y, y < 10 → (∃ j, j < 160 ∧ nf s j = some m) → ng s' m y = ng s m y) (h4 : ∀ j y r w, j < 160 → y < 10 → w < 10 → rwo s j y = some r → nln s' r = nln s r ∧ ncd s' r w = ncd s r w) : Ag s' (aCpy q k a) := by
  have hb : ∀ i, i < 160 → (if i = k then q else i) < 160 := fun i hi => by split <;> assumption
  have hf : ∀ i, i < 160 → nf s' i = nf s (if i = k then q else i) := fun i hi => by
    by_cases e : i = k
    · rw [if_pos e, e, h1]
    · rw [if_neg e, h2 i hi e]
  have hr : ∀ i x, i < 160 → x < 10 → rwo s' i x = rwo s (if i = k then q else i) x := fun i x hi hx => by
    cases hm : nf s (if i = k then q else i) with
    | none => rw [rwo_none hm, rwo_none ((hf i hi).trans hm)]
    | some m => rw [rwo_some hm, rwo_some ((hf i hi).trans hm), h3 m x hx ⟨_, hb i hi, hm⟩]
  have hc : ∀ i x w, i < 160 → x < 10 → w < 10 → cdo s' i x w = cdo s (if i = k then q else i) x w := fun i x w hi hx hw => by
    unfold cdo
    rw [hr i x hi hx]
    cases hq : rwo s (if i = k then q else i) x with
    | none => rfl
    | some r =>
      obtain ⟨k1, k2⟩ := h4 _ x r w (hb i hi) hx hw hq
      dsimp only
      rw [k1, k2]
  intro i hi
  obtain ⟨g1, g2, g3⟩ := h _ (hb i hi)
  refine ⟨?_, fun j hj => ?_, fun x hx => ?_⟩
  · rw [hf i hi, ← g1]; rfl
  · rw [hf i hi, hf j hj, ← g2 _ (hb j hj)]; rfl
  · obtain ⟨f1, f2, f3⟩ := g3 x hx
    exact ⟨(by rw [hr i x hi hx, ← f1]; rfl), fun j hj => (by rw [hr i x hi hx, hr j x hj hx, ← f2 _ (hb j hj)]; rfl), fun w hw => (by rw [hc i x w hi hx hw, ← f3 w hw]; rfl)⟩
