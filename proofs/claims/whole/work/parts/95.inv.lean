/-! THE INVARIANT. Counting; structures with names (SN) and without (AB); groups of cells -/
def cn : Nat → (Nat → Bool) → Nat
  | 0, _ => 0
  | n + 1, p => cn n p + if p n = true then 1 else 0
def sm : Nat → (Nat → Nat) → Nat
  | 0, _ => 0
  | n + 1, p => sm n p + p n
theorem cn_none {n : Nat} {p : Nat → Bool} (h : ∀ i, i < n → p i = false) : cn n p = 0 := by
  induction n with
  | zero => rfl
  | succ n ih => rw [cn, ih fun i hi => h i (by omega), h n (by omega)]; rfl
theorem sm_none {n : Nat} {p : Nat → Nat} (h : ∀ i, i < n → p i = 0) : sm n p = 0 := by
  induction n with
  | zero => rfl
  | succ n ih => rw [sm, ih fun i hi => h i (by omega), h n (by omega)]
/-- a structure with names: place -> layer, layer and x -> row, row -> length, row and w -> code -/
abbrev SN : Type := (Nat → Option Nat) × (Nat → Nat → Option Nat) × (Nat → Nat) × (Nat → Nat → Int32)
abbrev nf (s : SN) : Nat → Option Nat := s.1
abbrev ng (s : SN) : Nat → Nat → Option Nat := s.2.1
abbrev nln (s : SN) : Nat → Nat := s.2.2.1
abbrev ncd (s : SN) : Nat → Nat → Int32 := s.2.2.2
def sn0 : SN := (fun _ => none, fun _ _ => none, fun _ => 0, fun _ _ => 0)
/-- how many places hold layer l; how many held layers (names below B) hold row r; how many layers, rows are held -/
def hcnt (s : SN) (l : Nat) : Nat := cn 160 fun k => decide (nf s k = some l)
def rcnt (B : Nat) (s : SN) (r : Nat) : Nat := sm B fun l => if hcnt s l = 0 then 0 else cn 10 fun x => decide (ng s l x = some r)
def lheld (B : Nat) (s : SN) : Nat := cn B fun l => decide (0 < hcnt s l)
def rheld (B R : Nat) (s : SN) : Nat := cn R fun r => decide (0 < rcnt B s r)
/-- a row's name tells its x -/
def RowX (s : SN) : Prop := ∀ k k' l l' x x' r, k < 160 → k' < 160 → x < 10 → x' < 10 → nf s k = some l → nf s k' = some l' → ng s l x = some r → ng s l' x' = some r → x = x'
/-- without names: which places hold a layer, the same layer, which rows are there, the same rows, the cells' codes (-1: no cell) -/
abbrev AB : Type := (Nat → Bool) × (Nat → Nat → Bool) × (Nat → Nat → Bool) × (Nat → Nat → Nat → Bool) × (Nat → Nat → Nat → Int32)
abbrev aly (a : AB) : Nat → Bool := a.1
abbrev asl (a : AB) : Nat → Nat → Bool := a.2.1
abbrev arp (a : AB) : Nat → Nat → Bool := a.2.2.1
abbrev asr (a : AB) : Nat → Nat → Nat → Bool := a.2.2.2.1
abbrev aat (a : AB) : Nat → Nat → Nat → Int32 := a.2.2.2.2
def ab0 : AB := (fun _ => false, fun _ _ => false, fun _ _ => false, fun _ _ _ => false, fun _ _ _ => -1)
def rwo (s : SN) (k x : Nat) : Option Nat := (nf s k).bind fun l => ng s l x
def cdo (s : SN) (k x w : Nat) : Int32 := match rwo s k x with
  | some r => if w < nln s r then ncd s r w else -1
  | none => -1
def Ag (s : SN) (a : AB) : Prop := ∀ k, k < 160 → aly a k = (nf s k).isSome ∧ (∀ k', k' < 160 → asl a k k' = ((nf s k).isSome && decide (nf s k = nf s k'))) ∧
  ∀ x, x < 10 → arp a k x = (rwo s k x).isSome ∧ (∀ k', k' < 160 → asr a k x k' = ((rwo s k x).isSome && decide (rwo s k x = rwo s k' x))) ∧ ∀ w, w < 10 → aat a k x w = cdo s k x w
theorem Ag_0 : Ag sn0 ab0 := fun k hk => ⟨rfl, fun k' hk' => rfl, fun x hx => ⟨rfl, fun k' hk' => rfl, fun w hw => rfl⟩⟩
/-- where holder h's layers array is -/
def LA (h : Nat) : Nat := if h < 4 then 18 + 2 * h else 19 + 2 * h
abbrev BC : Nat := 700000
def codeOk (v : Int32) : Prop := 0 ≤ v.toInt ∧ v.toInt < 744
/-- a row, a layer of the class -/
def CRow (M : Mm) (s : SN) (r : Nat) : Prop := 97 ≤ r ∧ r + 1 < M.1 ∧ M.2.2 r = .inr (7, [.ref (r + 1), .int (nI (rcnt BC s r))]) ∧ nln s r ≤ 10 ∧ ∃ cr, M.2.2 (r + 1) = aI 0 (nln s r) cr ∧ ∀ w, w < nln s r → cr w = ncd s r w ∧ codeOk (cr w)
def CLay (M : Mm) (s : SN) (l : Nat) : Prop := 97 ≤ l ∧ l + 1 < M.1 ∧ M.2.2 l = .inr (4, [.ref (l + 1), .int (nI (hcnt s l))]) ∧ ∃ gl, M.2.2 (l + 1) = aR 5 10 gl ∧ ∀ x, x < 10 → gl x = ng s l x ∧ ∀ r, ng s l x = some r → CRow M s r
def CRep (M : Mm) (s : SN) (nl nr : Nat) : Prop := (∀ h, h < 16 → ∃ fl, M.2.2 (LA h) = aR 4 10 fl ∧ ∀ z, z < 10 → fl z = nf s (10 * h + z)) ∧ (∀ k l, k < 160 → nf s k = some l → CLay M s l) ∧
  M.2.2 6 = .inr (5, [.int (nI nl), .int (nI nr), .int (nI (lheld BC s)), .int (nI (rheld BC BC s))]) ∧ RowX s
/-- the reference's tables -/
def oI (o : Option Nat) : Int32 := match o with
  | none => -1
  | some i => nI i
def RRep (M : Mm) (s : SN) : Prop := (∃ hd, M.2.2 75 = aI 0 160 hd ∧ ∀ k, k < 160 → hd k = oI (nf s k) ∧ ∀ l, nf s k = some l → l < 170) ∧
  (∃ rw, M.2.2 77 = aI 0 1700 rw ∧ ∀ l x, l < 170 → x < 10 → rw (10 * l + x) = oI (ng s l x) ∧ ∀ r, ng s l x = some r → r < 1710) ∧ (∃ ln, M.2.2 78 = aI 0 1710 ln ∧ ∀ r, r < 1710 → ln r = nI (nln s r) ∧ nln s r ≤ 10) ∧
  (∃ ck ct, M.2.2 79 = aI 0 17100 ck ∧ M.2.2 80 = aI 0 17100 ct ∧ ∀ r w, r < 1710 → w < 10 → 0 ≤ (ck (10 * r + w)).toInt ∧ (ck (10 * r + w)).toInt ≤ 30 ∧ 0 ≤ (ct (10 * r + w)).toInt ∧ (ct (10 * r + w)).toInt < 24 ∧ (ck (10 * r + w) = 0 → ct (10 * r + w) = 0) ∧ ncd s r w = 24 * ck (10 * r + w) + ct (10 * r + w)) ∧ RowX s
/-- what never changes -/
def GFx (L : Nat) (xs : Nat → Int32) (M : Mm) : Prop := (∀ b, b < 5 → M.2.2 b = (iM L xs).2.2 b) ∧ M.2.2 13 = .inr (0, [.ref 14, .ref 15]) ∧ M.2.2 16 = aR 3 4 (fun i => if i < 4 then some (17 + 2 * i) else none) ∧ (∀ i, i < 4 → M.2.2 (17 + 2 * i) = .inr (9, [.ref 6, .ref (18 + 2 * i)])) ∧
  M.2.2 25 = aR 3 12 (fun i => if i < 12 then some (26 + 2 * i) else none) ∧ (∀ i, i < 12 → M.2.2 (26 + 2 * i) = .inr (9, [.ref 6, .ref (27 + 2 * i)])) ∧ M.2.2 62 = .inr (3, [.ref 63])
/-- what a call may use as it likes -/
def GSc (M : Mm) : Prop := (∃ v, M.2.2 51 = .inr (1, [.ref 52, .ref 53, .int v])) ∧ (∃ v, M.2.2 54 = .inr (1, [.ref 55, .ref 56, .int v])) ∧ (∃ v, M.2.2 57 = .inr (6, [.ref 58, .ref 59, .ref 60, .ref 61, .int v])) ∧ (∃ v, M.2.2 64 = .inr (8, [.ref 65, .ref 66, .int v])) ∧
  (∀ a, a ∈ [52, 53, 55, 56, 58, 59, 61, 63, 65, 66, 85, 86, 88, 89, 90, 93, 94, 95] → ∃ f, M.2.2 a = aI 0 1000 f) ∧ (∃ f, M.2.2 60 = aI 0 1001 f) ∧ (∃ f, M.2.2 81 = aI 1 1710 f) ∧ (∃ f, M.2.2 82 = aI 1 170 f) ∧ (∃ f, M.2.2 87 = aI 1 1000 f) ∧ ∃ f, M.2.2 96 = aJ 1 f
/-- the kinds: class and reference have the same lists -/
def GKi (kn : Nat) (M : Mm) : Prop := kn ≤ 30 ∧ M.2.2 7 = .inr (2, [.ref 8, .ref 9, .ref 10, .ref 11, .ref 12, .int (nI kn)]) ∧ ∃ w s l o h, M.2.2 8 = aI 0 31 w ∧ M.2.2 9 = aI 0 31 s ∧ M.2.2 10 = aI 0 31 l ∧ M.2.2 11 = aI 0 31 o ∧ M.2.2 12 = aI 1 31 h ∧
  M.2.2 70 = aI 0 31 w ∧ M.2.2 71 = aI 0 31 s ∧ M.2.2 72 = aI 0 31 l ∧ M.2.2 73 = aI 0 31 o ∧ M.2.2 74 = aI 1 31 h ∧ ∀ k, 1 ≤ k → k ≤ kn → 1 ≤ (w k).toInt ∧ (w k).toInt ≤ 10000 ∧ 0 ≤ (s k).toInt ∧ (s k).toInt ≤ 1000000 ∧ 0 ≤ (l k).toInt ∧ (l k).toInt ≤ 15 ∧ 1 ≤ (o k).toInt ∧ (o k).toInt ≤ 16 ∧ (h k = 0 ∨ h k = 1)
def GBx (M : Mm) : Prop := ∃ f t, M.2.2 14 = aI 0 3 f ∧ M.2.2 15 = aI 0 3 t ∧ M.2.2 83 = aI 0 3 f ∧ M.2.2 84 = aI 0 3 t ∧ ∀ i, i < 3 → 0 ≤ (f i).toInt ∧ (f i).toInt ≤ (t i).toInt ∧ (t i).toInt ≤ 9
def GKp (M : Mm) : Prop := ∃ f, M.2.2 50 = aI 1 12 f ∧ M.2.2 76 = aI 1 12 f ∧ ∀ i, i < 12 → f i = 0 ∨ f i = 1
abbrev fsCv (fe : Nat) : List Value := [.ref 6, .ref 7, .ref 13, .ref 16, .ref 25, .ref 50, .ref 51, .ref 54, .ref 57, .ref 62, .ref 64, .ref 67, .ref 68, .int (nI fe)]
def GFe (fe : Nat) (M : Mm) : Prop := fe ≤ 10000 ∧ M.2.2 5 = .inr (10, fsCv fe) ∧ ∃ f t, M.2.2 67 = aI 0 60 f ∧ M.2.2 68 = aI 0 60 t ∧ M.2.2 91 = aI 0 60 f ∧ M.2.2 92 = aI 0 60 t
abbrev fsRv (th : Int32) (kn nl nr : Nat) (pm : Int32) (fe : Nat) (bm : Int32) : List Value := ((((((fsR.set 0 (.int th)).set 1 (.int (nI kn))).set 13 (.int (nI nl))).set 14 (.int (nI nr))).set 24 (.int pm)).set 26 (.int (nI fe))).set 32 (.int bm)
def GRo (kn nl nr fe : Nat) (M : Mm) : Prop := ∃ th pm bm, M.2.2 69 = .inr (11, fsRv th kn nl nr pm fe bm)
/-- the layers of both sides -/
def GLy (nl nr : Nat) (ab : AB) (M : Mm) : Prop := ∃ sc sr, CRep M sc nl nr ∧ RRep M sr ∧ Ag sc ab ∧ Ag sr ab
def Inv (L : Nat) (xs : Nat → Int32) (n : Nat) (M : Mm) : Prop := GFx L xs M ∧ GSc M ∧ GBx M ∧ GKp M ∧ ∃ kn nl nr fe ab, GKi kn M ∧ GFe fe M ∧ GRo kn nl nr fe M ∧ GLy nl nr ab M ∧ M.1 = 97 + 2 * (nl + nr) ∧ M.2.1 ≤ 60520 + 12 * (nl + nr) ∧ nl + nr ≤ 500 * n
theorem inv_base (L : Nat) (xs : Nat → Int32) : Base L xs (Inv L xs) := by
  rintro n M ⟨⟨h0, -⟩, -, -, -, kn, nl, nr, fe, ab, -, ⟨-, h5, -⟩, ⟨th, pm, bm, h69⟩, -, h1, h2, h3⟩
  exact ⟨h0 0 (by decide), ⟨_, h5⟩, ⟨_, h69⟩, by omega, by omega⟩
theorem inv_mono (L : Nat) (xs : Nat → Int32) (n : Nat) (M : Mm) (h : Inv L xs n M) : Inv L xs (n + 1) M := by
  obtain ⟨a1, a2, a3, a4, kn, nl, nr, fe, ab, b1, b2, b3, b4, b5, b6, b7⟩ := h
  exact ⟨a1, a2, a3, a4, kn, nl, nr, fe, ab, b1, b2, b3, b4, b5, b6, by omega⟩
theorem hcnt_0 (l : Nat) : hcnt sn0 l = 0 := cn_none fun i _ => rfl
theorem rcnt_0 (B r : Nat) : rcnt B sn0 r = 0 := sm_none fun i _ => if_pos (hcnt_0 i)
theorem inv_start (L : Nat) (xs : Nat → Int32) (M : Mm) (h : St0 L xs M) : Inv L xs 0 M := by
  obtain ⟨h1, h2, h3, hC, hR, h96⟩ := h
  obtain ⟨c5, c6, c7, c8, c12, c13, c14, c15, c16, cy, c25, cs, c50, c51, c52, c53, c54, c55, c56, c57, c58, c59, c60, c61, c62, c63, c64, c65, c66, c67, c68⟩ := hC
  obtain ⟨r69, r70, r71, r72, r73, r74, r75, r76, r77, r78, r79, r80, r81, r82, r83, r84, r85, r86, r87, r88, r89, r90, r91, r92, r93, r94, r95⟩ := hR
  have e9 : arr3 9 9 9 = fun i => if i < 3 then 9 else 0 := by
    funext i
    rcases (show i = 0 ∨ i = 1 ∨ i = 2 ∨ 3 ≤ i by omega) with rfl | rfl | rfl | h
    · rfl
    · rfl
    · rfl
    · show (if i = 2 then _ else if i = 1 then _ else if i = 0 then _ else _) = _
      rw [if_neg (by omega), if_neg (by omega), if_neg (by omega), if_neg (by omega)]
  have e0 : arr3 0 0 0 = fun _ => 0 := by
    funext i
    rcases (show i = 0 ∨ i = 1 ∨ i = 2 ∨ 3 ≤ i by omega) with rfl | rfl | rfl | h
    · rfl
    · rfl
    · rfl
    · show (if i = 2 then _ else if i = 1 then _ else if i = 0 then _ else _) = _
      rw [if_neg (by omega), if_neg (by omega), if_neg (by omega)]
  have hl : lheld BC sn0 = 0 := cn_none fun i _ => by rw [hcnt_0]; rfl
  have hr : rheld BC BC sn0 = 0 := cn_none fun i _ => by rw [rcnt_0]; rfl
  refine ⟨⟨h3, c13, c16, fun i hi => (cy i hi).1, c25, fun i hi => (cs i hi).1, c62⟩, ⟨⟨_, c51⟩, ⟨_, c54⟩, ⟨_, c57⟩, ⟨_, c64⟩, fun a ha => ?_, ⟨_, c60⟩, ⟨_, r81⟩, ⟨_, r82⟩, ⟨_, r87⟩, ⟨_, h96⟩⟩,
    ⟨_, _, c14, c15, by rw [e0]; exact r83, by rw [e9]; exact r84, fun i hi => ?_⟩, ⟨_, c50, r76, fun i hi => Or.inl rfl⟩, 0, 0, 0, 0, ab0,
    ⟨by decide, c7, _, _, _, _, _, c8 0 (by decide), c8 1 (by decide), c8 2 (by decide), c8 3 (by decide), c12, r70, r71, r72, r73, r74, fun k h1 h2 => by omega⟩, ⟨by decide, c5, _, _, c67, c68, r91, r92⟩, ⟨0, 0, 0, r69⟩, ⟨sn0, sn0, ⟨?_, fun k l hk hl => (by cases hl), ?_, ?_⟩, ⟨⟨_, r75, ?_⟩, ⟨_, r77, ?_⟩, ⟨_, r78, ?_⟩, ⟨_, _, r79, r80, ?_⟩, ?_⟩, Ag_0, Ag_0⟩, h1, by omega, by omega⟩
  · simp only [List.mem_cons, List.not_mem_nil, or_false] at ha
    rcases ha with rfl | rfl | rfl | rfl | rfl | rfl | rfl | rfl | rfl | rfl | rfl | rfl | rfl | rfl | rfl | rfl | rfl | rfl
    · exact ⟨_, c52⟩
    · exact ⟨_, c53⟩
    · exact ⟨_, c55⟩
    · exact ⟨_, c56⟩
    · exact ⟨_, c58⟩
    · exact ⟨_, c59⟩
    · exact ⟨_, c61⟩
    · exact ⟨_, c63⟩
    · exact ⟨_, c65⟩
    · exact ⟨_, c66⟩
    · exact ⟨_, r85⟩
    · exact ⟨_, r86⟩
    · exact ⟨_, r88⟩
    · exact ⟨_, r89⟩
    · exact ⟨_, r90⟩
    · exact ⟨_, r93⟩
    · exact ⟨_, r94⟩
    · exact ⟨_, r95⟩
  · rw [e0, e9]
    show 0 ≤ (0 : Int32).toInt ∧ (0 : Int32).toInt ≤ (if i < 3 then (9 : Int32) else 0).toInt ∧ (if i < 3 then (9 : Int32) else 0).toInt ≤ 9
    rw [if_pos hi]
    decide
  · intro h hh
    by_cases e : h < 4
    · refine ⟨_, ?_, fun z _ => rfl⟩
      unfold LA
      rw [if_pos e]
      exact (cy h e).2
    · refine ⟨_, ?_, fun z _ => rfl⟩
      unfold LA
      rw [if_neg e]
      have := (cs (h - 4) (by omega)).2
      rw [show 27 + 2 * (h - 4) = 19 + 2 * h by omega] at this
      exact this
  · rw [c6, hl, hr]
    rfl
  · intro k k' l l' x x' r _ _ _ _ hq
    cases hq
  · intro k hk
    refine ⟨?_, fun l hq => by cases hq⟩
    show (if k < 160 then (-1 : Int32) else 0) = -1
    rw [if_pos hk]
  · intro l x hl hx
    refine ⟨?_, fun l hq => by cases hq⟩
    show (if 10 * l + x < 1700 then (-1 : Int32) else 0) = -1
    rw [if_pos (by omega)]
  · intro r hr
    exact ⟨rfl, Nat.zero_le _⟩
  · intro r w hr hw
    exact ⟨by decide, by decide, by decide, by decide, fun _ => rfl, rfl⟩
  · intro k k' l l' x x' r _ _ _ _ hq
    cases hq
theorem law_goal_inv (h : ∀ L xs, AllOK (Inv L xs)) : LawGoal := law_goal_of Inv inv_base inv_mono h inv_start
