/-! THE STATE WITHOUT CELLS (AS), and both sides' picture of it -/
abbrev AS : Type := Nat × (Nat → Nat → Int32) × (Nat → Nat → Int32) × (Nat → Int32) × Nat × (Nat → Nat → Int32) × Nat × Nat × AB
abbrev zkn (a : AS) : Nat := a.1
abbrev zK (a : AS) : Nat → Nat → Int32 := a.2.1
abbrev zbx (a : AS) : Nat → Nat → Int32 := a.2.2.1
abbrev zkp (a : AS) : Nat → Int32 := a.2.2.2.1
abbrev zfe (a : AS) : Nat := a.2.2.2.2.1
abbrev zfl (a : AS) : Nat → Nat → Int32 := a.2.2.2.2.2.1
abbrev znl (a : AS) : Nat := a.2.2.2.2.2.2.1
abbrev znr (a : AS) : Nat := a.2.2.2.2.2.2.2.1
abbrev zab (a : AS) : AB := a.2.2.2.2.2.2.2.2
/-- a cell's code: none, open, or a kind's (at most kn) and a turn's -/
def cOK (kn : Nat) (v : Int32) : Prop := v = -1 ∨ v = 0 ∨ (24 ≤ v.toInt ∧ v.toInt < 24 * (kn + 1))
def AV (kn : Nat) (ab : AB) : Prop := ∀ k x w, k < 160 → x < 10 → w < 10 → cOK kn (aat ab k x w)
/-- which x of a row, which z of a layer: names are never at two of them -/
def AZ (ab : AB) : Prop := ∀ k k', k < 160 → k' < 160 → asl ab k k' = true → k % 10 = k' % 10
def kOK (kn : Nat) (K : Nat → Nat → Int32) : Prop := ∀ k, 1 ≤ k → k ≤ kn → 1 ≤ (K 0 k).toInt ∧ (K 0 k).toInt ≤ 10000 ∧ 0 ≤ (K 1 k).toInt ∧ (K 1 k).toInt ≤ 1000000 ∧ 0 ≤ (K 2 k).toInt ∧ (K 2 k).toInt ≤ 15 ∧ 1 ≤ (K 3 k).toInt ∧ (K 3 k).toInt ≤ 16 ∧ (K 4 k = 0 ∨ K 4 k = 1)
def bOK (bx : Nat → Nat → Int32) : Prop := ∀ i, i < 3 → 0 ≤ (bx 0 i).toInt ∧ (bx 0 i).toInt ≤ (bx 1 i).toInt ∧ (bx 1 i).toInt ≤ 9
def OkA (a : AS) : Prop := zkn a ≤ 30 ∧ kOK (zkn a) (zK a) ∧ bOK (zbx a) ∧ (∀ i, i < 12 → zkp a i = 0 ∨ zkp a i = 1) ∧ zfe a ≤ 10000 ∧ AV (zkn a) (zab a)
/-- the class's scratch -/
def CSc (M : Mm) : Prop := (∃ v, M.2.2 51 = .inr (1, [.ref 52, .ref 53, .int v])) ∧ (∃ v, M.2.2 54 = .inr (1, [.ref 55, .ref 56, .int v])) ∧ (∃ v, M.2.2 57 = .inr (6, [.ref 58, .ref 59, .ref 60, .ref 61, .int v])) ∧ (∃ v, M.2.2 64 = .inr (8, [.ref 65, .ref 66, .int v])) ∧
  (∀ a, a ∈ [52, 53, 55, 56, 58, 59, 61, 63, 65, 66] → ∃ f, M.2.2 a = aI 0 1000 f) ∧ ∃ f, M.2.2 60 = aI 0 1001 f
/-- the class's cells but for the scratch. L tells two things: the script's length L / 1024, and how often fallen has thrown, L % 1024 (each throw has laid an object) -/
def CCo (L : Nat) (xs : Nat → Int32) (a : AS) (M : Mm) : Prop := GFx (L / 1024) xs M ∧ (M.2.2 7 = kC (zkn a) ∧ M.2.2 8 = aI 0 31 (zK a 0) ∧ M.2.2 9 = aI 0 31 (zK a 1) ∧ M.2.2 10 = aI 0 31 (zK a 2) ∧ M.2.2 11 = aI 0 31 (zK a 3) ∧ M.2.2 12 = aI 1 31 (zK a 4)) ∧
  (M.2.2 14 = aI 0 3 (zbx a 0) ∧ M.2.2 15 = aI 0 3 (zbx a 1)) ∧ M.2.2 50 = aI 1 12 (zkp a) ∧ (M.2.2 5 = .inr (10, fsCv (zfe a)) ∧ M.2.2 67 = aI 0 60 (zfl a 0) ∧ M.2.2 68 = aI 0 60 (zfl a 1)) ∧ (∃ s, CRep M s (znl a) (znr a) ∧ Ag s (zab a)) ∧ M.1 = 97 + 2 * (znl a + znr a) + L % 1024 ∧ M.2.1 ≤ 60520 + 12 * (znl a + znr a) + 6 * (L % 1024)
def CSt (L : Nat) (xs : Nat → Int32) (a : AS) (M : Mm) : Prop := CCo L xs a M ∧ CSc M
def RSc (M : Mm) : Prop := (∀ a, a ∈ [85, 86, 88, 89, 90, 93, 94, 95] → ∃ f, M.2.2 a = aI 0 1000 f) ∧ (∃ f, M.2.2 81 = aI 1 1710 f) ∧ (∃ f, M.2.2 82 = aI 1 170 f) ∧ ∃ f, M.2.2 87 = aI 1 1000 f
/-- the reference's cells but for the scratch and the object -/
def RCo (L : Nat) (xs : Nat → Int32) (a : AS) (M : Mm) : Prop := (∀ b, b < 5 → M.2.2 b = (iM (L / 1024) xs).2.2 b) ∧ (M.2.2 70 = aI 0 31 (zK a 0) ∧ M.2.2 71 = aI 0 31 (zK a 1) ∧ M.2.2 72 = aI 0 31 (zK a 2) ∧ M.2.2 73 = aI 0 31 (zK a 3) ∧ M.2.2 74 = aI 1 31 (zK a 4)) ∧
  (M.2.2 83 = aI 0 3 (zbx a 0) ∧ M.2.2 84 = aI 0 3 (zbx a 1)) ∧ M.2.2 76 = aI 1 12 (zkp a) ∧ (M.2.2 91 = aI 0 60 (zfl a 0) ∧ M.2.2 92 = aI 0 60 (zfl a 1)) ∧ ∃ s, RRep M s ∧ Ag s (zab a)
def RO (a : AS) (M : Mm) : Prop := ∃ th pm bm, M.2.2 69 = .inr (11, fsRv th (zkn a) (znl a) (znr a) pm (zfe a) bm)
def RSt (L : Nat) (xs : Nat → Int32) (a : AS) (M : Mm) : Prop := RCo L xs a M ∧ RSc M ∧ RO a M
/-- only the reference's cells may differ; only the class's -/
def ROn (M M' : Mm) : Prop := M'.1 = M.1 ∧ M'.2.1 = M.2.1 ∧ ∀ b, b < 69 ∨ 96 ≤ b → M'.2.2 b = M.2.2 b
def COn (M M' : Mm) : Prop := ∀ b, b < 5 ∨ (69 ≤ b ∧ b < 97) → M'.2.2 b = M.2.2 b
/-- the invariant -/
def Inv2 (L : Nat) (xs : Nat → Int32) (n : Nat) (M : Mm) : Prop := ∃ a, OkA a ∧ CSt L xs a M ∧ RSt L xs a M ∧ (∃ f, M.2.2 96 = aJ 1 f) ∧ znl a + znr a ≤ 500 * n
-- frames
abbrev sCs : List Nat := [51, 52, 53, 54, 55, 56, 57, 58, 59, 60, 61, 63, 64, 65, 66]
abbrev sRs : List Nat := [69, 81, 82, 85, 86, 87, 88, 89, 90, 93, 94, 95]
theorem CCo.fr {L : Nat} {xs : Nat → Int32} {a : AS} {M M' : Mm} (h1 : M'.1 = M.1) (h2 : M'.2.1 = M.2.1) (s : ∀ b, b ∉ sCs → (b < 69 ∨ 97 ≤ b) → M'.2.2 b = M.2.2 b) (h : CCo L xs a M) : CCo L xs a M' := by
  obtain ⟨a1, ⟨k0, k1, k2, k3, k4, k5⟩, ⟨b0, b1⟩, c, ⟨d0, d1, d2⟩, ⟨sc, e1, e2⟩, g1, g2⟩ := h
  have S : ∀ f : Nat → Bool, (∀ b, f b = true → b ∉ sCs ∧ (b < 69 ∨ 97 ≤ b)) → Sm f M M' := fun f hf b hb => s b (hf b hb).1 (hf b hb).2
  have s' : ∀ b, b ∉ sCs ∧ (b < 69 ∨ 97 ≤ b) → M'.2.2 b = M.2.2 b := fun b hb => s b hb.1 hb.2
  refine ⟨a1.fr (S _ fun b hb => ?_), ⟨(s' _ (by decide)).trans k0, (s' _ (by decide)).trans k1, (s' _ (by decide)).trans k2, (s' _ (by decide)).trans k3, (s' _ (by decide)).trans k4, (s' _ (by decide)).trans k5⟩, ⟨(s' _ (by decide)).trans b0, (s' _ (by decide)).trans b1⟩, (s' _ (by decide)).trans c,
    ⟨(s' _ (by decide)).trans d0, (s' _ (by decide)).trans d1, (s' _ (by decide)).trans d2⟩, ⟨sc, e1.fr (Nat.le_of_eq h1.symm) (S _ fun b hb => ?_), e2⟩, h1.trans g1, by rw [h2]; exact g2⟩
  · simp only [fFx, Bool.or_eq_true, Bool.and_eq_true, decide_eq_true_eq, beq_iff_eq] at hb
    simp only [sCs, List.mem_cons, List.not_mem_nil, or_false]
    omega
  · simp only [fCl, Bool.or_eq_true, Bool.and_eq_true, decide_eq_true_eq, beq_iff_eq] at hb
    simp only [sCs, List.mem_cons, List.not_mem_nil, or_false]
    omega
theorem CSt.ron {L : Nat} {xs : Nat → Int32} {a : AS} {M M' : Mm} (s : ROn M M') (h : CSt L xs a M) : CSt L xs a M' := by
  obtain ⟨h1, h2, h3⟩ := s
  refine ⟨h.1.fr h1 h2 fun b _ hb => h3 b (by omega), ?_⟩
  obtain ⟨⟨v1, g1⟩, ⟨v2, g2⟩, ⟨v3, g3⟩, ⟨v4, g4⟩, g5, ⟨f6, g6⟩⟩ := h.2
  refine ⟨⟨v1, (h3 51 (by decide)).trans g1⟩, ⟨v2, (h3 54 (by decide)).trans g2⟩, ⟨v3, (h3 57 (by decide)).trans g3⟩, ⟨v4, (h3 64 (by decide)).trans g4⟩, fun a ha => ?_, ⟨f6, (h3 60 (by decide)).trans g6⟩⟩
  obtain ⟨f, hf⟩ := g5 a ha
  have all : ∀ a ∈ [52, 53, 55, 56, 58, 59, 61, 63, 65, 66], a < 69 := by decide
  exact ⟨f, (h3 a (Or.inl (all a ha))).trans hf⟩
theorem RCo.fr {L : Nat} {xs : Nat → Int32} {a : AS} {M M' : Mm} (s : ∀ b, b ∉ sRs → (b < 5 ∨ (69 ≤ b ∧ b < 96)) → M'.2.2 b = M.2.2 b) (h : RCo L xs a M) : RCo L xs a M' := by
  obtain ⟨a1, ⟨k0, k1, k2, k3, k4⟩, ⟨b0, b1⟩, c, ⟨d1, d2⟩, ⟨sr, e1, e2⟩⟩ := h
  have s' : ∀ b, b ∉ sRs ∧ (b < 5 ∨ (69 ≤ b ∧ b < 96)) → M'.2.2 b = M.2.2 b := fun b hb => s b hb.1 hb.2
  refine ⟨fun b hb => (s b ?_ (Or.inl hb)).trans (a1 b hb), ⟨(s' _ (by decide)).trans k0, (s' _ (by decide)).trans k1, (s' _ (by decide)).trans k2, (s' _ (by decide)).trans k3, (s' _ (by decide)).trans k4⟩, ⟨(s' _ (by decide)).trans b0, (s' _ (by decide)).trans b1⟩, (s' _ (by decide)).trans c, ⟨(s' _ (by decide)).trans d1, (s' _ (by decide)).trans d2⟩, ⟨sr, e1.fr fun b hb => ?_, e2⟩⟩
  · simp only [sRs, List.mem_cons, List.not_mem_nil, or_false]
    omega
  · simp only [fRl, Bool.or_eq_true, Bool.and_eq_true, decide_eq_true_eq, beq_iff_eq] at hb
    refine s b ?_ (by omega)
    simp only [sRs, List.mem_cons, List.not_mem_nil, or_false]
    omega
theorem RSt.con {L : Nat} {xs : Nat → Int32} {a : AS} {M M' : Mm} (s : COn M M') (h : RSt L xs a M) : RSt L xs a M' := by
  obtain ⟨h1, ⟨h2, ⟨f3, h3⟩, ⟨f4, h4⟩, ⟨f5, h5⟩⟩, ⟨th, pm, bm, h6⟩⟩ := h
  refine ⟨h1.fr fun b _ hb => s b (by omega), ⟨fun a ha => ?_, ⟨f3, (s _ (by decide)).trans h3⟩, ⟨f4, (s _ (by decide)).trans h4⟩, ⟨f5, (s _ (by decide)).trans h5⟩⟩, ⟨th, pm, bm, (s _ (by decide)).trans h6⟩⟩
  obtain ⟨f, hf⟩ := h2 a ha
  have all : ∀ a ∈ [85, 86, 88, 89, 90, 93, 94, 95], 69 ≤ a ∧ a < 97 := by decide
  exact ⟨f, (s a (Or.inr (all a ha))).trans hf⟩
/-- both sides do what sp tells: they agree -/
def CMt (L : Nat) (xs : Nat → Int32) (F : FN) (as : List Value) (sp : AS → Int32 × AS) : Prop := ∀ a M, OkA a → znl a + znr a ≤ 256000 → CSt L xs a M → wF F (.ref 5 :: as) M fun v M' => v = some (.int (sp a).1) ∧ CSt L xs (sp a).2 M' ∧ COn M M'
def RMt (L : Nat) (xs : Nat → Int32) (F : FN) (as : List Value) (sp : AS → Int32 × AS) : Prop := ∀ a M, OkA a → znl a + znr a ≤ 256000 → RSt L xs a M → wF F (.ref 69 :: as) M fun v M' => v = some (.int (sp a).1) ∧ RSt L xs (sp a).2 M' ∧ ROn M M'
theorem ok2_of {L : Nat} {xs : Nat → Int32} {F G : FN} {as : List Value} (sp : AS → Int32 × AS) (hC : CMt L xs F as sp) (hR : RMt L xs G as sp) (hO : ∀ a, OkA a → OkA (sp a).2 ∧ znl (sp a).2 + znr (sp a).2 ≤ znl a + znr a + 500) : OK2 (Inv2 L xs) F G as := by
  rintro n M hn ⟨a, h1, h2, h3, ⟨f, h4⟩, h5⟩
  have hb : znl a + znr a ≤ 256000 := by omega
  refine (hC a M h1 hb h2).mono ?_
  rintro v M1 ⟨rfl, g1, g2⟩
  have r1 := h3.con g2
  obtain ⟨th, pm, bm, r69⟩ := r1.2.2
  refine ⟨_, rfl, g2 0 (Or.inl (by decide)), ⟨_, r69⟩, (hR a M1 h1 hb r1).mono ?_⟩
  rintro w M2 ⟨rfl, k1, k2⟩
  obtain ⟨o1, o2⟩ := hO a h1
  exact ⟨rfl, _, o1, g1.ron k2, k1, ⟨f, (k2.2.2 96 (by omega)).trans ((g2 96 (by omega)).trans h4)⟩, by omega⟩
/-- what changes nothing -/
theorem ok2_rd {L : Nat} {xs : Nat → Int32} {F G : FN} {as : List Value} (val : AS → Int32) (hC : ∀ a M, OkA a → znl a + znr a ≤ 256000 → CSt L xs a M → wF F (.ref 5 :: as) M fun v M' => v = some (.int (val a)) ∧ CSt L xs a M' ∧ COn M M')
    (hR : ∀ a M, OkA a → znl a + znr a ≤ 256000 → RSt L xs a M → wF G (.ref 69 :: as) M fun v M' => v = some (.int (val a)) ∧ RSt L xs a M' ∧ ROn M M') : OK2 (Inv2 L xs) F G as := ok2_of (fun a => (val a, a)) hC hR fun _ h => ⟨h, Nat.le_add_right _ _⟩
/-- the invariant, the throws told apart -/
def Inv3 (L : Nat) (xs : Nat → Int32) (n : Nat) (M : Mm) : Prop := ∃ T, T ≤ n ∧ T ≤ 512 ∧ Inv2 (L * 1024 + T) xs n M
theorem lt_div {L T : Nat} (h : T ≤ 512) : (L * 1024 + T) / 1024 = L := by omega
theorem lt_mod {L T : Nat} (h : T ≤ 512) : (L * 1024 + T) % 1024 = T := by omega
theorem inv3_base (L : Nat) (xs : Nat → Int32) : Base L xs (Inv3 L xs) := by
  rintro n M ⟨T, hT, hT2, a, h1, h2, ⟨h3, -, ⟨th, pm, bm, h69⟩⟩, -, h5⟩
  obtain ⟨⟨h0, -⟩, -, -, -, ⟨g5, -⟩, -, e1, e2⟩ := h2.1
  rw [lt_div hT2] at h0
  rw [lt_mod hT2] at e1 e2
  exact ⟨h0 0 (by decide), ⟨_, g5⟩, ⟨_, h69⟩, by omega, by omega⟩
theorem inv3_mono (L : Nat) (xs : Nat → Int32) (n : Nat) (M : Mm) (h : Inv3 L xs n M) : Inv3 L xs (n + 1) M := by
  obtain ⟨T, hT, hT2, a, h1, h2, h3, h4, h5⟩ := h
  exact ⟨T, by omega, hT2, a, h1, h2, h3, h4, by omega⟩
theorem ok3_of {L : Nat} {xs : Nat → Int32} {F G : FN} {as : List Value} (h : ∀ L, OK2 (Inv2 L xs) F G as) : OK2 (Inv3 L xs) F G as := by
  rintro n M hn ⟨T, hT, hT2, hI⟩
  refine (h (L * 1024 + T) n M hn hI).mono ?_
  rintro v M1 ⟨x, e1, e2, e3, e4⟩
  refine ⟨x, e1, e2, e3, e4.mono ?_⟩
  rintro w M2 ⟨f1, f2⟩
  exact ⟨f1, T, by omega, hT2, f2⟩
theorem inv3_start (L : Nat) (xs : Nat → Int32) (M : Mm) (h : St0 L xs M) : Inv3 L xs 0 M := by
  obtain ⟨a1, a2, ⟨F, T, p14, p15, p83, p84, hv⟩, ⟨kp, q50, q76, hkp⟩, kn, nl, nr, fe, ab, ⟨hkn, k7, W, S, Lg, O, H, k8, k9, k10, k11, k12, k70, k71, k72, k73, k74, hk⟩, ⟨hfe, k5, f0, f1, k67, k68, k91, k92⟩, ⟨th, pm, bm, r69⟩, ⟨sc, sr, c1, c2, c3, c4⟩, b5, b6, b7⟩ := inv_start L xs M h
  obtain ⟨⟨v1, g1⟩, ⟨v2, g2⟩, ⟨v3, g3⟩, ⟨v4, g4⟩, g5, g6, g7, g8, g9, g10⟩ := a2
  have hz : nl = 0 ∧ nr = 0 := by omega
  have eL : (L * 1024 + 0) / 1024 = L := lt_div (Nat.zero_le _)
  have eM : (L * 1024 + 0) % 1024 = 0 := lt_mod (Nat.zero_le _)
  have b5' : M.1 = 97 + 2 * (nl + nr) + (L * 1024 + 0) % 1024 := by rw [eM]; exact b5
  have b6' : M.2.1 ≤ 60520 + 12 * (nl + nr) + 6 * ((L * 1024 + 0) % 1024) := by rw [eM]; exact b6
  have a1' : GFx ((L * 1024 + 0) / 1024) xs M := by rw [eL]; exact a1
  refine ⟨0, Nat.le_refl _, Nat.zero_le _, (kn, (fun i => if i = 0 then W else if i = 1 then S else if i = 2 then Lg else if i = 3 then O else H), (fun i => if i = 0 then F else T), kp, fe, (fun i => if i = 0 then f0 else f1), nl, nr, ab), ⟨hkn, hk, hv, hkp, hfe, ?_⟩, ⟨⟨a1', ⟨k7, k8, k9, k10, k11, k12⟩, ⟨p14, p15⟩, q50, ⟨k5, k67, k68⟩, ⟨sc, c1, c3⟩, b5', b6'⟩, ⟨v1, g1⟩, ⟨v2, g2⟩, ⟨v3, g3⟩, ⟨v4, g4⟩, fun a ha => g5 a ?_, g6⟩,
    ⟨⟨a1'.1, ⟨k70, k71, k72, k73, k74⟩, ⟨p83, p84⟩, q76, ⟨k91, k92⟩, ⟨sr, c2, c4⟩⟩, ⟨fun a ha => g5 a ?_, g7, g8, g9⟩, ⟨th, pm, bm, r69⟩⟩, g10, b7⟩
  · -- at first nothing is there: the class's places are all empty
    intro k x w hk hx hw
    left
    obtain ⟨-, -, -, hC, hR, -⟩ := h
    obtain ⟨-, -, -, -, -, -, -, -, -, cy, -, cs, -⟩ := hC
    have hn : nf sc k = none := by
      obtain ⟨fl, e1, e2⟩ := c1.1 (k / 10) (by omega)
      have e3 := e2 (k % 10) (by omega)
      rw [show 10 * (k / 10) + k % 10 = k by omega] at e3
      rw [← e3]
      unfold LA at e1
      by_cases q : k / 10 < 4
      · rw [if_pos q, (cy _ q).2] at e1
        injection e1 with e1
        injection e1 with _ e1
        injection e1 with _ e1
        injection e1 with e1
        injection e1 with e1
        injection e1 with e1
        injection e1 with e1
        rw [← e1]
      · rw [if_neg q, show 19 + 2 * (k / 10) = 27 + 2 * (k / 10 - 4) by omega, (cs _ (by omega)).2] at e1
        injection e1 with e1
        injection e1 with _ e1
        injection e1 with _ e1
        injection e1 with e1
        injection e1 with e1
        injection e1 with e1
        injection e1 with e1
        rw [← e1]
    have hr : rwo sc k x = none := by unfold rwo; rw [hn]; rfl
    rw [((c3 k hk).2.2 x hx).2.2 w hw]
    unfold cdo
    rw [hr]
  · revert a
    decide
  · revert a
    decide
