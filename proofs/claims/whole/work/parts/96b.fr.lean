/-! each group of cells stays where its cells stay -/
def fFx (b : Nat) : Bool := decide (b < 5) || b == 13 || b == 16 || b == 25 || b == 62 || (decide (17 ≤ b) && decide (b < 25) && b % 2 == 1) || (decide (26 ≤ b) && decide (b < 50) && b % 2 == 0)
def fSc (b : Nat) : Bool := (decide (51 ≤ b) && decide (b < 67) && b != 62) || b == 81 || b == 82 || (decide (85 ≤ b) && decide (b < 91)) || (decide (93 ≤ b) && decide (b < 97))
def fBx (b : Nat) : Bool := b == 14 || b == 15 || b == 83 || b == 84
def fKp (b : Nat) : Bool := b == 50 || b == 76
def fKi (b : Nat) : Bool := (decide (7 ≤ b) && decide (b < 13)) || (decide (70 ≤ b) && decide (b < 75))
def fFe (b : Nat) : Bool := b == 5 || b == 67 || b == 68 || b == 91 || b == 92
def fCl (b : Nat) : Bool := b == 6 || (decide (18 ≤ b) && decide (b < 25) && b % 2 == 0) || (decide (27 ≤ b) && decide (b < 50) && b % 2 == 1) || decide (97 ≤ b)
def fRl (b : Nat) : Bool := b == 75 || (decide (77 ≤ b) && decide (b < 81))
abbrev Sm (f : Nat → Bool) (M M' : Mm) : Prop := ∀ b, f b = true → M'.2.2 b = M.2.2 b
theorem GFx.fr {L : Nat} {xs : Nat → Int32} {M M' : Mm} (s : Sm fFx M M') (h : GFx L xs M) : GFx L xs M' := by
  obtain ⟨h1, h2, h3, h4, h5, h6, h7⟩ := h
  exact ⟨fun b hb => (s b (by simp [fFx, hb])).trans (h1 b hb), (s 13 rfl).trans h2, (s 16 rfl).trans h3, fun i hi => (s _ (by simp [fFx]; omega)).trans (h4 i hi), (s 25 rfl).trans h5, fun i hi => (s _ (by simp [fFx]; omega)).trans (h6 i hi), (s 62 rfl).trans h7⟩
theorem GSc.fr {M M' : Mm} (s : Sm fSc M M') (h : GSc M) : GSc M' := by
  obtain ⟨⟨v1, h1⟩, ⟨v2, h2⟩, ⟨v3, h3⟩, ⟨v4, h4⟩, h5, ⟨f6, h6⟩, ⟨f7, h7⟩, ⟨f8, h8⟩, ⟨f9, h9⟩, ⟨fa, ha⟩⟩ := h
  refine ⟨⟨v1, (s 51 rfl).trans h1⟩, ⟨v2, (s 54 rfl).trans h2⟩, ⟨v3, (s 57 rfl).trans h3⟩, ⟨v4, (s 64 rfl).trans h4⟩, fun a ha => ?_, ⟨f6, (s 60 rfl).trans h6⟩, ⟨f7, (s 81 rfl).trans h7⟩, ⟨f8, (s 82 rfl).trans h8⟩, ⟨f9, (s 87 rfl).trans h9⟩, ⟨fa, (s 96 rfl).trans ha⟩⟩
  obtain ⟨f, hf⟩ := h5 a ha
  refine ⟨f, (s a ?_).trans hf⟩
  have all : ∀ a ∈ [52, 53, 55, 56, 58, 59, 61, 63, 65, 66, 85, 86, 88, 89, 90, 93, 94, 95], fSc a = true := by decide
  exact all a ha
theorem GBx.fr {M M' : Mm} (s : Sm fBx M M') (h : GBx M) : GBx M' := by
  obtain ⟨f, t, h1, h2, h3, h4, h5⟩ := h
  exact ⟨f, t, (s _ rfl).trans h1, (s _ rfl).trans h2, (s _ rfl).trans h3, (s _ rfl).trans h4, h5⟩
theorem GKp.fr {M M' : Mm} (s : Sm fKp M M') (h : GKp M) : GKp M' := by
  obtain ⟨f, h1, h2, h3⟩ := h
  exact ⟨f, (s _ rfl).trans h1, (s _ rfl).trans h2, h3⟩
theorem GKi.fr {kn : Nat} {M M' : Mm} (s : Sm fKi M M') (h : GKi kn M) : GKi kn M' := by
  obtain ⟨h0, h7, w, st, l, o, hh, h1, h2, h3, h4, h5, g1, g2, g3, g4, g5, h6⟩ := h
  exact ⟨h0, (s _ rfl).trans h7, w, st, l, o, hh, (s _ rfl).trans h1, (s _ rfl).trans h2, (s _ rfl).trans h3, (s _ rfl).trans h4, (s _ rfl).trans h5, (s _ rfl).trans g1, (s _ rfl).trans g2, (s _ rfl).trans g3, (s _ rfl).trans g4, (s _ rfl).trans g5, h6⟩
theorem GFe.fr {fe : Nat} {M M' : Mm} (s : Sm fFe M M') (h : GFe fe M) : GFe fe M' := by
  obtain ⟨h0, h1, f, t, h2, h3, h4, h5⟩ := h
  exact ⟨h0, (s _ rfl).trans h1, f, t, (s _ rfl).trans h2, (s _ rfl).trans h3, (s _ rfl).trans h4, (s _ rfl).trans h5⟩
theorem LA_in {h : Nat} (hh : h < 16) : fCl (LA h) = true := by
  have : ∀ h, h < 16 → fCl (LA h) = true := by decide
  exact this h hh
theorem CRow.fr {M M' : Mm} {s : SN} {r : Nat} (hm : M.1 ≤ M'.1) (f : Sm fCl M M') (h : CRow M s r) : CRow M' s r := by
  obtain ⟨h1, h2, h3, h4, cr, h5, h6⟩ := h
  have big : ∀ b, 97 ≤ b → M'.2.2 b = M.2.2 b := fun b hb => f b (by simp [fCl, hb])
  exact ⟨h1, by omega, (big _ h1).trans h3, h4, cr, (big _ (by omega)).trans h5, h6⟩
theorem CLay.fr {M M' : Mm} {s : SN} {l : Nat} (hm : M.1 ≤ M'.1) (f : Sm fCl M M') (h : CLay M s l) : CLay M' s l := by
  obtain ⟨h1, h2, h3, gl, h5, h6⟩ := h
  have big : ∀ b, 97 ≤ b → M'.2.2 b = M.2.2 b := fun b hb => f b (by simp [fCl, hb])
  exact ⟨h1, by omega, (big _ h1).trans h3, gl, (big _ (by omega)).trans h5, fun x hx => ⟨(h6 x hx).1, fun r hr => ((h6 x hx).2 r hr).fr hm f⟩⟩
theorem CRep.fr {M M' : Mm} {s : SN} {nl nr : Nat} (hm : M.1 ≤ M'.1) (f : Sm fCl M M') (h : CRep M s nl nr) : CRep M' s nl nr := by
  obtain ⟨h1, h2, h3, h4⟩ := h
  refine ⟨fun h hh => ?_, fun k l hk hl => (h2 k l hk hl).fr hm f, (f 6 rfl).trans h3, h4⟩
  obtain ⟨fl, g1, g2⟩ := h1 h hh
  exact ⟨fl, (f _ (LA_in hh)).trans g1, g2⟩
theorem RRep.fr {M M' : Mm} {s : SN} (f : Sm fRl M M') (h : RRep M s) : RRep M' s := by
  obtain ⟨⟨hd, a1, a2⟩, ⟨rw, b1, b2⟩, ⟨ln, c1, c2⟩, ⟨ck, ct, d1, d2, d3⟩, e⟩ := h
  exact ⟨⟨hd, (f _ rfl).trans a1, a2⟩, ⟨rw, (f _ rfl).trans b1, b2⟩, ⟨ln, (f _ rfl).trans c1, c2⟩, ⟨ck, ct, (f _ rfl).trans d1, (f _ rfl).trans d2, d3⟩, e⟩
theorem GLy.fr {nl nr : Nat} {ab : AB} {M M' : Mm} (hm : M.1 ≤ M'.1) (f : Sm fCl M M') (g : Sm fRl M M') (h : GLy nl nr ab M) : GLy nl nr ab M' := by
  obtain ⟨sc, sr, h1, h2, h3, h4⟩ := h
  exact ⟨sc, sr, h1.fr hm f, h2.fr g, h3, h4⟩
/-- a write of one cell outside the group -/
theorem sm_set {f : Nat → Bool} {M : Mm} {a : Nat} {c : MC} (h : f a = false) : Sm f M (setC M a c) := fun b hb => get_ne (fun e => by rw [e, h] at hb; cases hb)
/-- the reference's object written, its fields that count the same -/
theorem Inv.obj {L : Nat} {xs : Nat → Int32} {n : Nat} {M : Mm} (h : Inv L xs n M) : ∃ kn nl nr fe th pm bm, M.2.2 69 = .inr (11, fsRv th kn nl nr pm fe bm) ∧ ∀ th' pm' bm', Inv L xs n (setC M 69 (.inr (11, fsRv th' kn nl nr pm' fe bm'))) := by
  obtain ⟨a1, a2, a3, a4, kn, nl, nr, fe, ab, b1, b2, ⟨th, pm, bm, b3⟩, b4, b5, b6, b7⟩ := h
  exact ⟨kn, nl, nr, fe, th, pm, bm, b3, fun th' pm' bm' => ⟨a1.fr (sm_set rfl), a2.fr (sm_set rfl), a3.fr (sm_set rfl), a4.fr (sm_set rfl), kn, nl, nr, fe, ab, b1.fr (sm_set rfl), b2.fr (sm_set rfl), ⟨th', pm', bm', get_at⟩, GLy.fr (M := M) (Nat.le_refl M.1) (sm_set rfl) (sm_set rfl) b4, b5, b6, b7⟩⟩
