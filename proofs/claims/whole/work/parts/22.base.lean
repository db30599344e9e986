/-! rules for new, for counted loops; what a cell holds after a write; the same but for some cells -/
section WPN
variable {L : Lv} {M : Mm}
theorem wA_newO {ci N : Nat} {fs : List Value} {f : FN} {ar : DR} {Q : Option Nat → Mm → Prop} (h : wR ar L (newC M N (.inr (ci, fs))) fun vs M1 => wF f (.ref M.1 :: vs) M1 fun v M2 => v = none ∧ Q (some M.1) M2) : wA (newO ci N fs f ar) L M Q := by
  obtain ⟨vs, M1, h1, v, M2, h2, rfl, h3⟩ := h
  exact ⟨_, _, by simp only [newO, h1, h2, Option.bind_some], h3⟩
theorem wA_newI {t : Nat} {e : DI} {Q : Option Nat → Mm → Prop} (h : wI e L M fun n M1 => (0 ≤ n.toInt ∧ n.toInt ≤ 100000) ∧ Q (some M1.1) (newC M1 n.toNatClampNeg (.inl (t, n.toNatClampNeg, .inl fun _ => 0)))) : wA (newI t e) L M Q := by
  obtain ⟨n, M1, h1, h2, h3⟩ := h
  exact ⟨_, _, by simp only [newI, h1, Option.bind_some]; rw [if_pos h2], h3⟩
theorem wA_newJ {e : DI} {Q : Option Nat → Mm → Prop} (h : wI e L M fun n M1 => (0 ≤ n.toInt ∧ n.toInt ≤ 100000) ∧ Q (some M1.1) (newC M1 n.toNatClampNeg (.inl (2, n.toNatClampNeg, .inr (.inl fun _ => 0))))) : wA (newJ e) L M Q := by
  obtain ⟨n, M1, h1, h2, h3⟩ := h
  exact ⟨_, _, by simp only [newJ, h1, Option.bind_some]; rw [if_pos h2], h3⟩
theorem wA_newA {t : Nat} {e : DI} {Q : Option Nat → Mm → Prop} (h : wI e L M fun n M1 => (0 ≤ n.toInt ∧ n.toInt ≤ 100000) ∧ Q (some M1.1) (newC M1 n.toNatClampNeg (.inl (t, n.toNatClampNeg, .inr (.inr (.inr (.inr fun _ => none))))))) : wA (newA t e) L M Q := by
  obtain ⟨n, M1, h1, h2, h3⟩ := h
  exact ⟨_, _, by simp only [newA, h1, Option.bind_some]; rw [if_pos h2], h3⟩
theorem wA_litE {e : DA} {i v : DI} {Q : Option Nat → Mm → Prop} (h : wA e L M fun r M1 => ∃ a, r = some a ∧ wI i L M1 fun j M2 => wI v L M2 fun x M3 => ∃ M4, wrI 0 a j x M3 = some M4 ∧ Q (some a) M4) : wA (litE e i v) L M Q := by
  obtain ⟨r, M1, h1, a, rfl, j, M2, h2, x, M3, h3, M4, h4, h5⟩ := h
  exact ⟨_, _, by simp only [litE, h1, h2, h3, h4, Option.bind_some, Option.map_some], h5⟩
theorem wA_cloI {e : DA} {Q : Option Nat → Mm → Prop} (h : wA e L M fun r M1 => ∃ a n f, r = some a ∧ M1.2.2 a = .inl (0, n, .inl f) ∧ 5 ≤ a ∧ Q (some M1.1) (newC M1 n (.inl (0, n, .inl f)))) : wA (cloI e) L M Q := by
  obtain ⟨r, M1, h1, a, n, f, rfl, h2, h3, h4⟩ := h
  exact ⟨_, _, by simp only [cloI, h1, h2, Option.bind_some]; rw [if_pos h3], h4⟩
/-- a loop that counts i from j up to N -/
theorem wS_for {i : Nat} {n : Int32} {b : DS} {Q : Lv → Mm → Nat → Option Value → Prop} (N : Nat) (hn : n = nI N) (hN : N < big) (J : Nat → Lv → Mm → Prop) (hi : ∀ j L M, J j L M → lkp L i = some (.int (nI j)))
    (hb : ∀ j L M, j < N → J j L M → wS b L M fun L2 M2 k v => (k = 1 → Q L2 M2 0 none) ∧ (k = 3 → Q L2 M2 3 v) ∧ (¬ k = 1 → ¬ k = 3 → lkp L2 i = some (.int (nI j)) ∧ J (j + 1) (stL i (.int (nI (j + 1))) L2) M2))
    (he : ∀ L M, J N L M → Q L M 0 none) {j : Nat} (hj : j ≤ N) (h0 : J j L M) : wS (whS (kI oLt (lI i) (cI n)) b (incI i 1)) L M Q := by
  subst hn
  have hb31 : N < 2 ^ 31 := by have : big < 2 ^ 31 := by decide
                               omega
  refine wS_wh (I := fun m L M => ∃ j, m + j = N ∧ J j L M) ?_ (N - j) L M ⟨j, by omega, h0⟩ (by omega)
  rintro m L M ⟨j, hm, hJ⟩
  refine wC_kI (wI_lI (hi _ _ _ hJ) rfl (wI_cI ⟨fun hr => ?_, fun hr => ?_⟩))
  · have hr : ¬ nI j < nI N := by simpa [oLt] using hr
    have e : j = N := by
      by_cases e : j = N
      · exact e
      · exact absurd (nI_lt (by omega) hb31) hr
    subst e
    exact he _ _ hJ
  · have hr : nI j < nI N := by simpa [oLt] using hr
    have hl : j < N := by
      by_cases e : j < N
      · exact e
      · exact absurd hr (nI_nlt (by omega) (by omega))
    refine (hb j L M hl hJ).mono ?_
    rintro L2 M2 k v ⟨h1, h2, h3⟩
    refine ⟨h1, h2, fun k1 k3 => ?_⟩
    obtain ⟨g1, g2⟩ := h3 k1 k3
    refine wS_inc g1 rfl ⟨rfl, m - 1, by omega, j + 1, by omega, ?_⟩
    rw [← nI_succ]
    exact g2
end WPN
theorem get_set {M : Mm} {a b : Nat} {c : MC} : (setC M a c).2.2 b = if b = a then c else M.2.2 b := rfl
theorem get_new {M : Mm} {k b : Nat} {c : MC} : (newC M k c).2.2 b = if b = M.1 then c else M.2.2 b := rfl
theorem set_1 {M : Mm} {a : Nat} {c : MC} : (setC M a c).1 = M.1 := rfl
theorem set_2 {M : Mm} {a : Nat} {c : MC} : (setC M a c).2.1 = M.2.1 := rfl
theorem new_1 {M : Mm} {k : Nat} {c : MC} : (newC M k c).1 = M.1 + 1 := rfl
theorem new_2 {M : Mm} {k : Nat} {c : MC} : (newC M k c).2.1 = M.2.1 + k := rfl
theorem set_set {M : Mm} {a : Nat} {c d : MC} : setC (setC M a c) a d = setC M a d := by
  unfold setC
  congr 2
  funext b
  by_cases e : b = a <;> simp [e]
theorem get_at {M : Mm} {a : Nat} {c : MC} : (setC M a c).2.2 a = c := if_pos rfl
theorem get_ne {M : Mm} {a b : Nat} {c : MC} (h : b ≠ a) : (setC M a c).2.2 b = M.2.2 b := if_neg h
theorem new_at {M : Mm} {k : Nat} {c : MC} : (newC M k c).2.2 M.1 = c := if_pos rfl
theorem new_ne {M : Mm} {k b : Nat} {c : MC} (h : b ≠ M.1) : (newC M k c).2.2 b = M.2.2 b := if_neg h
/-- M' is M but for the cells in S, and nothing was made -/
def But (S : List Nat) (M M' : Mm) : Prop := M'.1 = M.1 ∧ M'.2.1 = M.2.1 ∧ ∀ b, b ∉ S → M'.2.2 b = M.2.2 b
theorem But.rf {S : List Nat} {M : Mm} : But S M M := ⟨rfl, rfl, fun _ _ => rfl⟩
theorem But.tr {S : List Nat} {M M1 M2 : Mm} (h : But S M M1) (g : But S M1 M2) : But S M M2 := ⟨g.1.trans h.1, g.2.1.trans h.2.1, fun b hb => (g.2.2 b hb).trans (h.2.2 b hb)⟩
theorem But.set {S : List Nat} {M M1 : Mm} {a : Nat} {c : MC} (h : But S M M1) (ha : a ∈ S) : But S M (setC M1 a c) := ⟨h.1, h.2.1, fun b hb => (get_ne (fun e => hb (by rw [e]; exact ha))).trans (h.2.2 b hb)⟩
theorem But.mono {S T : List Nat} {M M1 : Mm} (h : But S M M1) (hs : ∀ x ∈ S, x ∈ T) : But T M M1 := ⟨h.1, h.2.1, fun b hb => h.2.2 b (fun e => hb (hs b e))⟩
