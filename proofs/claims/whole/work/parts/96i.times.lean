/-! product, the reference's side -/
def mtk (r t s : Int32) : Nat → Bool
  | 0 => true
  | j + 1 => (mtk r t s j && oEq (axF r (nI j)) (axF t (axF s (nI j)))) && oEq (sgF r (nI j)) (sgF s (nI j) * sgF t (axF s (nI j)))
theorem mt_all : ∀ t, t < 24 → ∀ s, s < 24 → ∃ a, a < 24 ∧ aft (nI t) (nI s) = nI a ∧ mtk (nI a) (nI t) (nI s) 3 = true ∧ ∀ r, r < a → mtk (nI r) (nI t) (nI s) 3 = false := by
  have h : ∀ t, t < 24 → ∀ s, s < 24 → (aft (nI t) (nI s)).toNatClampNeg < 24 ∧ aft (nI t) (nI s) = nI (aft (nI t) (nI s)).toNatClampNeg ∧ mtk (nI (aft (nI t) (nI s)).toNatClampNeg) (nI t) (nI s) 3 = true ∧ ∀ r, r < 24 → r < (aft (nI t) (nI s)).toNatClampNeg → mtk (nI r) (nI t) (nI s) 3 = false := by decide +kernel
  intro t ht s hs
  obtain ⟨h1, h2, h3, h4⟩ := h t ht s hs
  exact ⟨_, h1, h2, h3, fun r hr => h4 r (by omega) hr⟩
