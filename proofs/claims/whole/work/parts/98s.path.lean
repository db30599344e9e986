/-! path: the search, with no cells of memory -/
def stand (g : Nat → Int32) (c : Nat) : Bool := oEq (g c) 0 && (decide (c < 100) || blk g (c - 100))
def blkX (g : Nat → Int32) (c : Nat) : Bool := decide (c < 1000) && blk g c
def cand (g : Nat → Int32) (c s e : Nat) : Prop := e = s ∨ (e = s + 100 ∧ blkX g (c + 100) = false) ∨ (e + 100 = s ∧ blk g s = false)
def wlk (g : Nat → Int32) (c e : Nat) : Prop := e < 1000 ∧ stand g e = true ∧ ∃ d s, 2 ≤ d ∧ d < 6 ∧ nbO c d = some s ∧ cand g c s e
def rch (g : Nat → Int32) (f : Nat) : Nat → Nat → Prop
  | 0, c => c = f
  | n + 1, c => ∃ e, rch g f n e ∧ wlk g e c
def lst (g : Nat → Int32) (f t n : Nat) : Prop := rch g f n t ∧ ∀ m, m < n → ¬ rch g f m t
noncomputable def sdV (g : Nat → Int32) (f t : Nat) : Int32 := @dite _ (∃ n, lst g f t n) (Classical.propDecidable _) (fun h => nI (Classical.choose h)) (fun _ => -1)
theorem sdV_some {g : Nat → Int32} {f t n : Nat} (h : lst g f t n) : sdV g f t = nI n := by
  unfold sdV
  have hx : ∃ n, lst g f t n := ⟨n, h⟩
  rw [dif_pos hx]
  have h2 := Classical.choose_spec hx
  have e : Classical.choose hx = n := by
    rcases Nat.lt_trichotomy (Classical.choose hx) n with q | q | q
    · exact absurd h2.1 (h.2 _ q)
    · exact q
    · exact absurd h.1 (h2.2 _ q)
  rw [e]
theorem sdV_none {g : Nat → Int32} {f t : Nat} (h : ∀ n, ¬ rch g f n t) : sdV g f t = -1 := by
  unfold sdV
  rw [dif_neg fun ⟨n, hn⟩ => h n hn.1]
/-- the search: what is known of it while the i-th of the queue is left; T: the neighbours looked at -/
def BI (g : Nat → Int32) (f i : Nat) (ds : Nat → Option Nat) (qs : List Nat) (T : Nat → Prop) : Prop :=
  (∀ c k, ds c = some k → c < 1000 ∧ rch g f k c) ∧ (ds f = some 0) ∧ (qs.length = cn 1000 fun c => (ds c).isSome) ∧ (∀ j, j < qs.length → ∃ k, ds (qs.getD j 0) = some k ∧ k ≤ j) ∧
  (∀ c k, ds c = some k → ∃ j, j < qs.length ∧ qs.getD j 0 = c) ∧ (∀ j j' k k', j ≤ j' → j' < qs.length → ds (qs.getD j 0) = some k → ds (qs.getD j' 0) = some k' → k ≤ k') ∧
  (i < qs.length → ∀ k, ds (qs.getD i 0) = some k → ∀ c k', ds c = some k' → k' ≤ k + 1) ∧ (∀ j, j < i → j < qs.length → ∀ e k, ds (qs.getD j 0) = some k → wlk g (qs.getD j 0) e → ∃ k', ds e = some k' ∧ k' ≤ k + 1) ∧
  (∀ e, T e → wlk g (qs.getD i 0) e → ∃ k', ds e = some k')
section BA
variable {g : Nat → Int32} {f i : Nat} {ds : Nat → Option Nat} {qs : List Nat} {T : Nat → Prop}
theorem BI.a (h : BI g f i ds qs T) : ∀ c k, ds c = some k → c < 1000 ∧ rch g f k c := h.1
theorem BI.b (h : BI g f i ds qs T) : ds f = some 0 := h.2.1
theorem BI.c (h : BI g f i ds qs T) : qs.length = cn 1000 fun c => (ds c).isSome := h.2.2.1
theorem BI.c2 (h : BI g f i ds qs T) : ∀ j, j < qs.length → ∃ k, ds (qs.getD j 0) = some k ∧ k ≤ j := h.2.2.2.1
theorem BI.d (h : BI g f i ds qs T) : ∀ c k, ds c = some k → ∃ j, j < qs.length ∧ qs.getD j 0 = c := h.2.2.2.2.1
theorem BI.e (h : BI g f i ds qs T) : ∀ j j' k k', j ≤ j' → j' < qs.length → ds (qs.getD j 0) = some k → ds (qs.getD j' 0) = some k' → k ≤ k' := h.2.2.2.2.2.1
theorem BI.f' (h : BI g f i ds qs T) : i < qs.length → ∀ k, ds (qs.getD i 0) = some k → ∀ c k', ds c = some k' → k' ≤ k + 1 := h.2.2.2.2.2.2.1
theorem BI.g' (h : BI g f i ds qs T) : ∀ j, j < i → j < qs.length → ∀ e k, ds (qs.getD j 0) = some k → wlk g (qs.getD j 0) e → ∃ k', ds e = some k' ∧ k' ≤ k + 1 := h.2.2.2.2.2.2.2.1
theorem BI.h (h : BI g f i ds qs T) : ∀ e, T e → wlk g (qs.getD i 0) e → ∃ k', ds e = some k' := h.2.2.2.2.2.2.2.2
end BA
def dsU (ds : Nat → Option Nat) (c k : Nat) : Nat → Option Nat := fun x => if x = c then some k else ds x
theorem getD_app1 {l : List Nat} {x j : Nat} (h : j < l.length) : (l ++ [x]).getD j 0 = l.getD j 0 := by
  rw [List.getD_eq_getElem?_getD, List.getD_eq_getElem?_getD, List.getElem?_append_left h]
theorem getD_app2 {l : List Nat} {x : Nat} : (l ++ [x]).getD l.length 0 = x := by
  rw [List.getD_eq_getElem?_getD, List.getElem?_append_right (Nat.le_refl _), Nat.sub_self]
  rfl
section BF
variable {g : Nat → Int32} {f i : Nat} {ds : Nat → Option Nat} {qs : List Nat} {T : Nat → Prop}
theorem BI.len (h : BI g f i ds qs T) : qs.length ≤ 1000 := by rw [h.c]; exact cn_le _ _
theorem BI.room (h : BI g f i ds qs T) {c : Nat} (hc : c < 1000) (hn : ds c = none) : qs.length < 1000 := by
  have h1 := cn_at (n := 1000) (k := c) (p := fun c => (ds c).isSome) (q := fun x => (ds x).isSome || decide (x = c)) hc fun j _ hj => by
    show (ds j).isSome = ((ds j).isSome || decide (j = c))
    rw [decide_eq_false hj, Bool.or_false]
  have h2 := cn_le 1000 fun x => (ds x).isSome || decide (x = c)
  have e1 : ((ds c).isSome || decide (c = c)) = true := by show ((ds c).isSome || decide (c = c)) = true; rw [decide_eq_true rfl, Bool.or_true]
  have e2 : (ds c).isSome = false := by show (ds c).isSome = false; rw [hn]; rfl
  rw [e1, e2, if_pos rfl, if_neg (by decide), Nat.add_zero] at h1
  rw [h.c]
  omega
theorem BI.start (hf : f < 1000) : BI g f 0 (dsU (fun _ => none) f 0) [f] fun _ => False := by
  have e1 : ∀ c k, dsU (fun _ => none) f 0 c = some k → c = f ∧ k = 0 := fun c k q => by
    unfold dsU at q
    split at q
    · rename_i e; cases q; exact ⟨e, rfl⟩
    · cases q
  have e0 : dsU (fun _ => none) f 0 f = some 0 := if_pos rfl
  have g0 : ∀ j, j < [f].length → [f].getD j 0 = f := fun j hj => by
    have : j = 0 := by have : j < 1 := hj; omega
    rw [this]; rfl
  refine ⟨fun c k q => ?_, e0, ?_, fun j hj => ?_, fun c k q => ?_, fun j j' k k' h1 h2 q1 q2 => ?_, fun h k q c k' q2 => ?_, fun j hj => absurd hj (Nat.not_lt_zero j), fun e he => he.elim⟩
  · obtain ⟨rfl, rfl⟩ := e1 c k q
    exact ⟨hf, rfl⟩
  · have h1 := cn_at (n := 1000) (k := f) (p := fun _ => false) (q := fun x => (dsU (fun _ => none) f 0 x).isSome) hf fun j _ hj => by
      show false = (dsU (fun _ => none) f 0 j).isSome
      unfold dsU
      rw [if_neg hj]; rfl
    have h2 : cn 1000 (fun _ => false) = 0 := cn_none fun _ _ => rfl
    rw [h2] at h1
    have e2 : (dsU (fun _ => none) f 0 f).isSome = true := by show (dsU (fun _ => none) f 0 f).isSome = true; rw [e0]; rfl
    rw [e2, if_pos rfl, if_neg (by decide), Nat.add_zero] at h1
    rw [Nat.add_zero] at h1
    rw [← h1]
    rfl
  · rw [g0 j hj]
    exact ⟨0, e0, Nat.zero_le _⟩
  · exact ⟨0, Nat.zero_lt_one, (e1 c k q).1.symm⟩
  · rw [(e1 _ _ q1).2]; exact Nat.zero_le _
  · rw [(e1 _ _ q2).2]; exact Nat.zero_le _
theorem BI.mono (h : BI g f i ds qs T) {T' : Nat → Prop} (hT : ∀ e, T' e → T e ∨ ¬ wlk g (qs.getD i 0) e ∨ ∃ k, ds e = some k) : BI g f i ds qs T' := ⟨h.a, h.b, h.c, h.c2, h.d, h.e, h.f', h.g', fun e he hs => by
  rcases hT e he with q | q | q
  · exact h.h e q hs
  · exact absurd hs q
  · exact q⟩
theorem BI.next (h : BI g f i ds qs T) (hi : i < qs.length) (hT : ∀ e, wlk g (qs.getD i 0) e → T e) : BI g f (i + 1) ds qs fun _ => False := by
  refine ⟨h.a, h.b, h.c, h.c2, h.d, h.e, fun hi2 k q c k' q2 => ?_, fun j hj hl e k q hs => ?_, fun e he => he.elim⟩
  · obtain ⟨k0, e0, -⟩ := h.c2 i hi
    have h1 := h.f' hi k0 e0 c k' q2
    have h2 := h.e i (i + 1) k0 k (by omega) hi2 e0 q
    omega
  · by_cases e1 : j < i
    · exact h.g' j e1 hl e k q hs
    · have e2 : j = i := by omega
      subst e2
      obtain ⟨k', q'⟩ := h.h e (hT e hs) hs
      exact ⟨k', q', h.f' hi k q e k' q'⟩
theorem BI.reach (h : BI g f i ds qs T) (hi : i < qs.length) {k c : Nat} (hk : ds (qs.getD i 0) = some k) (hs : wlk g (qs.getD i 0) c) (hn : ds c = none) : BI g f i (dsU ds c (k + 1)) (qs ++ [c]) fun e => T e ∨ e = c := by
  have hlen : (qs ++ [c]).length = qs.length + 1 := by rw [List.length_append]; rfl
  have hnc : ∀ j, j < qs.length → qs.getD j 0 ≠ c := fun j hj q => by
    obtain ⟨k, q1, -⟩ := h.c2 j hj
    rw [q, hn] at q1
    cases q1
  have dj : ∀ j, j < qs.length → dsU ds c (k + 1) ((qs ++ [c]).getD j 0) = ds (qs.getD j 0) := fun j hj => by
    rw [getD_app1 hj]
    exact if_neg (hnc j hj)
  have dl : dsU ds c (k + 1) ((qs ++ [c]).getD qs.length 0) = some (k + 1) := by
    rw [getD_app2]
    exact if_pos rfl
  have du : ∀ x k', ds x = some k' → dsU ds c (k + 1) x = some k' := fun x k' q => by
    unfold dsU
    rw [if_neg fun e => by rw [e, hn] at q; cases q]
    exact q
  have dv : ∀ x k', dsU ds c (k + 1) x = some k' → (x = c ∧ k' = k + 1) ∨ ds x = some k' := fun x k' q => by
    unfold dsU at q
    split at q
    · rename_i e; cases q; exact Or.inl ⟨e, rfl⟩
    · exact Or.inr q
  obtain ⟨k0, e0, hki⟩ := h.c2 i hi
  have hkk : k0 = k := by rw [hk] at e0; cases e0; rfl
  subst hkk
  refine ⟨fun x k' q => ?_, du _ _ h.b, ?_, fun j hj => ?_, fun x k' q => ?_, fun j j' k1 k2 h1 h2 q1 q2 => ?_, fun _ k' q x k2 q2 => ?_, fun j hj hl e k1 q he => ?_, fun e he hst => ?_⟩
  · rcases dv x k' q with ⟨rfl, rfl⟩ | q
    · exact ⟨hs.1, _, (h.a _ _ hk).2, hs⟩
    · exact h.a x k' q
  · rw [hlen, h.c]
    have h1 := cn_at (n := 1000) (k := c) (p := fun c => (ds c).isSome) (q := fun x => (dsU ds c (k0 + 1) x).isSome) hs.1 fun j _ hj => by
      show (ds j).isSome = (dsU ds c (k0 + 1) j).isSome
      unfold dsU
      rw [if_neg hj]
    have e1 : (dsU ds c (k0 + 1) c).isSome = true := by show (dsU ds c (k0 + 1) c).isSome = true; unfold dsU; rw [if_pos rfl]; rfl
    have e2 : (ds c).isSome = false := by show (ds c).isSome = false; rw [hn]; rfl
    rw [e1, e2, if_pos rfl, if_neg (by decide), Nat.add_zero] at h1
    omega
  · by_cases q : j < qs.length
    · rw [dj j q]; exact h.c2 j q
    · rw [show j = qs.length by omega, dl]; exact ⟨_, rfl, by omega⟩
  · rcases dv x k' q with ⟨rfl, rfl⟩ | q
    · exact ⟨qs.length, by omega, getD_app2⟩
    · obtain ⟨j, j1, j2⟩ := h.d x k' q
      exact ⟨j, by omega, (getD_app1 j1).trans j2⟩
  · by_cases p1 : j < qs.length
    · rw [dj j p1] at q1
      by_cases p2 : j' < qs.length
      · rw [dj j' p2] at q2
        exact h.e j j' k1 k2 h1 p2 q1 q2
      · rw [show j' = qs.length by omega, dl] at q2
        cases q2
        exact h.f' hi k0 hk _ _ q1
    · rw [show j = qs.length by omega, dl] at q1
      rw [show j' = qs.length by omega, dl] at q2
      cases q1; cases q2
      exact Nat.le_refl _
  · rw [dj i hi, hk] at q
    cases q
    rcases dv x k2 q2 with ⟨rfl, rfl⟩ | q2
    · exact Nat.le_refl _
    · exact h.f' hi k0 hk x k2 q2
  · have hl2 : j < qs.length := by omega
    rw [dj j hl2] at q
    rw [getD_app1 hl2] at he
    obtain ⟨k', q1, q2⟩ := h.g' j hj hl2 e k1 q he
    exact ⟨k', du _ _ q1, q2⟩
  · rw [getD_app1 hi] at hst
    rcases he with he | rfl
    · obtain ⟨k', q⟩ := h.h e he hst
      exact ⟨k', du _ _ q⟩
    · exact ⟨k0 + 1, if_pos rfl⟩
/-- what is nearer than the cell that is left has been found -/
theorem BI.near (h : BI g f i ds qs T) {n c : Nat} (hr : rch g f n c) (hn : i < qs.length → ∀ k, ds (qs.getD i 0) = some k → n ≤ k) : ∃ k, ds c = some k ∧ k ≤ n := by
  induction n generalizing c with
  | zero =>
    have e : c = f := hr
    rw [e]
    exact ⟨0, h.b, Nat.le_refl _⟩
  | succ n ih =>
    obtain ⟨e, h1, h2⟩ := hr
    obtain ⟨k, q1, q2⟩ := ih h1 fun hi k q => by have := hn hi k q; omega
    obtain ⟨j, j1, j2⟩ := h.d e k q1
    have hj : j < i := by
      refine Classical.byContradiction fun q => ?_
      have hi : i < qs.length := by omega
      obtain ⟨ki, qi, -⟩ := h.c2 i hi
      have := hn hi ki qi
      have := h.e i j ki k (by omega) j1 qi (by rw [j2]; exact q1)
      omega
    obtain ⟨k', q3, q4⟩ := h.g' j hj j1 c k (by rw [j2]; exact q1) (by rw [j2]; exact h2)
    exact ⟨k', q3, by omega⟩
theorem BI.found (h : BI g f i ds qs T) {t k : Nat} (hk : ds t = some k) : sdV g f t = nI k := by
  refine sdV_some ⟨(h.a t k hk).2, fun m hm hr => ?_⟩
  obtain ⟨k', q1, q2⟩ := h.near hr fun hi ki qi => by have := h.f' hi ki qi t k hk; omega
  rw [hk] at q1
  cases q1
  omega
theorem BI.lost (h : BI g f i ds qs T) (hi : qs.length ≤ i) {t : Nat} (hk : ds t = none) : sdV g f t = -1 := sdV_none fun n hr => by
  obtain ⟨k, q, -⟩ := h.near hr fun hi2 => absurd hi2 (by omega)
  rw [hk] at q
  cases q
end BF
