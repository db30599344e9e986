/-! parts: with no cells of memory -/
def lnk (g : Nat → Int32) (c e : Nat) : Prop := adj c e ∧ blk g c = true ∧ blk g e = true
def cnx (g : Nat → Int32) : Nat → Nat → Nat → Prop
  | 0, c, e => e = c
  | n + 1, c, e => ∃ x, cnx g n c x ∧ lnk g x e
def con (g : Nat → Int32) (c e : Nat) : Prop := ∃ n, cnx g n c e
def lead (g : Nat → Int32) (c : Nat) : Prop := c < 1000 ∧ blk g c = true ∧ ∀ e, con g c e → c ≤ e
noncomputable def ldB (g : Nat → Int32) (c : Nat) : Bool := @decide (lead g c) (Classical.propDecidable _)
section CN
variable {g : Nat → Int32}
theorem lnk_sym {c e : Nat} (h : lnk g c e) : lnk g e c := ⟨adj_sym h.1, h.2.2, h.2.1⟩
theorem con_rf (c : Nat) : con g c c := ⟨0, rfl⟩
theorem con_snoc {c x e : Nat} (h : con g c x) (hl : lnk g x e) : con g c e := by
  obtain ⟨n, hn⟩ := h
  exact ⟨n + 1, x, hn, hl⟩
theorem con_tr {c x e : Nat} (h : con g c x) (h2 : con g x e) : con g c e := by
  obtain ⟨n, hn⟩ := h2
  induction n generalizing e with
  | zero => have q : e = x := hn; rw [q]; exact h
  | succ n ih =>
    obtain ⟨y, h3, h4⟩ := hn
    exact con_snoc (ih h3) h4
theorem con_sym {c e : Nat} (h : con g c e) : con g e c := by
  obtain ⟨n, hn⟩ := h
  induction n generalizing e with
  | zero => have q : e = c := hn; rw [q]; exact con_rf c
  | succ n ih =>
    obtain ⟨y, h3, h4⟩ := hn
    exact con_tr (con_snoc (con_rf e) (lnk_sym h4)) (ih h3)
theorem con_in {c e : Nat} (h : con g c e) (hc : c < 1000) (hb : blk g c = true) : e < 1000 ∧ blk g e = true := by
  obtain ⟨n, hn⟩ := h
  induction n generalizing e with
  | zero => have q : e = c := hn; rw [q]; exact ⟨hc, hb⟩
  | succ n ih =>
    obtain ⟨y, h3, h4⟩ := hn
    exact ⟨h4.1.2.1, h4.2.2⟩
theorem least {P : Nat → Prop} : ∀ n, P n → ∃ m, P m ∧ ∀ k, P k → m ≤ k := by
  intro n
  induction n using Nat.strongRecOn with
  | _ n ih =>
    intro h
    by_cases q : ∃ k, P k ∧ k < n
    · obtain ⟨k, h1, h2⟩ := q
      exact ih k h2 h1
    · exact ⟨n, h, fun k hk => Classical.byContradiction fun q2 => q ⟨k, hk, by omega⟩⟩
theorem lead_ex {c : Nat} (hc : c < 1000) (hb : blk g c = true) : ∃ f, lead g f ∧ con g f c ∧ f ≤ c := by
  obtain ⟨m, h1, h2⟩ := least (P := fun e => con g c e) c (con_rf c)
  obtain ⟨h3, h4⟩ := con_in h1 hc hb
  exact ⟨m, ⟨h3, h4, fun e he => h2 e (con_tr h1 he)⟩, con_sym h1, h2 c (con_rf c)⟩
theorem lead_un {c f f' : Nat} (h : lead g f) (h' : lead g f') (hc : con g f c) (hc' : con g f' c) : f = f' := by
  have h1 := h.2.2 f' (con_tr hc (con_sym hc'))
  have h2 := h'.2.2 f (con_tr hc' (con_sym hc))
  omega
theorem ldB_iff {c : Nat} : ldB g c = true ↔ lead g c := @decide_eq_true_iff _ (Classical.propDecidable _)
/-- the labels when the cells before p have been met -/
def LB (g : Nat → Int32) (p : Nat) (lb : Nat → Option Nat) : Prop := ∀ c, c < 1000 → ∀ k, lb c = some k ↔ ∃ f, lead g f ∧ f < p ∧ con g f c ∧ k = cn f (ldB g)
theorem LB.zero : LB g 0 fun _ => none := fun c _ k => ⟨fun h => (by cases h), fun ⟨f, _, h, _⟩ => absurd h (Nat.not_lt_zero f)⟩
theorem LB.un {p : Nat} {lb lb' : Nat → Option Nat} (h : LB g p lb) (h' : LB g p lb') {c : Nat} (hc : c < 1000) : lb c = lb' c := by
  cases q : lb c with
  | some k => exact ((h' c hc k).mpr ((h c hc k).mp q)).symm
  | none =>
    cases q2 : lb' c with
    | none => rfl
    | some k =>
      have := (h c hc k).mpr ((h' c hc k).mp q2)
      rw [q] at this
      cases this
theorem LB.isb {p c k : Nat} {lb : Nat → Option Nat} (h : LB g p lb) (hc : c < 1000) (hk : lb c = some k) : blk g c = true := by
  obtain ⟨f, h1, -, h3, -⟩ := (h c hc k).mp hk
  exact (con_in h3 h1.1 h1.2.1).2
theorem LB.skip {p : Nat} {lb : Nat → Option Nat} (h : LB g p lb) (hp : ¬ lead g p) : LB g (p + 1) lb := fun c hc k => by
  rw [h c hc k]
  constructor
  · rintro ⟨f, h1, h2, h3⟩
    exact ⟨f, h1, by omega, h3⟩
  · rintro ⟨f, h1, h2, h3⟩
    by_cases q : f = p
    · rw [q] at h1; exact absurd h1 hp
    · exact ⟨f, h1, by omega, h3⟩
theorem LB.ld {p : Nat} {lb : Nat → Option Nat} (h : LB g p lb) (hp : p < 1000) : lead g p ↔ blk g p = true ∧ lb p = none := by
  constructor
  · intro hl
    refine ⟨hl.2.1, ?_⟩
    cases q : lb p with
    | none => rfl
    | some k =>
      obtain ⟨f, h1, h2, h3, -⟩ := (h p hp k).mp q
      have := hl.2.2 f (con_sym h3)
      omega
  · rintro ⟨h1, h2⟩
    obtain ⟨f, f1, f2, f3⟩ := lead_ex hp h1
    by_cases q : f = p
    · rw [← q]; exact f1
    · have := (h p hp (cn f (ldB g))).mpr ⟨f, f1, by omega, f2, rfl⟩
      rw [h2] at this
      cases this
theorem cn_ld_succ {p : Nat} (hp : lead g p) : cn (p + 1) (ldB g) = cn p (ldB g) + 1 := by
  show cn p (ldB g) + _ = _
  rw [ldB_iff.mpr hp]
  rfl
theorem cn_ld_skip {p : Nat} (hp : ¬ lead g p) : cn (p + 1) (ldB g) = cn p (ldB g) := by
  show cn p (ldB g) + _ = _
  have : ldB g p = false := Bool.eq_false_iff.mpr fun q => hp (ldB_iff.mp q)
  rw [this]
  rfl
/-- the search from p: what is known while the i-th of the queue is left; T: the neighbours looked at -/
def SB (g : Nat → Int32) (p : Nat) (lb0 : Nat → Option Nat) (i : Nat) (lb : Nat → Option Nat) (qs : List Nat) (T : Nat → Prop) : Prop :=
  (∀ c, c ∈ qs → lb c = some (cn p (ldB g))) ∧ (∀ c, c ∉ qs → lb c = lb0 c) ∧ (∀ c, c ∈ qs → con g p c ∧ c < 1000) ∧ (0 < qs.length ∧ qs.getD 0 0 = p) ∧
  (∀ j, j < i → j < qs.length → ∀ e, lnk g (qs.getD j 0) e → e ∈ qs) ∧ (∀ e, T e → lnk g (qs.getD i 0) e → e ∈ qs) ∧ cn 1000 (fun c => (lb c).isSome) = cn 1000 (fun c => (lb0 c).isSome) + qs.length ∧ cn 1000 (fun c => decide (lb c = some (cn p (ldB g)))) = qs.length
theorem lb_none {p c : Nat} {lb0 : Nat → Option Nat} (h0 : LB g p lb0) (hp : lead g p) (hc : c < 1000) (h : con g p c) : lb0 c = none := by
  cases q : lb0 c with
  | none => rfl
  | some k =>
    obtain ⟨f, f1, f2, f3, -⟩ := (h0 c hc k).mp q
    have := lead_un f1 hp f3 h
    omega
theorem lb_lt {p c k : Nat} {lb0 : Nat → Option Nat} (h0 : LB g p lb0) (hc : c < 1000) (h : lb0 c = some k) : k < cn p (ldB g) := by
  obtain ⟨f, f1, f2, f3, rfl⟩ := (h0 c hc k).mp h
  have h1 := cn_mono (ldB g) (show f + 1 ≤ p by omega)
  rw [cn_ld_succ f1] at h1
  omega
theorem cn_one {P Q : Nat → Bool} {c n : Nat} (hc : c < n) (h : ∀ x, x < n → x ≠ c → P x = Q x) (h1 : P c = true) (h2 : Q c = false) : cn n P = cn n Q + 1 := by
  have := cn_at (p := Q) (q := P) hc fun x hx hne => (h x hx hne).symm
  rw [h1, h2, if_pos rfl, if_neg (by decide)] at this
  omega
theorem SB.start {p : Nat} {lb0 : Nat → Option Nat} (h0 : LB g p lb0) (hp : lead g p) : SB g p lb0 0 (dsU lb0 p (cn p (ldB g))) [p] fun _ => False := by
  have hn := lb_none h0 hp hp.1 (con_rf p)
  have e1 : dsU lb0 p (cn p (ldB g)) p = some (cn p (ldB g)) := if_pos rfl
  have e2 : ∀ x, x ≠ p → dsU lb0 p (cn p (ldB g)) x = lb0 x := fun x hx => if_neg hx
  refine ⟨fun c hc => ?_, fun c hc => e2 c fun q => hc (by rw [q]; exact List.mem_singleton.mpr rfl), fun c hc => ?_, ⟨Nat.zero_lt_one, rfl⟩, fun j hj => absurd hj (Nat.not_lt_zero j), fun e he => he.elim, ?_, ?_⟩
  · rw [List.mem_singleton.mp hc]; exact e1
  · rw [List.mem_singleton.mp hc]; exact ⟨con_rf p, hp.1⟩
  · exact cn_one (c := p) hp.1 (fun x _ hx => by rw [e2 x hx]) (by rw [e1]; rfl) (by rw [hn]; rfl)
  · have h1 : cn 1000 (fun c => decide (dsU lb0 p (cn p (ldB g)) c = some (cn p (ldB g)))) = cn 1000 (fun _ => false) + 1 := cn_one (c := p) hp.1 (fun x hx hne => by
      rw [e2 x hne]
      exact decide_eq_false fun q => absurd (lb_lt h0 hx q) (Nat.lt_irrefl _)) (decide_eq_true e1) rfl
    rw [h1, cn_none fun _ _ => rfl]
    rfl
theorem SB.push {p i c : Nat} {lb0 lb : Nat → Option Nat} {qs : List Nat} {T : Nat → Prop} (h : SB g p lb0 i lb qs T) (h0 : LB g p lb0) (hp : lead g p) (hi : i < qs.length) (hl : lnk g (qs.getD i 0) c) (hn : lb c = none) : SB g p lb0 i (dsU lb c (cn p (ldB g))) (qs ++ [c]) fun e => T e ∨ e = c := by
  obtain ⟨a1, a2, a3, a4, a5, a6, a7, a8⟩ := h
  have hc : c < 1000 := hl.1.2.1
  have hnm : c ∉ qs := fun q => by rw [a1 c q] at hn; cases hn
  have e1 : dsU lb c (cn p (ldB g)) c = some (cn p (ldB g)) := if_pos rfl
  have e2 : ∀ x, x ≠ c → dsU lb c (cn p (ldB g)) x = lb x := fun x hx => if_neg hx
  have hlen : (qs ++ [c]).length = qs.length + 1 := by rw [List.length_append]; rfl
  refine ⟨fun x hx => ?_, fun x hx => ?_, fun x hx => ?_, ⟨by omega, (getD_app1 a4.1).trans a4.2⟩, fun j hj hj2 e he => ?_, fun e he he2 => ?_, ?_, ?_⟩
  · by_cases q : x = c
    · rw [q]; exact e1
    · rw [e2 x q]
      rcases List.mem_append.mp hx with q2 | q2
      · exact a1 x q2
      · exact absurd (List.mem_singleton.mp q2) q
  · have q : x ≠ c := fun q => hx (List.mem_append_right _ (by rw [q]; exact List.mem_singleton.mpr rfl))
    rw [e2 x q]
    exact a2 x fun q2 => hx (List.mem_append_left _ q2)
  · rcases List.mem_append.mp hx with q2 | q2
    · exact a3 x q2
    · rw [List.mem_singleton.mp q2]
      exact ⟨con_snoc (a3 _ (getD_mem hi)).1 hl, hc⟩
  · have hj3 : j < qs.length := by omega
    rw [getD_app1 hj3] at he
    exact List.mem_append_left _ (a5 j hj hj3 e he)
  · rw [getD_app1 hi] at he2
    rcases he with he | rfl
    · exact List.mem_append_left _ (a6 e he he2)
    · exact List.mem_append_right _ (List.mem_singleton.mpr rfl)
  · rw [hlen, ← Nat.add_assoc, ← a7]
    exact cn_one (c := c) hc (fun x _ hx => by rw [e2 x hx]) (by rw [e1]; rfl) (by rw [hn]; rfl)
  · rw [hlen, ← a8]
    exact cn_one (c := c) hc (fun x _ hx => by rw [e2 x hx]) (decide_eq_true e1) (decide_eq_false fun q => by rw [hn] at q; cases q)
theorem SB.mono {p i : Nat} {lb0 lb : Nat → Option Nat} {qs : List Nat} {T T' : Nat → Prop} (h : SB g p lb0 i lb qs T) (hT : ∀ e, T' e → T e ∨ ¬ lnk g (qs.getD i 0) e ∨ e ∈ qs) : SB g p lb0 i lb qs T' := by
  obtain ⟨a1, a2, a3, a4, a5, a6, a7⟩ := h
  refine ⟨a1, a2, a3, a4, a5, fun e he hl => ?_, a7⟩
  rcases hT e he with q | q | q
  · exact a6 e q hl
  · exact absurd hl q
  · exact q
theorem SB.next {p i : Nat} {lb0 lb : Nat → Option Nat} {qs : List Nat} {T : Nat → Prop} (h : SB g p lb0 i lb qs T) (hT : ∀ e, lnk g (qs.getD i 0) e → T e) : SB g p lb0 (i + 1) lb qs fun _ => False := by
  obtain ⟨a1, a2, a3, a4, a5, a6, a7⟩ := h
  refine ⟨a1, a2, a3, a4, fun j hj hj2 e he => ?_, fun e he => he.elim, a7⟩
  by_cases q : j = i
  · rw [q] at he; exact a6 e (hT e he) he
  · exact a5 j (by omega) hj2 e he
/-- the queue is left: it is the whole part -/
theorem SB.all {p i : Nat} {lb0 lb : Nat → Option Nat} {qs : List Nat} {T : Nat → Prop} (h : SB g p lb0 i lb qs T) (hi : qs.length ≤ i) {c : Nat} (hc : con g p c) : c ∈ qs := by
  obtain ⟨a1, a2, a3, a4, a5, a6, a7⟩ := h
  obtain ⟨n, hn⟩ := hc
  induction n generalizing c with
  | zero =>
    have q : c = p := hn
    rw [q, ← a4.2]
    exact getD_mem a4.1
  | succ n ih =>
    obtain ⟨x, h1, h2⟩ := hn
    have hx := ih h1
    obtain ⟨j, hj, e⟩ := List.getElem_of_mem hx
    refine a5 j (by omega) hj c ?_
    rw [List.getD_eq_getElem?_getD, List.getElem?_eq_getElem hj]
    show lnk g qs[j] c
    rw [e]
    exact h2
theorem SB.done {p i : Nat} {lb0 lb : Nat → Option Nat} {qs : List Nat} {T : Nat → Prop} (h : SB g p lb0 i lb qs T) (h0 : LB g p lb0) (hp : lead g p) (hi : qs.length ≤ i) : LB g (p + 1) lb := fun c hc k => by
  have hall := fun q : con g p c => h.all hi q
  obtain ⟨a1, a2, a3, a4, a5, a6, a7⟩ := h
  constructor
  · intro q
    by_cases hm : c ∈ qs
    · rw [a1 c hm] at q
      cases q
      exact ⟨p, hp, by omega, (a3 c hm).1, rfl⟩
    · rw [a2 c hm] at q
      obtain ⟨f, f1, f2, f3⟩ := (h0 c hc k).mp q
      exact ⟨f, f1, by omega, f3⟩
  · rintro ⟨f, f1, f2, f3, rfl⟩
    by_cases q : f = p
    · subst q
      exact a1 c (hall f3)
    · have hm : c ∉ qs := fun q2 => q (lead_un f1 hp f3 (a3 c q2).1)
      rw [a2 c hm]
      exact (h0 c hc _).mpr ⟨f, f1, by omega, f3, rfl⟩
end CN
