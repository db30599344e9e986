/-! settle: changes of different cells may be made in any order -/
def EQ (f : Nat → Nat → Bool) : Prop := (∀ i j, i < 160 → j < 160 → f i j = true → f j i = true) ∧ ∀ i j m, i < 160 → j < 160 → m < 160 → f i j = true → f j m = true → f i m = true
def EqV (ab : AB) : Prop := EQ (asl ab) ∧ ∀ x, x < 10 → EQ fun i j => asr ab i x j
theorem EQ.sep {f : Nat → Nat → Bool} (h : EQ f) (k : Nat) : EQ (sepL k f) := by
  refine ⟨fun i j hi hj q => ?_, fun i j m hi hj hm q r => ?_⟩
  · unfold sepL at q ⊢
    by_cases e : i = k ∨ j = k
    · rw [if_pos e] at q
      rw [if_pos (Or.symm e)]
      exact decide_eq_true (of_decide_eq_true q).symm
    · rw [if_neg e] at q
      rw [if_neg (fun t => e (Or.symm t))]
      exact h.1 i j hi hj q
  · by_cases e : i = k ∨ j = k
    · have q2 := q
      unfold sepL at q2
      rw [if_pos e] at q2
      have := of_decide_eq_true q2
      rw [this]
      exact r
    · by_cases e2 : j = k ∨ m = k
      · have r2 := r
        unfold sepL at r2
        rw [if_pos e2] at r2
        have := of_decide_eq_true r2
        rw [← this]
        exact q
      · unfold sepL at q r ⊢
        rw [if_neg e] at q
        rw [if_neg e2] at r
        rw [if_neg (by omega)]
        exact h.2 i j m hi hj hm q r
def shs (f : Nat → Nat → Bool) (k : Nat) : Bool := (List.range 160).any fun j => decide (j ≠ k) && f k j
theorem shs_iff {f : Nat → Nat → Bool} {k : Nat} : shs f k = true ↔ ∃ j, j < 160 ∧ j ≠ k ∧ f k j = true := by
  unfold shs
  simp only [List.any_eq_true, List.mem_range, Bool.and_eq_true, decide_eq_true_eq]
theorem shs_sep {f : Nat → Nat → Bool} {k m : Nat} (hne : m ≠ k) : shs (sepL k f) m = true ↔ ∃ j, j < 160 ∧ j ≠ m ∧ j ≠ k ∧ f m j = true := by
  rw [shs_iff]
  constructor
  · rintro ⟨j, a, b, c⟩
    unfold sepL at c
    by_cases e : m = k ∨ j = k
    · rw [if_pos e] at c
      exact absurd (of_decide_eq_true c).symm b
    · rw [if_neg e] at c
      exact ⟨j, a, b, fun t => e (Or.inr t), c⟩
  · rintro ⟨j, a, b, c, d⟩
    refine ⟨j, a, b, ?_⟩
    unfold sepL
    rw [if_neg (by omega)]
    exact d
theorem shs_cm {f : Nat → Nat → Bool} (h : EQ f) {k m : Nat} (hk : k < 160) (hm : m < 160) : b2n (shs f k) + b2n (shs (sepL k f) m) = b2n (shs f m) + b2n (shs (sepL m f) k) := by
  by_cases e : k = m
  · rw [e]
  · by_cases q : f k m = true
    · have q' := h.1 k m hk hm q
      have a1 : shs f k = true := shs_iff.mpr ⟨m, hm, fun t => e t.symm, q⟩
      have a2 : shs f m = true := shs_iff.mpr ⟨k, hk, e, q'⟩
      have a3 : shs (sepL k f) m = shs (sepL m f) k := by
        rw [Bool.eq_iff_iff, shs_sep (fun t => e t.symm), shs_sep e]
        constructor
        · rintro ⟨j, j1, j2, j3, j4⟩
          exact ⟨j, j1, j3, j2, h.2 k m j hk hm j1 q j4⟩
        · rintro ⟨j, j1, j2, j3, j4⟩
          exact ⟨j, j1, j3, j2, h.2 m k j hm hk j1 q' j4⟩
      rw [a1, a2, a3]
    · have a1 : shs (sepL k f) m = shs f m := by
        rw [Bool.eq_iff_iff, shs_sep (fun t => e t.symm), shs_iff]
        constructor
        · rintro ⟨j, j1, j2, -, j4⟩
          exact ⟨j, j1, j2, j4⟩
        · rintro ⟨j, j1, j2, j4⟩
          exact ⟨j, j1, j2, fun t => q (h.1 m k hm hk (by rw [t] at j4; exact j4)), j4⟩
      have a2 : shs (sepL m f) k = shs f k := by
        rw [Bool.eq_iff_iff, shs_sep e, shs_iff]
        constructor
        · rintro ⟨j, j1, j2, -, j4⟩
          exact ⟨j, j1, j2, j4⟩
        · rintro ⟨j, j1, j2, j4⟩
          exact ⟨j, j1, j2, fun t => q (by rw [t] at j4; exact j4), j4⟩
      rw [a1, a2, Nat.add_comm]
theorem sepL_cm (k m : Nat) (f : Nat → Nat → Bool) : sepL k (sepL m f) = sepL m (sepL k f) := by
  funext i j
  unfold sepL
  by_cases p : i = k ∨ j = k
  · rw [if_pos p]
    by_cases q : i = m ∨ j = m
    · rw [if_pos q]
    · rw [if_neg q, if_pos p]
  · rw [if_neg p]
    by_cases q : i = m ∨ j = m
    · rw [if_pos q, if_pos q]
    · rw [if_neg q, if_neg q, if_neg p]
theorem sepR_cm (k x m z : Nat) (f : Nat → Nat → Nat → Bool) : sepR k x (sepR m z f) = sepR m z (sepR k x f) := by
  funext i y j
  unfold sepR
  by_cases p : y = x ∧ (i = k ∨ j = k)
  · rw [if_pos p]
    by_cases q : y = z ∧ (i = m ∨ j = m)
    · rw [if_pos q]
    · rw [if_neg q, if_pos p]
  · rw [if_neg p]
    by_cases q : y = z ∧ (i = m ∨ j = m)
    · rw [if_pos q, if_pos q]
    · rw [if_neg q, if_neg q, if_neg p]
theorem sepR_at (k x : Nat) (f : Nat → Nat → Nat → Bool) : (fun i j => sepR k x f i x j) = sepL k fun i j => f i x j := by
  funext i j
  unfold sepR sepL
  by_cases p : i = k ∨ j = k
  · rw [if_pos ⟨rfl, p⟩, if_pos p]
  · rw [if_neg (fun t => p t.2), if_neg p]
theorem sepR_ne {k x y : Nat} (hne : y ≠ x) (f : Nat → Nat → Nat → Bool) : (fun i j => sepR k x f i y j) = fun i j => f i y j := by
  funext i j
  unfold sepR
  rw [if_neg (fun t => hne t.1)]
/-- a cell's code in its row -/
def cU (k x p : Nat) (v : Int32) (ab : AB) : Nat → Int32 := fun u => if u = p then v else aat ab k x u
theorem aSet_cm {k x p k' x' p' : Nat} {v v' : Int32} {ab : AB} (h : ¬ (k = k' ∧ x = x' ∧ p = p')) : aSet k x (cU k x p v (aSet k' x' (cU k' x' p' v' ab) ab)) (aSet k' x' (cU k' x' p' v' ab) ab) = aSet k' x' (cU k' x' p' v' (aSet k x (cU k x p v ab) ab)) (aSet k x (cU k x p v ab) ab) := by
  refine Prod.ext rfl (Prod.ext (sepL_cm k k' (asl ab)) (Prod.ext ?_ (Prod.ext (sepR_cm k x k' x' (asr ab)) ?_)))
  · funext i z
    show (if i = k ∧ z = x then true else if i = k' ∧ z = x' then true else arp ab i z) = if i = k' ∧ z = x' then true else if i = k ∧ z = x then true else arp ab i z
    by_cases p : i = k ∧ z = x
    · rw [if_pos p]
      by_cases q : i = k' ∧ z = x'
      · rw [if_pos q]
      · rw [if_neg q, if_pos p]
    · rw [if_neg p]
      by_cases q : i = k' ∧ z = x'
      · rw [if_pos q, if_pos q]
      · rw [if_neg q, if_neg q, if_neg p]
  · funext i z u
    show (if i = k ∧ z = x then (if u = p then v else (if k = k' ∧ x = x' then (if u = p' then v' else aat ab k' x' u) else aat ab k x u)) else (if i = k' ∧ z = x' then (if u = p' then v' else aat ab k' x' u) else aat ab i z u)) = (if i = k' ∧ z = x' then (if u = p' then v' else (if k' = k ∧ x' = x then (if u = p then v else aat ab k x u) else aat ab k' x' u)) else (if i = k ∧ z = x then (if u = p then v else aat ab k x u) else aat ab i z u))
    by_cases e : k = k' ∧ x = x'
    · obtain ⟨rfl, rfl⟩ := e
      have hp : p ≠ p' := fun t => h ⟨rfl, rfl, t⟩
      by_cases q : i = k ∧ z = x
      · have kk : k = k ∧ x = x := ⟨rfl, rfl⟩
        rw [if_pos q, if_pos q, if_pos kk, if_pos kk]
        by_cases u1 : u = p
        · rw [if_pos u1, if_neg (fun t => hp (u1.symm.trans t)), if_pos u1]
        · rw [if_neg u1, if_neg u1]
      · rw [if_neg q, if_neg q, if_neg q, if_neg q]
    · have e' : ¬ (k' = k ∧ x' = x) := fun t => e ⟨t.1.symm, t.2.symm⟩
      rw [if_neg e, if_neg e']
      by_cases q : i = k ∧ z = x
      · have q' : ¬ (i = k' ∧ z = x') := fun t => e ⟨q.1.symm.trans t.1, q.2.symm.trans t.2⟩
        rw [if_pos q, if_neg q', if_pos q]
      · rw [if_neg q]
        by_cases q' : i = k' ∧ z = x'
        · rw [if_pos q', if_pos q']
        · rw [if_neg q', if_neg q', if_neg q]
def zchT (y c : Nat) (v : Int32) (a : AS) : AS := zSet a (znl a + b2n (shL (zab a) (10 * y + c / 100))) (znr a + b2n (shR (zab a) (10 * y + c / 100) (c / 10 % 10))) (aSet (10 * y + c / 100) (c / 10 % 10) (cU (10 * y + c / 100) (c / 10 % 10) (c % 10) v (zab a)) (zab a))
theorem zch_T {y c : Nat} {v : Int32} {a : AS} (h : chB (zab a) y c v = true) : zch y c v a = zchT y c v a := if_pos h
theorem zch_F {y c : Nat} {v : Int32} {a : AS} (h : ¬ chB (zab a) y c v = true) : zch y c v a = a := if_neg h
theorem zchT_cm {y c d : Nat} {v w : Int32} {a : AS} (hE : EqV (zab a)) (hy : y < 16) (hc : c < 1000) (hd : d < 1000) (hne : c ≠ d) : zchT y c v (zchT y d w a) = zchT y d w (zchT y c v a) := by
  have kc : 10 * y + c / 100 < 160 := by omega
  have kd : 10 * y + d / 100 < 160 := by omega
  have xc : c / 10 % 10 < 10 := by omega
  have hC := aSet_cm (k := 10 * y + c / 100) (x := c / 10 % 10) (p := c % 10) (k' := 10 * y + d / 100) (x' := d / 10 % 10) (p' := d % 10) (v := v) (v' := w) (ab := zab a) (by omega)
  have hA : b2n (shL (zab a) (10 * y + d / 100)) + b2n (shL (aSet (10 * y + d / 100) (d / 10 % 10) (cU (10 * y + d / 100) (d / 10 % 10) (d % 10) w (zab a)) (zab a)) (10 * y + c / 100)) = b2n (shL (zab a) (10 * y + c / 100)) + b2n (shL (aSet (10 * y + c / 100) (c / 10 % 10) (cU (10 * y + c / 100) (c / 10 % 10) (c % 10) v (zab a)) (zab a)) (10 * y + d / 100)) := shs_cm hE.1 kd kc
  have hB : b2n (shR (zab a) (10 * y + d / 100) (d / 10 % 10)) + b2n (shR (aSet (10 * y + d / 100) (d / 10 % 10) (cU (10 * y + d / 100) (d / 10 % 10) (d % 10) w (zab a)) (zab a)) (10 * y + c / 100) (c / 10 % 10)) = b2n (shR (zab a) (10 * y + c / 100) (c / 10 % 10)) + b2n (shR (aSet (10 * y + c / 100) (c / 10 % 10) (cU (10 * y + c / 100) (c / 10 % 10) (c % 10) v (zab a)) (zab a)) (10 * y + d / 100) (d / 10 % 10)) := by
    show b2n (shs (fun i j => asr (zab a) i (d / 10 % 10) j) (10 * y + d / 100)) + b2n (shs (fun i j => sepR (10 * y + d / 100) (d / 10 % 10) (asr (zab a)) i (c / 10 % 10) j) (10 * y + c / 100)) = b2n (shs (fun i j => asr (zab a) i (c / 10 % 10) j) (10 * y + c / 100)) + b2n (shs (fun i j => sepR (10 * y + c / 100) (c / 10 % 10) (asr (zab a)) i (d / 10 % 10) j) (10 * y + d / 100))
    by_cases e : d / 10 % 10 = c / 10 % 10
    · rw [e, sepR_at, sepR_at]
      exact shs_cm (hE.2 _ xc) kd kc
    · rw [sepR_ne (fun t => e t.symm), sepR_ne e, Nat.add_comm]
  show zSet a (znl a + b2n (shL (zab a) (10 * y + d / 100)) + b2n (shL (aSet (10 * y + d / 100) (d / 10 % 10) (cU (10 * y + d / 100) (d / 10 % 10) (d % 10) w (zab a)) (zab a)) (10 * y + c / 100))) (znr a + b2n (shR (zab a) (10 * y + d / 100) (d / 10 % 10)) + b2n (shR (aSet (10 * y + d / 100) (d / 10 % 10) (cU (10 * y + d / 100) (d / 10 % 10) (d % 10) w (zab a)) (zab a)) (10 * y + c / 100) (c / 10 % 10))) _ = zSet a (znl a + b2n (shL (zab a) (10 * y + c / 100)) + b2n (shL (aSet (10 * y + c / 100) (c / 10 % 10) (cU (10 * y + c / 100) (c / 10 % 10) (c % 10) v (zab a)) (zab a)) (10 * y + d / 100))) (znr a + b2n (shR (zab a) (10 * y + c / 100) (c / 10 % 10)) + b2n (shR (aSet (10 * y + c / 100) (c / 10 % 10) (cU (10 * y + c / 100) (c / 10 % 10) (c % 10) v (zab a)) (zab a)) (10 * y + d / 100) (d / 10 % 10))) _
  rw [Nat.add_assoc, Nat.add_assoc, Nat.add_assoc, Nat.add_assoc, hA, hB]
  exact congrArg (zSet a _ _) hC
theorem zch_cm {y c d : Nat} {v w : Int32} {a : AS} (hE : EqV (zab a)) (hy : y < 16) (hc : c < 1000) (hd : d < 1000) (hne : c ≠ d) : zch y c v (zch y d w a) = zch y d w (zch y c v a) := by
  have e1 : chB (zab (zch y d w a)) y c v = chB (zab a) y c v := by
    unfold chB
    rw [cdA_zch hy hy hd hc, if_neg (fun t => hne t.2.1)]
  have e2 : chB (zab (zch y c v a)) y d w = chB (zab a) y d w := by
    unfold chB
    rw [cdA_zch hy hy hc hd, if_neg (fun t => hne t.2.1.symm)]
  by_cases p : chB (zab a) y c v = true
  · by_cases q : chB (zab a) y d w = true
    · rw [zch_T (a := zch y d w a) (e1.trans p), zch_T (a := zch y c v a) (e2.trans q), zch_T q, zch_T p]
      exact zchT_cm hE hy hc hd hne
    · rw [zch_F (a := zch y c v a) (fun t => q (e2.symm.trans t)), zch_F (a := a) (c := d) q]
  · rw [zch_F (a := zch y d w a) (fun t => p (e1.symm.trans t)), zch_F (a := a) (c := c) p]
theorem EqV.zch {y c : Nat} {v : Int32} {a : AS} (h : EqV (zab a)) : EqV (zab (zch y c v a)) := by
  by_cases p : chB (zab a) y c v = true
  · rw [zch_T p]
    refine ⟨h.1.sep _, fun x hx => ?_⟩
    show EQ fun i j => sepR (10 * y + c / 100) (c / 10 % 10) (asr (zab a)) i x j
    by_cases e : x = c / 10 % 10
    · rw [e, sepR_at]
      exact (h.2 _ (by omega)).sep _
    · rw [sepR_ne e]
      exact h.2 x hx
  · rw [zch_F p]
    exact h
theorem Ag.eqv {s : SN} {ab : AB} (h : Ag s ab) : EqV ab := by
  have key : ∀ (o : Nat → Option Nat) (f : Nat → Nat → Bool), (∀ i j, i < 160 → j < 160 → f i j = ((o i).isSome && decide (o i = o j))) → EQ f := fun o f hf => by
    refine ⟨fun i j hi hj q => ?_, fun i j m hi hj hm q r => ?_⟩
    · rw [hf i j hi hj] at q
      rw [hf j i hj hi]
      obtain ⟨q1, q2⟩ := Bool.and_eq_true_iff.mp q
      have q2 := of_decide_eq_true q2
      rw [← q2, q1, decide_eq_true rfl]
      rfl
    · rw [hf i j hi hj] at q
      rw [hf j m hj hm] at r
      rw [hf i m hi hm]
      obtain ⟨q1, q2⟩ := Bool.and_eq_true_iff.mp q
      obtain ⟨r1, r2⟩ := Bool.and_eq_true_iff.mp r
      have q2 := of_decide_eq_true q2
      have r2 := of_decide_eq_true r2
      rw [q1, ← r2, q2, decide_eq_true rfl]
      rfl
  refine ⟨key (nf s) _ fun i j hi hj => (h i hi).2.1 j hj, fun x hx => key (fun i => rwo s i x) _ fun i j hi hj => ((h i hi).2.2 x hx).2.1 j hj⟩
theorem mvG_perm {y : Nat} {τ : Nat → Nat} {v : Nat → Int32} {l1 l2 : List Nat} (hp : l1.Perm l2) (hy : y < 16) : ∀ a : AS, EqV (zab a) → (∀ c, c ∈ l1 → τ c < 1000) → (∀ c d, c ∈ l1 → d ∈ l1 → τ c = τ d → c = d) → mvG y τ v a l1 = mvG y τ v a l2 := by
  induction hp with
  | nil => intro a _ _ _; rfl
  | cons x hp ih =>
    intro a hE h1 h2
    exact ih (zch y (τ x) (v x) a) hE.zch (fun c hc => h1 c (List.mem_cons_of_mem _ hc)) fun c d hc hd => h2 c d (List.mem_cons_of_mem _ hc) (List.mem_cons_of_mem _ hd)
  | swap x z l =>
    intro a hE h1 h2
    show mvG y τ v (zch y (τ x) (v x) (zch y (τ z) (v z) a)) l = mvG y τ v (zch y (τ z) (v z) (zch y (τ x) (v x) a)) l
    by_cases e : x = z
    · rw [e]
    · rw [zch_cm hE hy (h1 x (List.mem_cons_of_mem _ List.mem_cons_self)) (h1 z List.mem_cons_self) fun t => e (h2 x z (List.mem_cons_of_mem _ List.mem_cons_self) List.mem_cons_self t)]
  | trans p q ih1 ih2 =>
    intro a hE h1 h2
    exact (ih1 a hE h1 h2).trans (ih2 a hE (fun c hc => h1 c (p.mem_iff.mpr hc)) fun c d hc hd => h2 c d (p.mem_iff.mpr hc) (p.mem_iff.mpr hd))
theorem mvG_eqv {y : Nat} {τ : Nat → Nat} {v : Nat → Int32} (l : List Nat) : ∀ a : AS, EqV (zab a) → EqV (zab (mvG y τ v a l)) := by
  induction l with
  | nil => intro a h; exact h
  | cons x l ih => intro a h; exact ih (zch y (τ x) (v x) a) h.zch
theorem perm_of {l1 : List Nat} : ∀ {l2 : List Nat}, l1.Nodup → (∀ x, x ∈ l1 → x ∈ l2) → l2.length ≤ l1.length → l1.Perm l2 := by
  induction l1 with
  | nil =>
    intro l2 _ _ h
    have : l2 = [] := List.eq_nil_of_length_eq_zero (by simpa using h)
    rw [this]
  | cons x t ih =>
    intro l2 hn hm hl
    obtain ⟨n1, n2⟩ := List.nodup_cons.mp hn
    have hx : x ∈ l2 := hm x List.mem_cons_self
    have p := List.perm_cons_erase hx
    refine (List.Perm.cons x (ih n2 (fun z hz => ?_) ?_)).trans p.symm
    · exact (List.mem_erase_of_ne (fun t => n1 (by rw [← t]; exact hz))).mpr (hm z (List.mem_cons_of_mem _ hz))
    · rw [List.length_erase_of_mem hx]
      rw [List.length_cons] at hl
      omega
/-- what a cell has after many changes -/
theorem cdA_mvG_no {y c : Nat} {τ : Nat → Nat} {v : Nat → Int32} (hy : y < 16) (hc : c < 1000) (l : List Nat) : ∀ a : AS, (∀ e, e ∈ l → τ e < 1000) → (∀ e, e ∈ l → τ e ≠ c) → cdA (zab (mvG y τ v a l)) y c = cdA (zab a) y c := by
  induction l with
  | nil => intro a _ _; rfl
  | cons x l ih =>
    intro a h1 h2
    refine (ih (zch y (τ x) (v x) a) (fun e he => h1 e (List.mem_cons_of_mem _ he)) fun e he => h2 e (List.mem_cons_of_mem _ he)).trans ?_
    rw [cdA_zch hy hy (h1 x List.mem_cons_self) hc, if_neg (fun t => h2 x List.mem_cons_self t.2.1.symm)]
