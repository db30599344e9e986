/-! light and dark: levels, with no cells of memory -/
def adj (e c : Nat) : Prop := e < 1000 ∧ c < 1000 ∧ ∃ d, d < 6 ∧ nbO e d = some c
theorem nbO_sym {c d e : Nat} (hd : d < 6) (h : nbO c d = some e) : nbO e (sw d) = some c := by
  have s0 : stN 0 = 100 := rfl
  have s1 : stN 1 = 10 := rfl
  have s2 : stN 2 = 1 := rfl
  unfold nbO at h
  unfold nbO sw
  by_cases hp : d % 2 = 0
  · rw [if_pos hp] at h ⊢
    rw [if_neg (by omega), show (d + 1) / 2 = d / 2 by omega]
    split at h
    · rename_i q
      cases h
      rcases (show d / 2 = 0 ∨ d / 2 = 1 ∨ d / 2 = 2 by omega) with q2 | q2 | q2 <;> rw [q2] at q ⊢
      · rw [s0] at q ⊢
        rw [if_pos (by omega), Nat.add_sub_cancel]
      · rw [s1] at q ⊢
        rw [if_pos (by omega), Nat.add_sub_cancel]
      · rw [s2] at q ⊢
        rw [if_pos (by omega), Nat.add_sub_cancel]
    · cases h
  · rw [if_neg hp] at h ⊢
    rw [if_pos (by omega), show (d - 1) / 2 = d / 2 by omega]
    split at h
    · rename_i q
      cases h
      rcases (show d / 2 = 0 ∨ d / 2 = 1 ∨ d / 2 = 2 by omega) with q2 | q2 | q2 <;> rw [q2] at q ⊢
      · rw [s0] at q ⊢
        rw [if_pos (by omega), Nat.sub_add_cancel (by omega)]
      · rw [s1] at q ⊢
        rw [if_pos (by omega), Nat.sub_add_cancel (by omega)]
      · rw [s2] at q ⊢
        rw [if_pos (by omega), Nat.sub_add_cancel (by omega)]
    · cases h
theorem adj_sym {e c : Nat} (h : adj e c) : adj c e := by
  obtain ⟨h1, h2, d, hd, h3⟩ := h
  refine ⟨h2, h1, sw d, ?_, nbO_sym hd h3⟩
  unfold sw
  split <;> omega
def rz (o s : Nat → Nat) (P : Nat → Prop) : Nat → Nat → Nat → Prop
  | 0, c, n => n = o c
  | k + 1, c, n => rz o s P k c n ∨ ∃ e, adj e c ∧ P e ∧ P c ∧ ∃ m, rz o s P k e m ∧ n + s c = m
def LvS (o s : Nat → Nat) (P : Nat → Prop) (V : Nat → Nat) : Prop := ∀ c, c < 1000 → o c ≤ V c ∧ ∃ k, rz o s P k c (V c)
def LvC (s : Nat → Nat) (P : Nat → Prop) (V : Nat → Nat) : Prop := ∀ e c, adj e c → P e → P c → V e ≤ V c + s c
noncomputable def lvO (o s : Nat → Nat) (P : Nat → Prop) (c : Nat) : Nat := @dite _ (∃ n, (∃ k, rz o s P k c n) ∧ ∀ k m, rz o s P k c m → m ≤ n) (Classical.propDecidable _) (fun h => Classical.choose h) (fun _ => 0)
section LT
variable {o s : Nat → Nat} {P : Nat → Prop} {V : Nat → Nat}
theorem rz_le (h : LvS o s P V) (hc : LvC s P V) : ∀ k c n, c < 1000 → rz o s P k c n → n ≤ V c := by
  intro k
  induction k with
  | zero =>
    intro c n hc1 q
    have q : n = o c := q
    rw [q]
    exact (h c hc1).1
  | succ k ih =>
    intro c n hc1 q
    rcases q with q | ⟨e, a1, a2, a3, m, a4, a5⟩
    · exact ih c n hc1 q
    · have h1 := ih e m a1.1 a4
      have h2 := hc e c a1 a2 a3
      omega
theorem lvO_eq (h : LvS o s P V) (hc : LvC s P V) {c : Nat} (hc1 : c < 1000) : lvO o s P c = V c := by
  have hx : ∃ n, (∃ k, rz o s P k c n) ∧ ∀ k m, rz o s P k c m → m ≤ n := ⟨V c, (h c hc1).2, fun k m q => rz_le h hc k c m hc1 q⟩
  unfold lvO
  rw [dif_pos hx]
  obtain ⟨⟨k, q1⟩, q2⟩ := Classical.choose_spec hx
  obtain ⟨k2, q3⟩ := (h c hc1).2
  have e1 := rz_le h hc k c _ hc1 q1
  have e2 := q2 k2 _ q3
  omega
theorem rz_15 (ho : ∀ c, c < 1000 → o c ≤ 15) : ∀ k c n, c < 1000 → rz o s P k c n → n ≤ 15 := by
  intro k
  induction k with
  | zero =>
    intro c n hc1 q
    have q : n = o c := q
    rw [q]
    exact ho c hc1
  | succ k ih =>
    intro c n hc1 q
    rcases q with q | ⟨e, a1, a2, a3, m, a4, a5⟩
    · exact ih c n hc1 q
    · have h1 := ih e m a1.1 a4
      omega
theorem LvS.le (h : LvS o s P V) (ho : ∀ c, c < 1000 → o c ≤ 15) {c : Nat} (hc : c < 1000) : V c ≤ 15 := by
  obtain ⟨k, q⟩ := (h c hc).2
  exact rz_15 ho k c _ hc q
def upN (V : Nat → Nat) (c v : Nat) : Nat → Nat := fun x => if x = c then v else V x
theorem LvS.up (h : LvS o s P V) {e c v : Nat} (ha : adj e c) (he : P e) (hc : P c) (hv : v + s c = V e) (hlt : V c ≤ v) : LvS o s P (upN V c v) := by
  intro x hx
  unfold upN
  by_cases q : x = c
  · rw [if_pos q, q]
    obtain ⟨k, h1⟩ := (h e ha.1).2
    exact ⟨Nat.le_trans (h c ha.2.1).1 hlt, k + 1, Or.inr ⟨e, ha, he, hc, V e, h1, hv⟩⟩
  · rw [if_neg q]; exact h x hx
theorem sm_le15 {V : Nat → Nat} : ∀ n, (∀ c, c < n → V c ≤ 15) → sm n V ≤ 15 * n := by
  intro n
  induction n with
  | zero => intro _; exact Nat.le_refl _
  | succ n ih =>
    intro h
    have h1 := ih fun c hc => h c (by omega)
    have h2 := h n (by omega)
    show sm n V + V n ≤ _
    omega
theorem sm_up {V : Nat → Nat} {c v n : Nat} (hc : c < n) (hv : V c < v) : sm n V < sm n (upN V c v) := by
  have h := sm_at (p := V) (q := upN V c v) hc fun i _ hi => by
    unfold upN
    rw [if_neg hi]
  have e : upN V c v c = v := if_pos rfl
  rw [e] at h
  omega
end LT
/-- own light and loss of a cell -/
def ltO (a : AS) (g : Nat → Int32) (c : Nat) : Nat := if blk g c = true then (zK a 2 (kd (g c)).toNatClampNeg).toNatClampNeg else 0
def lsO (a : AS) (g : Nat → Int32) (c : Nat) : Nat := if oEq (g c) 0 = true then 1 else (zK a 3 (kd (g c)).toNatClampNeg).toNatClampNeg
def prs (g : Nat → Int32) (c : Nat) : Prop := ¬ g c = -1
theorem clampN {v : Int32} (h : 0 ≤ v.toInt) : v = nI v.toNatClampNeg ∧ (v.toNatClampNeg : Int) = v.toInt := by
  have e := nI_tn h
  have f : v.toNatClampNeg = v.toInt.toNat := by
    have hlt := Int32.toInt_lt v
    rw [e, nI_clamp (by omega), ← e]
  rw [f]
  exact ⟨e, by omega⟩
theorem lt_ok {a : AS} (hO : OkA a) {g : Nat → Int32} {c : Nat} (hc : cOK (zkn a) (g c)) (hb : blk g c = true) : (kd (g c)).toNatClampNeg < 31 ∧ kd (g c) = nI (kd (g c)).toNatClampNeg ∧ (oGe (kd (g c)) 1 && oLe (kd (g c)) (nI (zkn a))) = true ∧ zK a 2 (kd (g c)).toNatClampNeg = nI (ltO a g c) ∧ zK a 3 (kd (g c)).toNatClampNeg = nI (lsO a g c) ∧ ltO a g c ≤ 15 ∧ 1 ≤ lsO a g c ∧ lsO a g c ≤ 16 := by
  obtain ⟨k1, k2, -⟩ := kd_of hc hb
  have hkn := hO.1
  obtain ⟨e1, e2⟩ := clampN (v := kd (g c)) (by omega)
  obtain ⟨-, -, -, -, h1, h2, h3, h4, -⟩ := hO.2.1 (kd (g c)).toNatClampNeg (by omega) (by omega)
  obtain ⟨l1, l2⟩ := clampN h1
  obtain ⟨s1, s2⟩ := clampN (v := zK a 3 (kd (g c)).toNatClampNeg) (by omega)
  have el : ltO a g c = (zK a 2 (kd (g c)).toNatClampNeg).toNatClampNeg := if_pos hb
  have es : lsO a g c = (zK a 3 (kd (g c)).toNatClampNeg).toNatClampNeg := if_neg fun q => by
    unfold blk at hb
    rw [show g c = 0 from of_decide_eq_true q] at hb
    exact absurd hb (by decide)
  rw [el, es]
  refine ⟨by omega, e1, ?_, l1, s1, by omega, by omega, by omega⟩
  rw [e1]
  exact isK_nI hkn (by omega) (by omega)
theorem lt_15 {a : AS} (hO : OkA a) {g : Nat → Int32} (hcd : ∀ c, c < 1000 → cOK (zkn a) (g c)) : ∀ c, c < 1000 → ltO a g c ≤ 15 := fun c hc => by
  by_cases q : blk g c = true
  · exact (lt_ok hO (hcd c hc) q).2.2.2.2.2.1
  · have : ltO a g c = 0 := if_neg q
    omega
theorem ls_ok {a : AS} (hO : OkA a) {g : Nat → Int32} {c : Nat} (hc : cOK (zkn a) (g c)) (hp : prs g c) : 1 ≤ lsO a g c ∧ lsO a g c ≤ 16 := by
  by_cases q : blk g c = true
  · exact (lt_ok hO hc q).2.2.2.2.2.2
  · have : lsO a g c = 1 := if_pos (by
      rcases kR_cs hc with ⟨e, -⟩ | ⟨e, -⟩ | ⟨e, -⟩
      · exact absurd e hp
      · exact decide_eq_true e
      · exact absurd (decide_eq_true (Int32.lt_iff_toInt_lt.mpr (show (0 : Int32).toInt < (g c).toInt from e))) q)
    omega
