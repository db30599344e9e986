/-! rules put together: a statement and what follows it -/
section Q
variable {L : Lv} {M : Mm} {Q : Lv → Mm → Nat → Option Value → Prop}
theorem pI_eq {e : DI} {x y : Int32} (h : pI e L M x) (k : x = y) : pI e L M y := k ▸ h
theorem pC_eq {e : DC} {x y : Bool} (h : pC e L M x) (k : x = y) : pC e L M y := k ▸ h
theorem pA_eq {e : DA} {x y : Option Nat} (h : pA e L M x) (k : x = y) : pA e L M y := k ▸ h
theorem pA_lO {i : Nat} {r : Option Nat} (h : lkp L i = some (va_rf r)) : pA (lA i) L M r := pA_of (wA_lA h (asA_of r) ⟨rfl, rfl⟩)
theorem pA_cN : pA cN L M none := rfl
theorem pA_cS {i : Nat} : pA (cS i) L M (some i) := rfl
theorem pA_vS {f : FN} {r : DR} {vs : List Value} {x : Option Nat} (h : pR r L M vs) (hf : f vs M = some (some (va_rf x), M)) : pA (vA (ivS f r)) L M x := pA_of (wA_vA (wV_S ⟨vs, M, h, _, M, hf, va_rf x, x, rfl, asA_of x, rfl, rfl⟩))
theorem pA_vV {ci a : Nat} {f : FN} {r : DR} {vs : List Value} {fs : List Value} {x : Option Nat} (h : pR r L M (.ref a :: vs)) (hM : M.2.2 a = .inr (ci, fs)) (hf : f (.ref a :: vs) M = some (some (va_rf x), M)) : pA (vA (ivV ci f r)) L M x := pA_of (wA_vA (wV_V ⟨_, M, h, isR_of hM, _, M, hf, va_rf x, x, rfl, asA_of x, rfl, rfl⟩))
theorem pI_nA {e : DA} {a t : Nat} {x : vp_A} (h : pA e L M (some a)) (hM : M.2.2 a = .inl (t, x)) (ht : t ≤ 5) : pI (nA e) L M (nI x.1) := pI_of (wI_nA (wA_p h ⟨a, x.1, rfl, lenA_of hM ht, rfl, rfl⟩))
theorem pI_max {a b : DI} {x y : Int32} (h : pI a L M x) (g : pI b L M y) : pI (bI oMax a b) L M (if x < y then y else x) := pI_of (wI_max (wI_p h (wI_p g ⟨rfl, rfl⟩)))
theorem pI_min {a b : DI} {x y : Int32} (h : pI a L M x) (g : pI b L M y) : pI (bI oMin a b) L M (if y < x then y else x) := pI_of (wI_min (wI_p h (wI_p g ⟨rfl, rfl⟩)))
theorem pI_neg {a : DI} {x : Int32} (h : pI a L M x) : pI (nI1 a) L M (-x) := pI_of (wI_neg (wI_p h ⟨rfl, rfl⟩))
/-- conditions that stop where they are told -/
theorem pC_andF {a b : DC} (h : pC a L M false) : pC (andC a b) L M false := pC_of (wC_and (wC_p h ⟨fun q => absurd q (by decide), fun _ => ⟨rfl, rfl⟩⟩))
theorem pC_orT {a b : DC} (h : pC a L M true) : pC (orC a b) L M true := pC_of (wC_or (wC_p h ⟨fun _ => ⟨rfl, rfl⟩, fun q => absurd q (by decide)⟩))
theorem pC_andD {a b : DC} {x y : Bool} (h : pC a L M x) (g : x = true → pC b L M y) : pC (andC a b) L M (x && y) := by
  cases x with
  | true => exact pC_and h (g rfl)
  | false => exact pC_andF h
theorem pC_orD {a b : DC} {x y : Bool} (h : pC a L M x) (g : x = false → pC b L M y) : pC (orC a b) L M (x || y) := by
  cases x with
  | false => exact pC_or h (g rfl)
  | true => exact pC_orT h
theorem pI_tD {c : DC} {a e : DI} {b : Bool} {x y : Int32} (h : pC c L M b) (ha : b = true → pI a L M x) (he : b = false → pI e L M y) : pI (tI c a e) L M (if b = true then x else y) :=
  pI_of (wI_tI (wC_p h ⟨fun hb => wI_p (ha hb) ⟨by rw [if_pos hb], rfl⟩, fun hb => wI_p (he hb) ⟨by rw [hb]; rfl, rfl⟩⟩))
theorem pC_nz {e : DI} {b : Bool} (h : pI e L M (bz b)) : pC (kI oNe e (cI 0)) L M b := pC_eq (pC_kI h pI_cI) (bz_ne b)
theorem q_assoc {a b c : DS} (h : wS (seqS a (seqS b c)) L M Q) : wS (seqS (seqS a b) c) L M Q := by
  obtain ⟨L1, M1, k, v, h1, h2⟩ := h
  refine ⟨L1, M1, k, v, ?_, h2⟩
  rw [← h1]
  unfold seqS
  cases ha : a L M with
  | none => rfl
  | some q =>
    simp only [Option.bind_some]
    by_cases e : q.2.2.1 = 0
    · rw [if_pos e, if_pos e]
    · rw [if_neg e, if_neg e]
      simp only [Option.bind_some]
      rw [if_neg e]
theorem q_I {i : Nat} {e : DI} {v : Int32} {b : DS} (hk : kil i L = L) (h : pI e L M v) (k : wS b (L.set i (some (.int v))) M Q) : wS (seqS (setI i e) b) L M Q := wS_seq (wS_setK hk (wI_p h ⟨fun _ => k, fun q => absurd rfl q⟩))
theorem q_Iw {i : Nat} {e : DI} {b : DS} (hk : kil i L = L) (h : wI e L M fun v M1 => wS b (L.set i (some (.int v))) M1 Q) : wS (seqS (setI i e) b) L M Q := by
  obtain ⟨v, M1, h1, h2⟩ := h
  exact wS_seq (wS_setK hk ⟨v, M1, h1, fun _ => h2, fun q => absurd rfl q⟩)
theorem l_I {i : Nat} {e : DI} {v : Int32} (hk : kil i L = L) (h : pI e L M v) (k : Q (L.set i (some (.int v))) M 0 none) : wS (setI i e) L M Q := wS_setK hk (wI_p h k)
theorem q_Aw {i : Nat} {e : DA} {b : DS} (hk : kil i L = L) (h : wA e L M fun v M1 => wS b (L.set i (some (va_rf v))) M1 Q) : wS (seqS (setA i e) b) L M Q := by
  obtain ⟨v, M1, h1, h2⟩ := h
  refine wS_seq (wS_setA ⟨v, M1, h1, fun _ => ?_, fun q => absurd rfl q⟩)
  unfold stL
  rw [hk]
  exact h2
theorem q_A {i : Nat} {e : DA} {r : Option Nat} {b : DS} (hk : kil i L = L) (h : pA e L M r) (k : wS b (L.set i (some (va_rf r))) M Q) : wS (seqS (setA i e) b) L M Q := q_Aw hk (wA_p h k)
theorem q_if {c : DC} {a b : DS} {v : Bool} (h : pC c L M v) (ht : v = true → wS (seqS a b) L M Q) (hf : v = false → wS b L M Q) : wS (seqS (ifS c a nop) b) L M Q := by
  cases v with
  | true =>
    obtain ⟨L1, M1, k, w, h1, h2⟩ := ht rfl
    refine ⟨L1, M1, k, w, ?_, h2⟩
    rw [← h1]
    unfold seqS ifS
    rw [show c L M = some (true, M) from h]
    rfl
  | false =>
    obtain ⟨L1, M1, k, w, h1, h2⟩ := hf rfl
    refine ⟨L1, M1, k, w, ?_, h2⟩
    rw [← h1]
    unfold seqS ifS nop
    rw [show c L M = some (false, M) from h]
    rfl
theorem l_if {c : DC} {a b : DS} {v : Bool} (h : pC c L M v) (ht : v = true → wS a L M Q) (hf : v = false → wS b L M Q) : wS (ifS c a b) L M Q := wS_if (wC_p h ⟨ht, hf⟩)
theorem l_ret {e : DI} {v : Int32} (h : pI e L M v) (k : Q L M 3 (some (.int v))) : wS (retI e) L M Q := wS_retI (wI_p h k)
theorem q_ret {e : DI} {v : Int32} {b : DS} (h : pI e L M v) (k : Q L M 3 (some (.int v))) : wS (seqS (retI e) b) L M Q := wS_seq (wS_retI (wI_p h ⟨fun q => absurd q (by decide), fun _ => k⟩))
theorem l_retZ {e : DI} {v : Bool} (h : pI e L M (bz v)) (k : Q L M 3 (some (.int (bz v)))) : wS (retZ e) L M Q := wS_retZ (wI_p h ⟨bz_01 v, k⟩)
theorem q_retZ {e : DI} {v : Bool} {b : DS} (h : pI e L M (bz v)) (k : Q L M 3 (some (.int (bz v)))) : wS (seqS (retZ e) b) L M Q := wS_seq (wS_retZ (wI_p h ⟨bz_01 v, fun q => absurd q (by decide), fun _ => k⟩))
theorem q_retV {b : DS} (k : Q L M 3 none) : wS (seqS retV b) L M Q := wS_seq (wS_retV ⟨fun q => absurd q (by decide), fun _ => k⟩)
theorem q_cnt {b : DS} (k : Q L M 2 none) : wS (seqS cnt b) L M Q := wS_seq (wS_cnt ⟨fun q => absurd q (by decide), fun _ => k⟩)
theorem q_brk {b : DS} (k : Q L M 1 none) : wS (seqS brk b) L M Q := wS_seq (wS_brk ⟨fun q => absurd q (by decide), fun _ => k⟩)
theorem q_ex {e : DV} {b : DS} (h : wV e L M fun v M1 => v = none ∧ wS b L M1 Q) : wS (seqS (exV e) b) L M Q := by
  obtain ⟨v, M1, h1, h2, h3⟩ := h
  exact wS_seq (wS_exV ⟨v, M1, h1, h2, fun _ => h3, fun q => absurd rfl q⟩)
theorem q_exP {e : DV} {b : DS} (h : wV e L M fun v M1 => ∃ x, v = some (.int x) ∧ wS b L M1 Q) : wS (seqS (exP e) b) L M Q := by
  obtain ⟨v, M1, h1, x, h2, h3⟩ := h
  exact wS_seq (wS_exP ⟨v, M1, h1, x, h2, fun _ => h3, fun q => absurd rfl q⟩)
theorem q_scp {s : Nat} {a b : DS} (h : wS a L M fun L1 M1 c v => (c = 0 → wS b (clr s L1) M1 Q) ∧ (¬ c = 0 → Q (clr s L1) M1 c v)) : wS (seqS (scp s a) b) L M Q := wS_seq (wS_scp h)
/-- an int written into an array -/
theorem q_pa {a t n : Nat} {o : DA} {i e : DI} {j : Nat} {x : Int32} {f : Nat → Int32} {b : DS} (ho : pA o L M (some a)) (hi : pI i L M (nI j)) (he : pI e L M x) (hM : M.2.2 a = aI t n f) (h5 : 5 ≤ a) (hj : j < n) (hn : n < 2 ^ 31) (ht : t = 0 ∨ (t = 1 ∧ (x = 0 ∨ x = 1))) (k : wS b L (setC M a (aI t n (upd f j x))) Q) : wS (seqS (paI t o i e) b) L M Q :=
  wS_seq (wS_paI (wA_p ho ⟨a, rfl, wI_p hi (wI_p he ⟨ht, _, wrI_of hM h5 (inb_nI hj hn), fun _ => by rw [nI_clamp (by omega)]; exact k, fun q => absurd rfl q⟩)⟩))
theorem l_pa {a t n : Nat} {o : DA} {i e : DI} {j : Nat} {x : Int32} {f : Nat → Int32} (ho : pA o L M (some a)) (hi : pI i L M (nI j)) (he : pI e L M x) (hM : M.2.2 a = aI t n f) (h5 : 5 ≤ a) (hj : j < n) (hn : n < 2 ^ 31) (ht : t = 0 ∨ (t = 1 ∧ (x = 0 ∨ x = 1))) (k : Q L (setC M a (aI t n (upd f j x))) 0 none) : wS (paI t o i e) L M Q :=
  wS_paI (wA_p ho ⟨a, rfl, wI_p hi (wI_p he ⟨ht, _, wrI_of hM h5 (inb_nI hj hn), by rw [nI_clamp (by omega)]; exact k⟩)⟩)
/-- a field written -/
theorem q_pf {ci f a : Nat} {o : DA} {e : DI} {x : Int32} {fs : List Value} {b : DS} (ho : pA o L M (some a)) (he : pI e L M x) (hM : M.2.2 a = .inr (ci, fs)) (hf : f < fs.length) (k : wS b L (setC M a (.inr (ci, fs.set f (.int x)))) Q) : wS (seqS (pfI ci f o e) b) L M Q :=
  wS_seq (wS_pfI (wA_p ho ⟨a, rfl, wI_p he ⟨_, wrF_of hM hf, fun _ => k, fun q => absurd rfl q⟩⟩))
theorem q_up {ci f a : Nat} {o : DA} {e : DI} {x y : Int32} {fs : List Value} {b : DS} (ho : pA o L M (some a)) (he : pI e L M y) (hM : M.2.2 a = .inr (ci, fs)) (hx : fs[f]? = some (.int x)) (hf : f < fs.length) (k : wS b L (setC M a (.inr (ci, fs.set f (.int (x + y))))) Q) : wS (seqS (upF ci f o oAdd e) b) L M Q :=
  wS_seq (wS_upAdd (wA_p ho ⟨a, _, x, rfl, rdF_of hM hx, rfl, wI_p he ⟨_, wrF_of hM hf, fun _ => k, fun q => absurd rfl q⟩⟩))
theorem l_up {ci f a : Nat} {o : DA} {e : DI} {x y : Int32} {fs : List Value} (ho : pA o L M (some a)) (he : pI e L M y) (hM : M.2.2 a = .inr (ci, fs)) (hx : fs[f]? = some (.int x)) (hf : f < fs.length) (k : Q L (setC M a (.inr (ci, fs.set f (.int (x + y))))) 0 none) : wS (upF ci f o oAdd e) L M Q :=
  wS_upAdd (wA_p ho ⟨a, _, x, rfl, rdF_of hM hx, rfl, wI_p he ⟨_, wrF_of hM hf, k⟩⟩)
theorem q_dn {ci f a : Nat} {o : DA} {e : DI} {x y : Int32} {fs : List Value} {b : DS} (ho : pA o L M (some a)) (he : pI e L M y) (hM : M.2.2 a = .inr (ci, fs)) (hx : fs[f]? = some (.int x)) (hf : f < fs.length) (k : wS b L (setC M a (.inr (ci, fs.set f (.int (x - y))))) Q) : wS (seqS (upF ci f o oSub e) b) L M Q :=
  wS_seq (wS_upSub (wA_p ho ⟨a, _, x, rfl, rdF_of hM hx, rfl, wI_p he ⟨_, wrF_of hM hf, fun _ => k, fun q => absurd rfl q⟩⟩))
theorem l_dn {ci f a : Nat} {o : DA} {e : DI} {x y : Int32} {fs : List Value} (ho : pA o L M (some a)) (he : pI e L M y) (hM : M.2.2 a = .inr (ci, fs)) (hx : fs[f]? = some (.int x)) (hf : f < fs.length) (k : Q L (setC M a (.inr (ci, fs.set f (.int (x - y))))) 0 none) : wS (upF ci f o oSub e) L M Q :=
  wS_upSub (wA_p ho ⟨a, _, x, rfl, rdF_of hM hx, rfl, wI_p he ⟨_, wrF_of hM hf, k⟩⟩)
theorem q_inc {i : Nat} {n x : Int32} {b : DS} (hk : kil i L = L) (h : lkp L i = some (.int x)) (k : wS b (L.set i (some (.int (x + n)))) M Q) : wS (seqS (incI i n) b) L M Q := by
  refine wS_seq (wS_inc h rfl ⟨fun _ => ?_, fun q => absurd rfl q⟩)
  unfold stL
  rw [hk]
  exact k
theorem l_inc {i : Nat} {n x : Int32} (hk : kil i L = L) (h : lkp L i = some (.int x)) (k : Q (L.set i (some (.int (x + n)))) M 0 none) : wS (incI i n) L M Q := by
  refine wS_inc h rfl ?_
  unfold stL
  rw [hk]
  exact k
/-- what a loop's body comes to: it returns, or round j + 1 can begin -/
abbrev bdQ (i s j : Nat) (J : Nat → Lv → Mm → Prop) (Q : Lv → Mm → Nat → Option Value → Prop) : Lv → Mm → Nat → Option Value → Prop := fun L2 M2 c v => (c = 3 ∧ Q (clr s L2) M2 3 v) ∨ (¬ c = 3 ∧ ¬ c = 1 ∧ lkp L2 i = some (.int (nI j)) ∧ kil i L2 = L2 ∧ J (j + 1) (L2.set i (some (.int (nI (j + 1))))) M2)
theorem q_for {i s a : Nat} {j0 n : Int32} {body b : DS} (N : Nat) (J : Nat → Lv → Mm → Prop) (hk : kil i L = L) (ha : j0 = nI a) (hn : n = nI N) (hN : N < big) (haN : a ≤ N) (h0 : J a (L.set i (some (.int (nI a)))) M) (hi : ∀ j L M, J j L M → lkp L i = some (.int (nI j)))
    (hb : ∀ j L M, j < N → J j L M → wS body L M (bdQ i s j J Q)) (he : ∀ L M, J N L M → wS b (clr s L) M Q) : wS (seqS (scp s (seqS (setI i (cI j0)) (whS (kI oLt (lI i) (cI n)) body (incI i 1)))) b) L M Q := by
  subst ha
  refine q_scp (q_I hk pI_cI (wS_for N hn hN J hi (fun j L M hj hJ => ?_) (fun L M hJ => ⟨fun _ => he L M hJ, fun q => absurd rfl q⟩) haN h0))
  refine (hb j L M hj hJ).mono fun L2 M2 c v h => ?_
  rcases h with ⟨rfl, h⟩ | ⟨h3, h1, h4, h5, h6⟩
  · exact ⟨fun q => absurd q (by decide), fun _ => ⟨fun q => absurd q (by decide), fun _ => h⟩, fun _ q => absurd rfl q⟩
  · refine ⟨fun q => absurd q h1, fun q => absurd q h3, fun _ _ => ⟨h4, ?_⟩⟩
    unfold stL
    rw [h5]
    exact h6
/-- the same, the loop being the last of a body -/
theorem l_for {i s a : Nat} {j0 n : Int32} {body : DS} (N : Nat) (J : Nat → Lv → Mm → Prop) (hk : kil i L = L) (ha : j0 = nI a) (hn : n = nI N) (hN : N < big) (haN : a ≤ N) (h0 : J a (L.set i (some (.int (nI a)))) M) (hi : ∀ j L M, J j L M → lkp L i = some (.int (nI j)))
    (hb : ∀ j L M, j < N → J j L M → wS body L M (bdQ i s j J Q)) (he : ∀ L M, J N L M → Q (clr s L) M 0 none) : wS (scp s (seqS (setI i (cI j0)) (whS (kI oLt (lI i) (cI n)) body (incI i 1)))) L M Q := by
  subst ha
  refine wS_scp (q_I hk pI_cI (wS_for N hn hN J hi (fun j L M hj hJ => ?_) (fun L M hJ => he L M hJ) haN h0))
  refine (hb j L M hj hJ).mono fun L2 M2 c v h => ?_
  rcases h with ⟨rfl, h⟩ | ⟨h3, h1, h4, h5, h6⟩
  · exact ⟨fun q => absurd q (by decide), fun _ => h, fun _ q => absurd rfl q⟩
  · refine ⟨fun q => absurd q h1, fun q => absurd q h3, fun _ _ => ⟨h4, ?_⟩⟩
    unfold stL
    rw [h5]
    exact h6
theorem l_scp {s : Nat} {a : DS} (h : wS a L M fun L1 M1 c v => Q (clr s L1) M1 c v) : wS (scp s a) L M Q := wS_scp h
/-- a method: its body from its arguments -/
theorem wF_b {n : Nat} {b : DS} {as : List Value} {Q : Option Value → Mm → Prop} (h1 : cat1 as = true) (h2 : as.length ≤ n) (h : wS b (mkL n as) M fun _ M1 c v => c = 3 ∧ Q v M1) : wF (runM n b) as M Q := wF_run ⟨h1, h2, h⟩
theorem wI_vVw {ci a : Nat} {f : FN} {r : DR} {vs fs : List Value} {P : Int32 → Mm → Prop} (h : pR r L M (.ref a :: vs)) (hM : M.2.2 a = .inr (ci, fs)) (hf : wF f (.ref a :: vs) M fun v M1 => ∃ x, v = some (.int x) ∧ P x M1) : wI (vI (ivV ci f r)) L M P := wI_vI (wV_V ⟨_, M, h, isR_of hM, hf⟩)
theorem wA_vVw {ci a : Nat} {f : FN} {r : DR} {vs fs : List Value} {P : Option Nat → Mm → Prop} (h : pR r L M (.ref a :: vs)) (hM : M.2.2 a = .inr (ci, fs)) (hf : wF f (.ref a :: vs) M fun v M1 => ∃ w x, v = some w ∧ asA w = some x ∧ P x M1) : wA (vA (ivV ci f r)) L M P := wA_vA (wV_V ⟨_, M, h, isR_of hM, hf⟩)
theorem wV_Vw {ci a : Nat} {f : FN} {r : DR} {vs fs : List Value} {P : Option Value → Mm → Prop} (h : pR r L M (.ref a :: vs)) (hM : M.2.2 a = .inr (ci, fs)) (hf : wF f (.ref a :: vs) M P) : wV (ivV ci f r) L M P := wV_V ⟨_, M, h, isR_of hM, hf⟩
end Q
