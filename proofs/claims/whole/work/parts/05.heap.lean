/-! ROWS of the small machine that read and write the heap -/
section PTheap
variable {G : GT} {I : MI} {pc : Nat} {L : Lv} {st : List Value} {M : Mm}
theorem ve_i (X : GF) (cA : ClassId) (n : Nat) (f : Nat → Int32) : vp_cell cA (upA X (n, .inl f)) = arrV cA n (fun j => .int (f j)) := rfl
theorem ve_q (X : GF) (cA : ClassId) (n : Nat) (f : Nat → Option Nat) : vp_cell cA (upA X (n, .inr (.inr (.inr (.inr f))))) = arrV cA n (fun j => va_rf ((f j).map (adr X))) := rfl
theorem upC_o (X : GF) (ci : Nat) (fs : List Value) : upC X (.inr (ci, fs)) = .inr (ci, fs.map (up X)) := rfl
theorem put_at {X : GF} {a ci k N : Nat} {fs : List Value} {v : Value} {Cn : String} {T : u_T} {cell : Cell} {H1 : Heap} (hc : vwCl[ci]? = some (Cn, T, N)) (hk : k < N) (hl : k < fs.length)
    (hap : ∀ x y, x < N → y < N → x ≠ y → (X.1.2 ci) x ≠ (X.1.2 ci) y) (q2 : cell.cls = X.1.1 ci) (q3 : cell.vm = .none) (q4 : ∀ j, j < N → cell.slots[(X.1.2 ci) j]? = some (vp_V (fs.map (up X)) j)) (e1 : H1[adr X a]? = some (cell.setSlot ((X.1.2 ci) k) (up X v))) : va_at X.1 vwCl (adr X a, upC X (.inr (ci, fs.set k v))) H1 := by
  refine ⟨_, hc, t_OB.to (V := updV (vp_V (fs.map (up X))) k (up X v)) ⟨_, e1, q2, q3, t_set q4 hap hk _⟩ (fun j _ => ?_)⟩
  rw [vp_updV_set (by rw [List.length_map]; exact hl), List.map_set]
theorem pt_put (C : CX G I) {a ci k index N : Nat} {fs : List Value} {v : Value} {Cn : String} {T : u_T} {ty : FieldType} (hM : M.2.2 a = .inr (ci, fs)) (hl : k < fs.length) (hc : vwCl[ci]? = some (Cn, T, N)) (hk : k < N) (hin : ∀ w ∈ u_ws Cn T N, w ∈ TG)
    (ty0 : Nat → FieldType) (hty : ∀ k, k < N → parseFieldDescriptor (T k).2.2.1 = some (ty0 k)) (hnm : ∀ a, a < N → ∀ b, b < N → a ≠ b → (T a).2.1 ≠ (T b).2.1) (hw : Cond.fieldLink I.2.1 index (T k).1 (T k).2.1 (T k).2.2.1 ∈ TG) (hfin : (T k).2.2.2 = false)
    (hty1 : parseFieldDescriptor (T k).2.2.1 = some ty) (hn : ∀ X : GF, narrow ty (up X v) = up X v ∧ fits ty (up X v) = true)
    (hd : decode I.1 pc = .ok (.putfield index, 3)) (kk : PT G (pc + 3) L st (setC M a (.inr (ci, fs.set k v)))) : PT G pc L (v :: .ref a :: st) M := by
  intro ls H locs hl0 hR hS
  obtain ⟨h5, hlt⟩ := hR.ltO hM hc
  have hap := va_apart (own := I.2.1) C.2.2.2.2.1 hin ty0 hty hnm hR.K hc
  obtain ⟨r, h1, cell, q1, q2, q3, q4⟩ := hR.at hM (tel_o hc) h5 hlt
  have hr : r = (Cn, T, N) := Option.some.inj (h1.symm.trans hc)
  subst hr
  obtain ⟨hSl, hfc, kC, hkC, hkind⟩ := hR.K.1 ci _ hc
  obtain ⟨cf, kf, fi, f, hi, hsl⟩ := hSl k hk
  have hlay := C.2.2.2.2.1 _ (hin _ (u_in_lay hk))
  unfold u_lay at hlay
  rw [if_neg (by rw [hfin]; decide)] at hlay
  have hst := (u_facts hfc hkC (u_lays C.2.2.2.2.1 hin hk) hi).1
  have h6 := u_store hfc hkC hkind hlay hi hty1 (hn (gX G)).1 (hn (gX G)).2
  refine W.putK C.1 C.2.1 (f := f) ⟨C.2.2.1, C.2.2.2.2.1 _ hw, ⟨_, _, _, hi⟩, hst⟩ (by rw [q2]; exact h6) q1 q3 (by rw [hsl]; exact k2_hasslot (q4 k hk)) rfl rfl hd fun H' e1 e2 e3 => ?_
  rw [hsl] at e1 ⊢
  exact kk ls H' _ hl0 (hR.set h5 hlt e2 (Or.inr (put_at hc hk hl hap q2 q3 q4 e1)) e3) (hS.put5 h5 e2 e3)
theorem pt_putF (C : CX G I) {a ci k index N : Nat} {fs : List Value} {v : Value} {Cn : String} {T : u_T} {ty : FieldType} (hM : M.2.2 a = .inr (ci, fs)) (hl : k < fs.length) (hc : vwCl[ci]? = some (Cn, T, N)) (hk : k < N) (hin : ∀ w ∈ u_ws Cn T N, w ∈ TG)
    (ty0 : Nat → FieldType) (hty : ∀ k, k < N → parseFieldDescriptor (T k).2.2.1 = some (ty0 k)) (hnm : ∀ a, a < N → ∀ b, b < N → a ≠ b → (T a).2.1 ≠ (T b).2.1) (hw : Cond.fieldLink I.2.1 index (T k).1 (T k).2.1 (T k).2.2.1 ∈ TG) (hfin : (T k).2.2.2 = true) (hin2 : I.2.2.2.2.2.1 = "<init>") (hdecl : (T k).1 = I.2.1)
    (hty1 : parseFieldDescriptor (T k).2.2.1 = some ty) (hn : ∀ X : GF, narrow ty (up X v) = up X v ∧ fits ty (up X v) = true)
    (hd : decode I.1 pc = .ok (.putfield index, 3)) (kk : PT G (pc + 3) L st (setC M a (.inr (ci, fs.set k v)))) : PT G pc L (v :: .ref a :: st) M := by
  intro ls H locs hl0 hR hS
  obtain ⟨h5, hlt⟩ := hR.ltO hM hc
  have hap := va_apart (own := I.2.1) C.2.2.2.2.1 hin ty0 hty hnm hR.K hc
  obtain ⟨r, h1, cell, q1, q2, q3, q4⟩ := hR.at hM (tel_o hc) h5 hlt
  have hr : r = (Cn, T, N) := Option.some.inj (h1.symm.trans hc)
  subst hr
  obtain ⟨hSl, hfc, kC, hkC, hkind⟩ := hR.K.1 ci _ hc
  obtain ⟨cf, kf, fi, f, hi, hsl⟩ := hSl k hk
  have hlay := C.2.2.2.2.1 _ (hin _ (u_in_lay hk))
  unfold u_lay at hlay
  rw [if_pos hfin] at hlay
  have hst := (u_facts hfc hkC (u_lays C.2.2.2.2.1 hin hk) hi).1
  have hcf : (gm G).cls = cf := by
    obtain ⟨_, _, c', _, _, _, -, -, hf', -, -, -, hown2, -⟩ := Cond.laysFinal_spec hlay
    have e1 : c' = cf := by have := hi.symm.trans hf'; simp at this; exact this.1.symm
    rw [hdecl] at hown2
    rw [← e1]; exact Option.some.inj (C.2.2.1.symm.trans hown2)
  have h6 := u_fits hfc hkC hkind (Or.inr hlay) hi hty1 (hn (gX G)).1 (hn (gX G)).2
  refine W.putFinK C.1 C.2.1 C.2.2.1 (C.2.2.2.2.1 _ hw) hi hst hcf (C.2.2.2.2.2.2.2.1 hin2) (by rw [q2]; exact h6) q1 q3 (by rw [hsl]; exact k2_hasslot (q4 k hk)) rfl rfl hd fun H' e1 e2 e3 => ?_
  rw [hsl] at e1 ⊢
  exact kk ls H' _ hl0 (hR.set h5 hlt e2 (Or.inr (put_at hc hk hl hap q2 q3 q4 e1)) e3) (hS.put5 h5 e2 e3)
theorem pt_gets (C : CX G I) {i index : Nat} {Cn nm : String} (hq : (Cn, nm, i) ∈ STN) (hw : Cond.fieldLink I.2.1 index Cn nm "[I" ∈ TG) (hd : decode I.1 pc = .ok (.getstatic index, 3)) (kk : PT G (pc + 3) L (.ref i :: st) M) : PT G pc L st M := by
  intro ls H locs hl hR hS
  obtain ⟨cf, kf, fi, f, a, cell, h1, h2, h3, h4, h5, h6, h7, h8⟩ := hR.2.2.2.2.2.1 _ hq
  exact W.gets C.1 C.2.1 C.2.2.1 (C.2.2.2.2.1 _ hw) h1 h2 h3 h4 h5 (fun e => by rw [e] at h6; cases h6) h7 rfl hd (kk ls H locs hl hR hS)
theorem pt_iald (C : CX G I) {a n : Nat} {f : Nat → Int32} {i : Int32} (hM : M.2.2 a = .inl (0, n, .inl f)) (hin : vp_in i n) (hd : decode I.1 pc = .ok (.iaload, 1)) (kk : PT G (pc + 1) L (.int (f i.toNatClampNeg) :: st) M) : PT G pc L (.int i :: .ref a :: st) M := by
  intro ls H locs hl hR hS
  rcases Nat.lt_or_ge a 5 with q | q
  · obtain ⟨n', f', e1, e2, cell, c1, c2, c3, c4, c5, c6, c7⟩ := hR.2.2.2.2.1 a q
    rw [hM] at e1
    cases e1
    have hlt : i.toNatClampNeg < n := Nat.not_le.mp fun z => hin (Or.inr z)
    exact W.iald C.1 C.2.1 c1 c2 c3 (fun z => z.elim (fun z => hin (Or.inl z)) (fun z => by omega)) (c6 _ hlt) rfl rfl hd (kk ls H locs hl hR hS)
  · exact va_iald C.1 C.2.1 hR.K (hR.P hM rfl q (hR.ltA hM)) 0 0 rfl (TYS_at (gX G) (t := 0) (by decide)) hin hd (kk ls H locs hl hR hS)
theorem pt_zald (C : CX G I) {a n : Nat} {f : Nat → Int32} {i : Int32} (hM : M.2.2 a = .inl (1, n, .inl f)) (hin : vp_in i n) (hd : decode I.1 pc = .ok (.baload, 1)) (kk : PT G (pc + 1) L (.int (f i.toNatClampNeg) :: st) M) : PT G pc L (.int i :: .ref a :: st) M := by
  intro ls H locs hl hR hS
  rcases Nat.lt_or_ge a 5 with q | q
  · obtain ⟨n', f', e1, -⟩ := hR.2.2.2.2.1 a q
    rw [hM] at e1
    cases e1
  · exact va_zald C.1 C.2.1 hR.K (hR.P hM rfl q (hR.ltA hM)) 0 1 rfl (TYS_at (gX G) (t := 1) (by decide)) hin hd (kk ls H locs hl hR hS)
theorem pt_lald (C : CX G I) {a n : Nat} {f : Nat → Int64} {i : Int32} (hM : M.2.2 a = .inl (2, n, .inr (.inl f))) (hin : vp_in i n) (hd : decode I.1 pc = .ok (.laload, 1)) (kk : PT G (pc + 1) L (.long (f i.toNatClampNeg) :: st) M) : PT G pc L (.int i :: .ref a :: st) M := by
  intro ls H locs hl hR hS
  rcases Nat.lt_or_ge a 5 with q | q
  · obtain ⟨n', f', e1, -⟩ := hR.2.2.2.2.1 a q
    rw [hM] at e1
    cases e1
  · exact va_lald C.1 C.2.1 hR.K (hR.P hM rfl q (hR.ltA hM)) 0 2 rfl (TYS_at (gX G) (t := 2) (by decide)) hin hd (kk ls H locs hl hR hS)
theorem pt_aald (C : CX G I) {a n t : Nat} {f : Nat → Option Nat} {i : Int32} (hM : M.2.2 a = .inl (t, n, .inr (.inr (.inr (.inr f))))) (ht : 3 ≤ t ∧ t ≤ 5) (hin : vp_in i n) (hd : decode I.1 pc = .ok (.aaload, 1)) (kk : PT G (pc + 1) L (va_rf (f i.toNatClampNeg) :: st) M) : PT G pc L (.int i :: .ref a :: st) M := by
  intro ls H locs hl hR hS
  rcases Nat.lt_or_ge a 5 with q | q
  · obtain ⟨n', f', e1, -⟩ := hR.2.2.2.2.1 a q
    rw [hM] at e1
    cases e1
  · have k1 := kk ls H locs hl hR hS
    rw [List.map_cons, up_rf] at k1
    obtain ⟨Cn, hCn⟩ : ∃ Cn, atT t = .object Cn := by
      rcases (show t = 3 ∨ t = 4 ∨ t = 5 by omega) with rfl | rfl | rfl <;> exact ⟨_, rfl⟩
    have ht1 := TYS_at (gX G) (t := t) ht.2
    rw [hCn] at ht1
    exact va_aldq C.1 C.2.1 hR.K (hR.P hM rfl q (hR.ltA hM)) 0 t rfl ht1 hin hd k1
theorem pt_alen (C : CX G I) {a n t : Nat} {x : vp_A} {v : Int32} (hM : M.2.2 a = .inl (t, x)) (ht : t ≤ 5) (hx : x.1 = n) (hv : Int32.ofNat n = v) (hd : decode I.1 pc = .ok (.arraylength, 1)) (kk : PT G (pc + 1) L (.int v :: st) M) : PT G pc L (.ref a :: st) M := by
  intro ls H locs hl hR hS
  rcases Nat.lt_or_ge a 5 with q | q
  · obtain ⟨n', f', e1, e2, cell, c1, c2, c3, c4, c5, c6, c7⟩ := hR.2.2.2.2.1 a q
    rw [hM] at e1
    cases e1
    exact W.alen C.1 C.2.1 c1 c2 (by rw [c5, ← hv, ← hx]) rfl rfl hd (kk ls H locs hl hR hS)
  · refine va_alen C.1 C.2.1 hR.K (hR.P hM rfl q (hR.ltA hM)) 0 t (x := upA (gX G) x) rfl (TYS_at (gX G) ht) (v := v) ?_ hd (kk ls H locs hl hR hS)
    show Int32.ofNat x.1 = v
    rw [hx]
    exact hv
theorem pt_iast (C : CX G I) {a n : Nat} {f : Nat → Int32} {i x : Int32} (hM : M.2.2 a = .inl (0, n, .inl f)) (h5 : 5 ≤ a) (hin : vp_in i n) (hd : decode I.1 pc = .ok (.iastore, 1)) (kk : PT G (pc + 1) L st (setC M a (.inl (0, n, .inl (upd f i.toNatClampNeg x))))) : PT G pc L (.int x :: .int i :: .ref a :: st) M := by
  intro ls H locs hl hR hS
  have hlt := hR.ltA hM
  have hat := hR.at hM rfl h5 hlt
  refine W.iast C.1 C.2.1 hat ((hR.K.2 0 _ (TYS_at (gX G) (t := 0) (by decide))).1 n (fun j => .int (f j))) (fun q => by cases q) (by show ¬ (i < 0 ∨ (arrV _ _ _).slots.size ≤ _); rw [arrV_size]; exact hin) rfl rfl hd fun H1 e z oq => ?_
  refine kk ls H1 _ hl (hR.set h5 hlt z (Or.inr ?_) oq) (hS.put5 h5 z oq)
  show H1[adr (gX G) a]? = some (vp_cell _ (upA (gX G) _))
  rw [e]
  show some ((vp_cell _ (upA (gX G) _)).setSlot _ _) = some (vp_cell _ (upA (gX G) _))
  rw [ve_i, ve_i, arrV_store]
  congr 2
  funext q
  by_cases hq : q = i.toNatClampNeg
  · subst hq
    simp [updV, upd]
  · simp [updV, upd, hq]
theorem pt_zast (C : CX G I) {a n : Nat} {f : Nat → Int32} {i x : Int32} (hM : M.2.2 a = .inl (1, n, .inl f)) (h5 : 5 ≤ a) (hin : vp_in i n) (hx : x = 0 ∨ x = 1) (hd : decode I.1 pc = .ok (.bastore, 1)) (kk : PT G (pc + 1) L st (setC M a (.inl (1, n, .inl (upd f i.toNatClampNeg x))))) : PT G pc L (.int x :: .int i :: .ref a :: st) M := by
  intro ls H locs hl hR hS
  have hlt := hR.ltA hM
  have hat := hR.at hM rfl h5 hlt
  refine W.zast C.1 C.2.1 hat ((hR.K.2 1 _ (TYS_at (gX G) (t := 1) (by decide))).1 n (fun j => .int (f j))) (fun q => by cases q) (by show ¬ (i < 0 ∨ (arrV _ _ _).slots.size ≤ _); rw [arrV_size]; exact hin) rfl rfl hd fun H1 e z oq => ?_
  refine kk ls H1 _ hl (hR.set h5 hlt z (Or.inr ?_) oq) (hS.put5 h5 z oq)
  have hnb : narrow .boolean (.int x) = .int x := by rcases hx with rfl | rfl <;> rfl
  rw [hnb] at e
  show H1[adr (gX G) a]? = some (vp_cell _ (upA (gX G) _))
  rw [e]
  show some ((vp_cell _ (upA (gX G) _)).setSlot _ _) = some (vp_cell _ (upA (gX G) _))
  rw [ve_i, ve_i, arrV_store]
  congr 2
  funext q
  by_cases hq : q = i.toNatClampNeg
  · subst hq
    simp [updV, upd]
  · simp [updV, upd, hq]
/-- the class whose references an array type of a tag holds: its number in vwCl -/
def atC (t : Nat) : Nat := match t with
  | 3 => 9
  | 4 => 4
  | _ => 7
theorem atC_ok {t : Nat} (h : 3 ≤ t ∧ t ≤ 5) : ∃ r : vw_C, vwCl[atC t]? = some r ∧ atT t = .object r.1 := by
  rcases (show t = 3 ∨ t = 4 ∨ t = 5 by omega) with rfl | rfl | rfl <;> exact ⟨_, rfl, rfl⟩
theorem pt_aast (C : CX G I) {a n t : Nat} {f : Nat → Option Nat} {i : Int32} {r : Option Nat} (hM : M.2.2 a = .inl (t, n, .inr (.inr (.inr (.inr f))))) (ht : 3 ≤ t ∧ t ≤ 5) (h5 : 5 ≤ a) (hin : vp_in i n) (hr : ∀ b, r = some b → ∃ fs, M.2.2 b = .inr (atC t, fs)) (hd : decode I.1 pc = .ok (.aastore, 1)) (kk : PT G (pc + 1) L st (setC M a (.inl (t, n, .inr (.inr (.inr (.inr (va_up f i.toNatClampNeg r)))))))) : PT G pc L (va_rf r :: .int i :: .ref a :: st) M := by
  intro ls H locs hl hR hS
  have hlt := hR.ltA hM
  have hat := hR.at hM rfl h5 hlt
  have hin' := hin
  obtain ⟨rc, hrc, hrt⟩ := atC_ok ht
  have ht1 := hR.K.2 t _ (TYS_at (gX G) ht.2)
  rw [hrt] at ht1
  have fin : ∀ H1 : Heap, H1[adr (gX G) a]? = some ((vp_cell ((gX G).2.1 t) (upA (gX G) (n, .inr (.inr (.inr (.inr f)))))).setSlot i.toNatClampNeg (up (gX G) (va_rf r))) → va_at (gX G).1 vwCl (adr (gX G) a, upC (gX G) (.inl (t, n, .inr (.inr (.inr (.inr (va_up f i.toNatClampNeg r))))))) H1 := by
    intro H1 e
    show H1[adr (gX G) a]? = some (vp_cell _ (upA (gX G) _))
    rw [e, ve_q, ve_q, arrV_store]
    congr 2
    funext q
    by_cases hq : q = i.toNatClampNeg
    · subst hq
      simp [updV, va_up, up_rf]
    · simp [updV, va_up, hq]
  cases r with
  | none =>
    refine va_WaastN (C := rc.1) C.1 C.2.1 hat (ht1.1 n (fun j => va_rf ((f j).map (adr (gX G))))) (fun h => by cases h) (by show ¬ (i < 0 ∨ (arrV _ _ _).slots.size ≤ _); rw [arrV_size]; exact hin) rfl rfl hd fun H1 e z oq => ?_
    exact kk ls H1 _ hl (hR.set h5 hlt z (Or.inr (fin H1 e)) oq) (hS.put5 h5 z oq)
  | some b =>
    obtain ⟨fs, hb⟩ := hr b rfl
    obtain ⟨hb5, hbl⟩ := hR.ltO hb hrc
    obtain ⟨r', hr', cellV, g1, g2, g3, -⟩ := hR.at hb (tel_o hrc) hb5 hbl
    have hcls := (hR.K.1 (atC t) rc hrc).2
    obtain ⟨kA, comp, k1, k2, k3, -⟩ := ht1.2
    have hcomp : comp = (gX G).1.1 (atC t) := Option.some.inj (k3.symm.trans hcls.1)
    subst hcomp
    obtain ⟨kC, hkC, -⟩ := hcls.2
    have hlt2 : i.toNatClampNeg < n := Nat.not_le.mp fun q => hin (Or.inr q)
    have h0 : ¬ i < 0 := fun q => hin (Or.inl q)
    refine W.aast C.1 C.2.1 hat (fun q h => by cases h) (fun h => by cases h) k1 k2 rfl hkC ⟨h0, by show _ < (arrV _ _ _).slots.size; rw [arrV_size]; exact hlt2⟩ g1 (fun q h => by rw [g3] at h; cases h) (by rw [g2]; exact hkC) (by rw [g2]; exact va_assign hcls) rfl rfl hd fun H1 e z oq => ?_
    exact kk ls H1 _ hl (hR.set h5 hlt z (Or.inr (fin H1 e)) oq) (hS.put5 h5 z oq)
theorem pt_acmp (C : CX G I) {r q : Option Nat} {off : Int} {tgt : Nat} (hi : ∀ X : GF, ∀ a b, r = some a → q = some b → adr X a = adr X b → a = b) (hd : decode I.1 pc = .ok (.if_acmp .ne off, 3)) (ht : (pc : Int) + off = (tgt : Int)) (kt : ¬ r = q → PT G tgt L st M) (kf : r = q → PT G (pc + 3) L st M) : PT G pc L (va_rf q :: va_rf r :: st) M := by
  intro ls H locs hl hR hS
  rw [List.map_cons, List.map_cons, up_rf, up_rf]
  refine lv_acmp_ne C.1 C.2.1 hd ht (fun h => kt (fun e => h (by rw [e])) ls H locs hl hR hS) (fun h => kf ?_ ls H locs hl hR hS)
  cases r with
  | none =>
    cases q with
    | none => rfl
    | some b => cases h
  | some a =>
    cases q with
    | none => cases h
    | some b => rw [hi (gX G) a b rfl rfl (Option.some.inj h)]
theorem adr_inj (X : GF) {a b : Nat} (ha : 5 ≤ a) (hb : 5 ≤ b) (h : adr X a = adr X b) : a = b := by
  rw [adr_hi X ha, adr_hi X hb] at h
  omega
end PTheap
