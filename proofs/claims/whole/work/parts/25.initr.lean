/-! the reference's own constructor -/
theorem gU_gU {b : Nat} {x y : MC} {g : Nat → MC} : gU b x (gU b y g) = gU b x g := by
  funext c
  unfold gU
  by_cases e : c = b <;> simp [e]
section WPI3
variable {L : Lv} {M M0 : Mm}
/-- a loop that fills an array of ints -/
theorem wS_fillI {a ci K A N n z : Nat} {m v : Int32} {fs : List Value} {f : Nat → Int32} {g : Nat → MC} {Q : Lv → Mm → Nat → Option Value → Prop} (hm : m = nI N) (hN : N < big) (hA : M0.1 ≤ A) (hA2 : A < n) (h5 : 5 ≤ A) (h0 : HL M0 a (.inr (ci, fs)) g n z M) (hK : fs[K]? = some (.ref A)) (hg : g A = aI 0 N f)
    (kk : ∀ M', HL M0 a (.inr (ci, fs)) (gU A (aI 0 N (fun i => if i < N then v else f i)) g) n z M' → Q [some (.ref a), some (.int (nI N))] M' 0 none) :
    wS (whS (kI oLt (lI 1) (cI m)) (paI 0 (fA ci K (lA 0)) (lI 1) (cI v)) (incI 1 1)) [some (.ref a), some (.int 0)] M Q := by
  have hb31 : N < 2 ^ 31 := by have : big < 2 ^ 31 := by decide
                               omega
  refine wS_for N hm hN (fun j L M => L = [some (.ref a), some (.int (nI j))] ∧ HL M0 a (.inr (ci, fs)) (gU A (aI 0 N (fun i => if i < j then v else f i)) g) n z M) ?_ ?_ ?_ (j := 0) (Nat.zero_le _) ⟨rfl, ?_⟩
  · rintro j L M ⟨rfl, -⟩
    rfl
  · rintro j L M hj ⟨rfl, h⟩
    have hM : M.2.2 A = aI 0 N (fun i => if i < j then v else f i) := (h.at hA hA2).trans gU_at
    refine wS_paI (wA_fA (wA_lA rfl rfl ⟨a, _, some A, rfl, rdF_of h.2.2.1 hK, rfl, A, rfl, wI_lI rfl rfl (wI_cI ⟨Or.inl rfl, _, wrI_of hM h5 (inb_nI hj hb31), fun q => absurd q (by decide), fun q => absurd q (by decide), fun _ _ => ⟨rfl, rfl, ?_⟩⟩)⟩))
    have h9 := h.upd (y := aI 0 N (upd (fun i => if i < j then v else f i) (nI j).toNatClampNeg v)) hA
    rw [gU_gU, nI_clamp (by omega)] at h9
    have e : upd (fun i => if i < j then v else f i) j v = fun i => if i < j + 1 then v else f i := by
      funext i
      unfold upd
      by_cases e : i = j
      · subst e
        rw [if_pos rfl, if_pos (by omega)]
      · rw [if_neg e]
        by_cases e3 : i < j
        · show (if i < j then v else f i) = _
          rw [if_pos e3, if_pos (by omega)]
        · show (if i < j then v else f i) = _
          rw [if_neg e3, if_neg (by omega)]
    rw [e] at h9
    rw [nI_clamp (by omega), e]
    exact h9
  · rintro L M ⟨rfl, h⟩
    exact kk M h
  · have e : gU A (aI 0 N (fun i => if i < 0 then v else f i)) g = g := by
      funext c
      unfold gU
      by_cases e : c = A
      · rw [if_pos e, e, hg]
        refine congrArg (fun q => aI 0 N q) ?_
        funext i
        exact if_neg (Nat.not_lt_zero _)
      · rw [if_neg e]
    rw [e]
    exact h0
end WPI3
abbrev fsR : List Value := [.int 0, .int 0, .ref 70, .ref 71, .ref 72, .ref 73, .ref 74, .ref 75, .ref 76, .ref 77, .ref 78, .ref 79, .ref 80, .int 0, .int 0, .ref 81, .ref 82, .ref 83, .ref 84, .ref 85, .ref 86, .ref 87, .ref 88, .ref 89, .int 0, .ref 90, .int 0, .ref 91, .ref 92, .ref 93, .ref 94, .ref 95, .int 0]
/-- the reference as it is at first -/
def R0 (M : Mm) : Prop := M.2.2 69 = .inr (11, fsR) ∧ M.2.2 70 = (aI 0 31 fun _ => 0) ∧ M.2.2 71 = (aI 0 31 fun _ => 0) ∧ M.2.2 72 = (aI 0 31 fun _ => 0) ∧ M.2.2 73 = (aI 0 31 fun _ => 0) ∧ M.2.2 74 = (aI 1 31 fun _ => 0) ∧ M.2.2 75 = (aI 0 160 fun i => if i < 160 then -1 else 0) ∧ M.2.2 76 = (aI 1 12 fun _ => 0) ∧ M.2.2 77 = (aI 0 1700 fun i => if i < 1700 then -1 else 0) ∧ M.2.2 78 = (aI 0 1710 fun _ => 0) ∧ M.2.2 79 = (aI 0 17100 fun _ => 0) ∧ M.2.2 80 = (aI 0 17100 fun _ => 0) ∧ M.2.2 81 = (aI 1 1710 fun _ => 0) ∧ M.2.2 82 = (aI 1 170 fun _ => 0) ∧ M.2.2 83 = (aI 0 3 fun _ => 0) ∧ M.2.2 84 = (aI 0 3 fun i => if i < 3 then 9 else 0) ∧ M.2.2 85 = (aI 0 1000 fun _ => 0) ∧ M.2.2 86 = (aI 0 1000 fun _ => 0) ∧ M.2.2 87 = (aI 1 1000 fun _ => 0) ∧ M.2.2 88 = (aI 0 1000 fun _ => 0) ∧ M.2.2 89 = (aI 0 1000 fun _ => 0) ∧ M.2.2 90 = (aI 0 1000 fun _ => 0) ∧ M.2.2 91 = (aI 0 60 fun _ => 0) ∧ M.2.2 92 = (aI 0 60 fun _ => 0) ∧ M.2.2 93 = (aI 0 1000 fun _ => 0) ∧ M.2.2 94 = (aI 0 1000 fun _ => 0) ∧ M.2.2 95 = (aI 0 1000 fun _ => 0)
theorem init_ref {M : Mm} (h1 : M.1 = 70) (h5 : M.2.2 69 = .inr (11, D_X12)) : wF F_X12_init [.ref 69] M fun v M' => v = none ∧ M'.1 = 96 ∧ M'.2.1 = M.2.1 + 48943 ∧ R0 M' ∧ ∀ b, b < 69 → M'.2.2 b = M.2.2 b := by
  refine wF_run ⟨rfl, Nat.le_of_ble_eq_true rfl, ?_⟩
  refine wS_seq (wS_sup (wA_lA rfl rfl ⟨_, rfl, fun _ => ?_, fun q => absurd rfl q⟩))
  have H0 := HL.start h5 (by omega)
  rw [h1] at H0
  refine wS_seq (wS_pfNewI rfl H0 (Nat.le_of_ble_eq_true rfl) (by decide) fun M1 H1 => ⟨fun _ => ?_, fun q => absurd rfl q⟩)
  refine wS_seq (wS_pfNewI rfl H1 (Nat.le_of_ble_eq_true rfl) (by decide) fun M2 H2 => ⟨fun _ => ?_, fun q => absurd rfl q⟩)
  refine wS_seq (wS_pfNewI rfl H2 (Nat.le_of_ble_eq_true rfl) (by decide) fun M3 H3 => ⟨fun _ => ?_, fun q => absurd rfl q⟩)
  refine wS_seq (wS_pfNewI rfl H3 (Nat.le_of_ble_eq_true rfl) (by decide) fun M4 H4 => ⟨fun _ => ?_, fun q => absurd rfl q⟩)
  refine wS_seq (wS_pfNewI rfl H4 (Nat.le_of_ble_eq_true rfl) (by decide) fun M5 H5 => ⟨fun _ => ?_, fun q => absurd rfl q⟩)
  refine wS_seq (wS_pfNewI rfl H5 (Nat.le_of_ble_eq_true rfl) (by decide) fun M6 H6 => ⟨fun _ => ?_, fun q => absurd rfl q⟩)
  refine wS_seq (wS_pfNewI rfl H6 (Nat.le_of_ble_eq_true rfl) (by decide) fun M7 H7 => ⟨fun _ => ?_, fun q => absurd rfl q⟩)
  refine wS_seq (wS_pfNewI rfl H7 (Nat.le_of_ble_eq_true rfl) (by decide) fun M8 H8 => ⟨fun _ => ?_, fun q => absurd rfl q⟩)
  refine wS_seq (wS_pfNewI rfl H8 (Nat.le_of_ble_eq_true rfl) (by decide) fun M9 H9 => ⟨fun _ => ?_, fun q => absurd rfl q⟩)
  refine wS_seq (wS_pfNewI rfl H9 (Nat.le_of_ble_eq_true rfl) (by decide) fun M10 H10 => ⟨fun _ => ?_, fun q => absurd rfl q⟩)
  refine wS_seq (wS_pfNewI rfl H10 (Nat.le_of_ble_eq_true rfl) (by decide) fun M11 H11 => ⟨fun _ => ?_, fun q => absurd rfl q⟩)
  refine wS_seq (wS_pfNewI rfl H11 (Nat.le_of_ble_eq_true rfl) (by decide) fun M12 H12 => ⟨fun _ => ?_, fun q => absurd rfl q⟩)
  refine wS_seq (wS_pfNewI rfl H12 (Nat.le_of_ble_eq_true rfl) (by decide) fun M13 H13 => ⟨fun _ => ?_, fun q => absurd rfl q⟩)
  refine wS_seq (wS_pfNewI rfl H13 (Nat.le_of_ble_eq_true rfl) (by decide) fun M14 H14 => ⟨fun _ => ?_, fun q => absurd rfl q⟩)
  refine wS_seq (wS_pfNewI rfl H14 (Nat.le_of_ble_eq_true rfl) (by decide) fun M15 H15 => ⟨fun _ => ?_, fun q => absurd rfl q⟩)
  refine wS_seq (wS_pfNewI rfl H15 (Nat.le_of_ble_eq_true rfl) (by decide) fun M16 H16 => ⟨fun _ => ?_, fun q => absurd rfl q⟩)
  refine wS_seq (wS_pfNewI rfl H16 (Nat.le_of_ble_eq_true rfl) (by decide) fun M17 H17 => ⟨fun _ => ?_, fun q => absurd rfl q⟩)
  refine wS_seq (wS_pfNewI rfl H17 (Nat.le_of_ble_eq_true rfl) (by decide) fun M18 H18 => ⟨fun _ => ?_, fun q => absurd rfl q⟩)
  refine wS_seq (wS_pfNewI rfl H18 (Nat.le_of_ble_eq_true rfl) (by decide) fun M19 H19 => ⟨fun _ => ?_, fun q => absurd rfl q⟩)
  refine wS_seq (wS_pfNewI rfl H19 (Nat.le_of_ble_eq_true rfl) (by decide) fun M20 H20 => ⟨fun _ => ?_, fun q => absurd rfl q⟩)
  refine wS_seq (wS_pfNewI rfl H20 (Nat.le_of_ble_eq_true rfl) (by decide) fun M21 H21 => ⟨fun _ => ?_, fun q => absurd rfl q⟩)
  refine wS_seq (wS_pfNewI rfl H21 (Nat.le_of_ble_eq_true rfl) (by decide) fun M22 H22 => ⟨fun _ => ?_, fun q => absurd rfl q⟩)
  refine wS_seq (wS_pfNewI rfl H22 (Nat.le_of_ble_eq_true rfl) (by decide) fun M23 H23 => ⟨fun _ => ?_, fun q => absurd rfl q⟩)
  refine wS_seq (wS_pfNewI rfl H23 (Nat.le_of_ble_eq_true rfl) (by decide) fun M24 H24 => ⟨fun _ => ?_, fun q => absurd rfl q⟩)
  refine wS_seq (wS_pfNewI rfl H24 (Nat.le_of_ble_eq_true rfl) (by decide) fun M25 H25 => ⟨fun _ => ?_, fun q => absurd rfl q⟩)
  refine wS_seq (wS_pfNewI rfl H25 (Nat.le_of_ble_eq_true rfl) (by decide) fun M26 H26 => ⟨fun _ => ?_, fun q => absurd rfl q⟩)
  refine wS_seq (wS_scp (wS_seq (wS_setI (wI_cI ⟨fun _ => ?_, fun q => absurd rfl q⟩))))
  refine wS_fillI (N := 160) (A := 75) rfl (by decide) (by omega) (by decide) (by decide) H26 rfl rfl fun M27 H27 => ⟨fun _ => ?_, fun q => absurd rfl q⟩
  refine wS_seq (wS_scp (wS_seq (wS_setI (wI_cI ⟨fun _ => ?_, fun q => absurd rfl q⟩))))
  refine wS_fillI (N := 1700) (A := 77) rfl (by decide) (by omega) (by decide) (by decide) H27 rfl rfl fun M28 H28 => ⟨fun _ => ?_, fun q => absurd rfl q⟩
  refine wS_seq (wS_scp (wS_seq (wS_setI (wI_cI ⟨fun _ => ?_, fun q => absurd rfl q⟩))))
  refine wS_fillI (N := 3) (A := 84) rfl (by decide) (by omega) (by decide) (by decide) H28 rfl rfl fun M29 H29 => ⟨fun _ => ?_, fun q => absurd rfl q⟩
  refine wS_retV ⟨rfl, rfl, H29.1, H29.2.1.trans ?_, ?_, fun b hb => H29.2.2.2.2.2.2 b (by omega) (by omega)⟩
  · show M.2.1 + 31 + 31 + 31 + 31 + 31 + 160 + 12 + 1700 + 1710 + 17100 + 17100 + 1710 + 170 + 3 + 3 + 1000 + 1000 + 1000 + 1000 + 1000 + 1000 + 60 + 60 + 1000 + 1000 + 1000 = M.2.1 + 48943
    omega
  · have hi : ∀ b, 70 ≤ b → b < 96 → ∀ c, _ = c → M29.2.2 b = c := fun b h1 h2 c hc => (H29.at (by omega) h2).trans hc
    exact ⟨H29.2.2.1, hi 70 (by decide) (by decide) _ rfl, hi 71 (by decide) (by decide) _ rfl, hi 72 (by decide) (by decide) _ rfl, hi 73 (by decide) (by decide) _ rfl, hi 74 (by decide) (by decide) _ rfl, hi 75 (by decide) (by decide) _ rfl, hi 76 (by decide) (by decide) _ rfl, hi 77 (by decide) (by decide) _ rfl, hi 78 (by decide) (by decide) _ rfl, hi 79 (by decide) (by decide) _ rfl, hi 80 (by decide) (by decide) _ rfl, hi 81 (by decide) (by decide) _ rfl, hi 82 (by decide) (by decide) _ rfl, hi 83 (by decide) (by decide) _ rfl, hi 84 (by decide) (by decide) _ rfl, hi 85 (by decide) (by decide) _ rfl, hi 86 (by decide) (by decide) _ rfl, hi 87 (by decide) (by decide) _ rfl, hi 88 (by decide) (by decide) _ rfl, hi 89 (by decide) (by decide) _ rfl, hi 90 (by decide) (by decide) _ rfl, hi 91 (by decide) (by decide) _ rfl, hi 92 (by decide) (by decide) _ rfl, hi 93 (by decide) (by decide) _ rfl, hi 94 (by decide) (by decide) _ rfl, hi 95 (by decide) (by decide) _ rfl⟩
