/-! contracts: the class: of whom a sentence is so -/
theorem pSen_0 (s : Nat → Int) (T : SS × Int) : ¬ pSen (lxs s 0 200 0) = .inr T := by
  rw [lxs_end s 0 200 0 (by omega)]
  intro e
  cases e
section
variable {d : Nat} {Y : am_Y} {h : am_H} {x : Nat} {A N : Nat → Int}
theorem pSen_i {r : List TK} {T : SS × Int} (te : tE r) (hl : r.length ≤ 1000) (e : pSen r = .inr T) : sOK T.1.1 ∧ 0 ≤ T.2 ∧ T.2 < T.1.1.length ∧ T.1.1.length ≤ 40 := by
  unfold pSen at e
  cases e2 : sP 6009 3 0 0 ([], 0, r) with
  | inl q => rw [e2, pbd_l rfl] at e; cases e
  | inr U =>
    rw [e2, pbd_r rfl] at e
    have i := sP_i 6009 3 0 0 ([], 0, r) U (by omega) (by show 6 * r.length + 3 ≤ 6009; omega) te (fun i n e => by simp at e) (by show (0 : Int) ≤ 20; omega) (by omega) e2
    have i5 := i.2.2.2.2.1
    have i7 := i.2.2.2.2.2.2.1
    rw [if_neg (by omega)] at i7
    have i7' : 2 * 0 - ((([] : List LN).length : Nat) : Int) + 1 ≤ 2 * U.1.2.1 - U.1.1.length := i7
    have l0 : (([] : List LN).length : Int) = 0 := rfl
    rw [l0] at i7'
    split at e
    · cases e
      exact ⟨i.2.1, i.2.2.1, i.2.2.2.1, by omega⟩
    · cases e
theorem ac_N_said (hY : am_at Y x am_L11) (c : stR h (x + 2) A N) (X : am_H) : am_cI am_Nh_said (d + 42) Y [.inr (.inr x)] h (fun v h1 => (∀ q, (q < x + 105 ∨ x + 111 ≤ q) → h1 q = h q) ∧ (A 590 = 0 → v = -1) ∧ (¬ A 590 = 0 → ∃ nl : List LN, sOK nl ∧ sNA A nl ∧ nl.length ≤ 40 ∧ (0 ≤ A 591 ∧ A 591 < nl.length) ∧ sBits v (A 1) (sFig A (jBook A (lnA A) (A 341).toNat X)) (sFre (jBook A (lnA A) (A 341).toNat X)) nl (A 591))) := by
  obtain ⟨c1, c2, c3, c4, c5, c6⟩ := c
  have w2 := wr_2 c2.1
  have c4X : fkR h (x + 14) A (jBook A (lnA A) (A 341).toNat X) (A 341).toNat := by
    rw [ov_Book (X := X) (J := jZ) c2.1.z fun j hj => c3.2.2 j (by omega)]
    exact c4.ovJ w2.2 c2.2 c2.1.z
  refine am_Met.of (by decide) rfl (Nat.le_of_ble_eq_true rfl) (ab_Nh_said_0 hY ?_)
  rcases c6 with ⟨a, b⟩ | ⟨a, n, T, s, b1, b2, b3, b4, b5, b6⟩
  · refine ⟨fun _ => ?_, fun z => absurd b z⟩
    rw [am_qI_s]
    exact ⟨fun _ _ => rfl, fun _ => rfl, fun z => absurd a z⟩
  · have n0 : ¬ n = 0 := fun z => by subst z; exact pSen_0 s T b4
    rw [b1]
    refine ⟨fun z => by omega, fun _ => ?_⟩
    have e3 : lxs (h (x + 25)) n 200 0 = lxs s n 200 0 := lxs_c b3
    refine am_kI.of (ac_S_readAll (d := 0) (q1 := x + 25) (n1 := 200) (v := x + 3) (b := x + 14) (hY.sub 105 rfl) (hY 25 _ rfl) (hY.sub 3 rfl) (hY.sub 14 rfl) (by omega) (by omega) (by omega) c1 c2 c4X b2 (by omega)) (by omega) ?_
    rintro v h1 - - ⟨f1, o1⟩
    rw [e3, b4] at o1
    obtain ⟨rfl, k4, k1, kb⟩ := o1
    refine ⟨fun _ => ?_, fun z => absurd z (by decide)⟩
    have len : (lxs s n 200 0).length ≤ 1000 := by
      have := lxS_len s n 200 (min n 200 - 0) 0
      unfold lxs
      omega
    obtain ⟨i1, i2, i3, i4⟩ := pSen_i (tE_lxS _ _ _ _ _) len b4
    rw [am_qI_s]
    refine ⟨fun q hq => f1 q (by omega), fun z => by omega, fun _ => ⟨T.1.1, i1, b6, i4, by rw [b5]; exact ⟨i2, i3⟩, ?_⟩⟩
    rw [b5]
    exact kb
end
