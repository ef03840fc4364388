/-! contracts: the class: village, book, sentence -/
section
variable {d : Nat} {Y : am_Y} {h : am_H} {x n : Nat} {A N : Nat → Int}
theorem ac_N_takeTape (hY : am_at Y x am_L11) : am_cI am_Nh_takeTape d Y [.inr (.inr x)] h (fun v h1 => v = h x 1 ∧ h1 = am_u h x 1 0) := by
  refine am_Met.of (by decide) rfl (Nat.le_of_ble_eq_true rfl) (ab_Nh_takeTape_0 hY fun h1 e1 => ?_)
  rw [am_qI_s]
  exact ⟨rfl, e1⟩
theorem neg1_rg {y : Int} (h : am_ri y) : am_ri (-1 - y) := by
  unfold am_ri at h ⊢
  omega
/-- what sentence() leaves -/
def nsQ (h h1 : am_H) (x n : Nat) (v : Int) (e : PE (SS × Int)) : Prop :=
  (∀ q, q ≠ x → q ≠ x + 2 → q ≠ x + 25 → (q < x + 105 ∨ x + 111 ≤ q) → h1 q = h q) ∧ h1 x 1 = 0 ∧ (∀ j, j ≠ 1 → j ≠ 2 → h1 x j = h x j) ∧ (∀ j, j ≠ 5 → h1 (x + 2) j = h (x + 2) j) ∧
  match e with
  | .inl q => v = -1 - q.2 ∧ h1 x 2 = q.1 ∧ h1 (x + 2) = h (x + 2) ∧ h1 (x + 25) = h (x + 25)
  | .inr T => v = T.1.2.1 ∧ h1 x 2 = 0 ∧ h1 (x + 2) 5 = (n : Int) ∧ ∀ i, i < n → h1 (x + 25) i = h (x + 1) i
theorem ac_N_sentence (hY : am_at Y x am_L11) (c : stR h (x + 2) A N) (e1 : h x 1 = (n : Int)) (hn : n ≤ 940) : am_cI am_Nh_sentence (d + 42) Y [.inr (.inr x)] h (fun v h1 => nsQ h h1 x n v (pSen (lxs (h (x + 1)) n 200 0))) := by
  obtain ⟨c1, c2, c3, c4, -⟩ := c
  refine am_Met.of (by decide) rfl (Nat.le_of_ble_eq_true rfl) (ab_Nh_sentence_0 hY ?_)
  refine am_kI.of (ac_N_takeTape (d := 0) hY) (by omega) ?_
  rintro v2 h1 - - ⟨rfl, x1⟩
  have s1 : ∀ q, q ≠ x → h1 q = h q := fun q hq => by rw [x1, am_u_n _ _ _ _ _ hq]
  have v1 : vR h1 (x + 3) (A 1) A N := c1.but fun q a b => s1 q (by omega)
  have k1 : fkR h1 (x + 14) A (jBook A (lnA A) (A 341).toNat jZ) (A 341).toNat := c4.but fun q a b => s1 q (by omega)
  rw [e1]
  refine am_kI.of (ac_S_readAll (d := 0) (q1 := x + 1) (n1 := 940) (v := x + 3) (b := x + 14) (hY.sub 105 rfl) (hY 1 _ rfl) (hY.sub 3 rfl) (hY.sub 14 rfl) (by omega) (by omega) (by omega) v1 c2 k1 hn (by omega)) (by omega) ?_
  rintro v4 h3 ok - ⟨f3, o3⟩
  rw [s1 (x + 1) (by omega)] at o3
  intro h5 x5
  have s5 : ∀ q, q ≠ x → (q < x + 105 ∨ x + 111 ≤ q) → h5 q = h q := fun q hq hr => by rw [x5, am_u_n _ _ _ _ _ hq, f3 q (by omega), s1 q hq]
  have s6 : ∀ q, q ≠ x → h5 q = h3 q := fun q hq => by rw [x5, am_u_n _ _ _ _ _ hq]
  have h3x : h3 x = h1 x := f3 x (by omega)
  have j1 : h5 x 1 = 0 := by rw [x5, am_u_j (by omega), h3x, x1, am_u_s]
  have j2 : ∀ j, j ≠ 1 → j ≠ 2 → h5 x j = h x j := fun j a b => by rw [x5, am_u_j b, h3x, x1, am_u_j a]
  have j3 : h5 x 2 = h3 (x + 106) 4 := by rw [x5, am_u_s]
  cases hE : pSen (lxs (h (x + 1)) n 200 0) with
  | inl q =>
    rw [hE] at o3
    obtain ⟨rfl, g4, g5⟩ := o3
    refine ⟨fun z => absurd rfl z, fun _ => ?_⟩
    have e6 : h5 (x + 106) 5 = q.2 := by rw [s6 _ (by omega)]; exact g5
    have hri : am_ri (h3 (x + 106) 5) := (ok (x + 106) _ (hY 106 _ rfl) 5).1 (by decide)
    rw [e6]
    refine ⟨neg1_rg (by rw [← e6, s6 _ (by omega)]; exact hri), ?_⟩
    rw [am_qI_s]
    refine ⟨fun q hq _ _ hr => s5 q hq hr, j1, j2, fun j _ => by rw [s5 _ (by omega) (by omega)], rfl, ?_, s5 _ (by omega) (by omega), s5 _ (by omega) (by omega)⟩
    rw [j3]
    exact g4
  | inr T =>
    rw [hE] at o3
    obtain ⟨rfl, g4, g1, -⟩ := o3
    have hl := pSen_len hE
    refine ⟨fun _ => ?_, fun z => absurd z (by decide)⟩
    refine ⟨3, by omega, am_Met.of (by decide) rfl (Nat.le_of_ble_eq_true rfl) (ab_State_keepSentence_0 (hY.sub 2 rfl) (hY 1 _ rfl) ⟨fun z => by omega, fun _ => ⟨fun z => by omega, fun _ => ⟨by omega, fun _ => ⟨by omega, ⟨by omega, by omega, by omega, by omega, by omega⟩, fun h6 x6 h7 x7 => ?_⟩, fun z => by omega⟩⟩⟩)⟩
    obtain ⟨s7, u7⟩ := cp_s x6
    rw [am_qV_s, am_qI_s]
    have q7 : ∀ r, r ≠ x + 2 → r ≠ x + 25 → h7 r = h5 r := fun r a b => by rw [x7, am_u_n _ _ _ _ r a, s7 r b]
    refine ⟨fun q hq h2 h25 hr => by rw [q7 q h2 h25, s5 q hq hr], by rw [q7 x (by omega) (by omega), j1], fun j a b => by rw [q7 x (by omega) (by omega), j2 j a b], fun j hj => by rw [x7, am_u_j hj, s7 _ (by omega), s5 _ (by omega) (by omega)], ?_, ?_, ?_, fun i hi => ?_⟩
    · rw [q7 _ (by omega) (by omega), s6 _ (by omega)]
      exact g1
    · rw [q7 x (by omega) (by omega), j3]
      exact g4
    · rw [x7, am_u_s]
    · rw [x7, am_u_n _ _ _ _ _ (by omega)]
      have := u7 i (by omega)
      rw [s5 (x + 1) (by omega) (by omega)] at this
      exact this
/-- what village() leaves -/
def nvQ (h h1 : am_H) (x : Nat) (v : Int) (e : PE (Int × VS)) : Prop :=
  (∀ q, q ≠ x → (q < x + 2 ∨ x + 26 ≤ q) → (q < x + 75 ∨ x + 91 ≤ q) → h1 q = h q) ∧ h1 x 1 = 0 ∧ (∀ j, j ≠ 1 → j ≠ 2 → h1 x j = h x j) ∧
  match e with
  | .inl q => v = -1 - q.2 ∧ h1 x 2 = q.1 ∧ ∀ q, x + 2 ≤ q → q < x + 26 → h1 q = h q
  | .inr B => v = B.1 ∧ h1 x 2 = 0 ∧ vR h1 (x + 3) (B.2.1 1) B.2.1 B.2.2.1 ∧ (∀ f, fkR h1 (x + 14) B.2.1 (jBook B.2.1 f 0 jZ) 0) ∧ (∀ p : Nat, p < 8 → h1 (x + 23) p = 0 ∧ h1 (x + 24) p = 0) ∧ h1 (x + 2) 5 = 0 ∧ wV B.2.1
theorem ac_N_village (RR NN : Nat → Int) (hY : am_at Y x am_L11) (e1 : h x 1 = (n : Int)) (hn : n ≤ 940) : am_cI am_Nh_village (d + 13) Y [.inr (.inr x)] h (fun v h1 => nvQ h h1 x v (pLines 1000 0 0 (pInit RR, NN, lxs (h (x + 1)) n 900 0))) := by
  refine am_Met.of (by decide) rfl (Nat.le_of_ble_eq_true rfl) (ab_Nh_village_0 hY ?_)
  refine am_kI.of (ac_N_takeTape (d := 0) hY) (by omega) ?_
  rintro v2 h1 - - ⟨rfl, x1⟩
  have s1 : ∀ q, q ≠ x → h1 q = h q := fun q hq => by rw [x1, am_u_n _ _ _ _ _ hq]
  rw [e1]
  refine am_kI.of (ac_V_readAll (d := 0) (q1 := x + 1) (n1 := 940) (o := x + 75) RR NN (hY.sub 75 rfl) (hY 1 _ rfl) (by omega) hn (by omega)) (by omega) ?_
  rintro v4 h3 ok - ⟨f3, o3⟩
  rw [s1 (x + 1) (by omega)] at o3
  intro h5 x5
  have s5 : ∀ q, q ≠ x → (q < x + 75 ∨ x + 91 ≤ q) → h5 q = h q := fun q hq hr => by rw [x5, am_u_n _ _ _ _ _ hq, f3 q (by omega), s1 q hq]
  have s6 : ∀ q, q ≠ x → h5 q = h3 q := fun q hq => by rw [x5, am_u_n _ _ _ _ _ hq]
  have h3x : h3 x = h1 x := f3 x (by omega)
  have j1 : h5 x 1 = 0 := by rw [x5, am_u_j (by omega), h3x, x1, am_u_s]
  have j2 : ∀ j, j ≠ 1 → j ≠ 2 → h5 x j = h x j := fun j a b => by rw [x5, am_u_j b, h3x, x1, am_u_j a]
  have j3 : h5 x 2 = h3 (x + 76) 4 := by rw [x5, am_u_s]
  cases hE : pLines 1000 0 0 (pInit RR, NN, lxs (h (x + 1)) n 900 0) with
  | inl q =>
    rw [hE] at o3
    obtain ⟨rfl, g4, g5⟩ := o3
    refine ⟨fun z => absurd rfl z, fun _ => ?_⟩
    have e6 : h5 (x + 76) 5 = q.2 := by rw [s6 _ (by omega)]; exact g5
    have hri : am_ri (h3 (x + 76) 5) := (ok (x + 76) _ (hY 76 _ rfl) 5).1 (by decide)
    rw [e6]
    refine ⟨neg1_rg (by rw [← e6, s6 _ (by omega)]; exact hri), ?_⟩
    rw [am_qI_s]
    refine ⟨fun q hq _ hr => s5 q hq hr, j1, j2, rfl, ?_, fun q a b => s5 q (by omega) (by omega)⟩
    rw [j3]
    exact g4
  | inr B =>
    rw [hE] at o3
    obtain ⟨rfl, g4, g0, gv, gw⟩ := o3
    refine ⟨fun _ => ?_, fun z => absurd z (by decide)⟩
    have v5 : vR h5 (x + 80) (B.2.1 1) B.2.1 B.2.2.1 := gv.but fun q a b => s6 q (by omega)
    refine am_kV.of (ac_St_begin (d := 0) (o := x + 2) (q := x + 80) (hY.sub 2 rfl) (hY.sub 80 rfl) (by omega) v5 gw) (by omega) ?_
    rintro h7 - ⟨b1, b2, b3, b4, b5, b6, b7⟩
    rw [am_qI_s]
    have q7 : h7 x = h5 x := b5 x (by omega)
    refine ⟨fun q hq h2 hr => by rw [b5 q (by omega), s5 q hq hr], by rw [q7, j1], fun j a b => by rw [q7, j2 j a b], ?_, ?_, b1, b2, b3, b4, gw⟩
    · rw [b7, s6 _ (by omega)]
      exact g0
    · rw [q7, j3]
      exact g4
/-- what book() leaves -/
def nbQ (h h1 : am_H) (x : Nat) (R : Nat → Int) (v : Int) (e : PE ((Nat → LN) × Nat)) : Prop :=
  (∀ q, q ≠ x → (q < x + 14 ∨ x + 23 ≤ q) → (q < x + 91 ∨ x + 105 ≤ q) → h1 q = h q) ∧ h1 x 1 = 0 ∧ (∀ j, j ≠ 1 → j ≠ 2 → h1 x j = h x j) ∧
  match e with
  | .inl q => v = -1 - q.2 ∧ h1 x 2 = q.1 ∧ ∀ q, x + 14 ≤ q → q < x + 23 → h1 q = h q
  | .inr B => v = B.2 ∧ h1 x 2 = 0 ∧ fkR h1 (x + 14) R (jBook R B.1 B.2 jZ) B.2 ∧ B.2 ≤ 60 ∧ ∀ j, j < B.2 → lnOK R (B.1 j)
theorem ac_N_book (hY : am_at Y x am_L11) (c : stR h (x + 2) A N) (e1 : h x 1 = (n : Int)) (hn : n ≤ 940) : am_cI am_Nh_book (d + 12) Y [.inr (.inr x)] h (fun v h1 => nbQ h h1 x A v (pBks A N 1000 (fun _ => (0, 0, 0, 0)) 0 0 (lxs (h (x + 1)) n 700 0))) := by
  obtain ⟨c1, c2, c3, c4, -⟩ := c
  have w2 := wr_2 c2.1
  refine am_Met.of (by decide) rfl (Nat.le_of_ble_eq_true rfl) (ab_Nh_book_0 hY ?_)
  refine am_kI.of (ac_N_takeTape (d := 0) hY) (by omega) ?_
  rintro v2 h1 - - ⟨rfl, x1⟩
  have s1 : ∀ q, q ≠ x → h1 q = h q := fun q hq => by rw [x1, am_u_n _ _ _ _ _ hq]
  have v1 : vR h1 (x + 3) (A 1) A N := c1.but fun q a b => s1 q (by omega)
  rw [e1]
  refine am_kI.of (ac_B_readAll (d := 0) (q1 := x + 1) (n1 := 940) (o := x + 91) (v := x + 3) (hY.sub 91 rfl) (hY 1 _ rfl) (hY.sub 3 rfl) (by omega) (by omega) v1 c2 hn (by omega)) (by omega) ?_
  rintro v4 h3 ok - ⟨f3, o3⟩
  rw [s1 (x + 1) (by omega)] at o3
  intro h5 x5
  have s5 : ∀ q, q ≠ x → (q < x + 91 ∨ x + 105 ≤ q) → h5 q = h q := fun q hq hr => by rw [x5, am_u_n _ _ _ _ _ hq, f3 q (by omega), s1 q hq]
  have s6 : ∀ q, q ≠ x → h5 q = h3 q := fun q hq => by rw [x5, am_u_n _ _ _ _ _ hq]
  have h3x : h3 x = h1 x := f3 x (by omega)
  have j1 : h5 x 1 = 0 := by rw [x5, am_u_j (by omega), h3x, x1, am_u_s]
  have j2 : ∀ j, j ≠ 1 → j ≠ 2 → h5 x j = h x j := fun j a b => by rw [x5, am_u_j b, h3x, x1, am_u_j a]
  have j3 : h5 x 2 = h3 (x + 92) 4 := by rw [x5, am_u_s]
  cases hE : pBks A N 1000 (fun _ => (0, 0, 0, 0)) 0 0 (lxs (h (x + 1)) n 700 0) with
  | inl q =>
    rw [hE] at o3
    obtain ⟨rfl, g4, g5⟩ := o3
    refine ⟨fun z => absurd rfl z, fun _ => ?_⟩
    have e6 : h5 (x + 92) 5 = q.2 := by rw [s6 _ (by omega)]; exact g5
    have hri : am_ri (h3 (x + 92) 5) := (ok (x + 92) _ (hY 92 _ rfl) 5).1 (by decide)
    rw [e6]
    refine ⟨neg1_rg (by rw [← e6, s6 _ (by omega)]; exact hri), ?_⟩
    rw [am_qI_s]
    refine ⟨fun q hq _ hr => s5 q hq hr, j1, j2, rfl, ?_, fun q a b => s5 q (by omega) (by omega)⟩
    rw [j3]
    exact g4
  | inr B =>
    rw [hE] at o3
    obtain ⟨rfl, g4, gk, g60, gl⟩ := o3
    refine ⟨fun _ => ?_, fun z => absurd z (by decide)⟩
    have k5 : fkR h5 (x + 96) A (jBook A B.1 B.2 jZ) B.2 := gk.but fun q a b => s6 q (by omega)
    refine am_kV.of (ac_B_copy (d := 0) (o := x + 14) (q := x + 96) (hY.sub 14 rfl) (hY.sub 96 rfl) (by omega)) (by omega) ?_
    rintro h7 - k7
    have b7 := k5.copy k7 g60 w2.2
    rw [am_qI_s]
    have q7 : ∀ q, (q < x + 14 ∨ x + 23 ≤ q) → h7 q = h5 q := k7.1
    refine ⟨fun q hq h2 hr => by rw [q7 q h2, s5 q hq hr], by rw [q7 x (by omega), j1], fun j a b => by rw [q7 x (by omega), j2 j a b], b7.1.1, ?_, b7, g60, gl⟩
    rw [q7 x (by omega), j3]
    exact g4
end
