/-! contracts: the class's copies: of a village, of a book -/
/-- from h on, the W objects from o on have taken from those from q on what D tells -/
def cI (h h' : am_H) (o q W : Nat) (D : Nat → Nat → Prop) : Prop := (∀ r, (r < o ∨ o + W ≤ r) → h' r = h r) ∧ ∀ j i, j < W → D j i → h' (o + j) i = h (q + j) i
theorem cI.none (h : am_H) (o q W : Nat) : cI h h o q W (fun _ _ => False) := ⟨fun _ _ => rfl, fun _ _ _ z => z.elim⟩
theorem cI.mono {h h' : am_H} {o q W : Nat} {D D' : Nat → Nat → Prop} (c : cI h h' o q W D) (s : ∀ j i, D' j i → D j i) : cI h h' o q W D' := ⟨c.1, fun j i hj d => c.2 j i hj (s j i d)⟩
theorem cI.fld {h h' h1 : am_H} {o q W j i : Nat} {D : Nat → Nat → Prop} (c : cI h h' o q W D) (dis : q + W ≤ o ∨ o + W ≤ q) (hj : j < W) (e : h1 = am_u h' (o + j) i (h' (q + j) i)) : cI h h1 o q W (fun j' i' => D j' i' ∨ j' = j ∧ i' = i) := by
  refine ⟨fun r hr => by rw [e, am_u_n _ _ _ _ r (by omega), c.1 r hr], fun j' i' hj' d => ?_⟩
  by_cases ej : j' = j
  · subst ej
    by_cases ei : i' = i
    · subst ei
      rw [e, am_u_s, c.1 _ (by omega)]
    · rw [e, am_u_j ei]
      rcases d with d | d
      · exact c.2 j' i' hj' d
      · exact absurd d.2 ei
  · rw [e, am_u_n _ _ _ _ _ (by omega)]
    rcases d with d | d
    · exact c.2 j' i' hj' d
    · exact absurd d.1 ej
theorem cI.cp {h h' h1 : am_H} {o q W j n : Nat} {D : Nat → Nat → Prop} (c : cI h h' o q W D) (dis : q + W ≤ o ∨ o + W ≤ q) (hj : j < W) (e : h1 = am_cp h' (q + j) (o + j) 0 0 n) : cI h h1 o q W (fun j' i' => D j' i' ∨ j' = j ∧ i' < n) := by
  have s : ∀ r, r ≠ o + j → h1 r = h' r := fun r hr => by
    rw [e]
    funext i
    unfold am_cp
    rw [if_neg fun z => hr z.1]
  have u : ∀ i, h1 (o + j) i = if i < n then h' (q + j) i else h' (o + j) i := fun i => by
    rw [e]
    unfold am_cp
    by_cases z : i < n
    · rw [if_pos z, if_pos ⟨rfl, by omega, by omega⟩, show 0 + (i - 0) = i by omega]
    · rw [if_neg z, if_neg fun w => z (by omega)]
  refine ⟨fun r hr => by rw [s r (by omega), c.1 r hr], fun j' i' hj' d => ?_⟩
  by_cases ej : j' = j
  · subst ej
    rw [u]
    by_cases ei : i' < n
    · rw [if_pos ei, c.1 _ (by omega)]
    · rw [if_neg ei]
      rcases d with d | d
      · exact c.2 j' i' hj' d
      · exact absurd d.2 ei
  · rw [s _ (by omega)]
    rcases d with d | d
    · exact c.2 j' i' hj' d
    · exact absurd d.1 ej
section
variable {d : Nat} {Y : am_Y} {h h' h1 : am_H} {o q W : Nat} {D : Nat → Nat → Prop}
theorem rowK {j n : Nat} {K : am_H → Prop} (c : cI h h' o q W D) (dis : q + W ≤ o ∨ o + W ≤ q) (hj : j < W) (y0 : Y[q + j]? = some (14, n)) (y1 : Y[o + j]? = some (14, n)) (hn : n < 1000) (hd : 1 < d) (hK : ∀ h1, cI h h1 o q W (fun j' i' => D j' i' ∨ j' = j ∧ i' < n) → K h1) : am_kV am_Nh_copyRow d Y [.inr (.inr (q + j)), .inr (.inr (o + j))] h' K := by
  refine ⟨1, hd, am_Met.of (by decide) rfl (Nat.le_of_ble_eq_true rfl) (ab_Nh_copyRow_0 y0 y1 ⟨by omega, by omega, by omega, by omega, ⟨by omega, by omega, by omega, by omega, by omega⟩, fun h1 e1 => ?_⟩)⟩
  rw [am_qV_s]
  rw [show (min (n : Int) (n : Int)).toNat = n by omega] at e1
  exact hK h1 (c.cp dis hj e1)
def vcD (j i : Nat) : Prop := j = 0 ∧ i < 7 ∨ (j = 1 ∨ j = 2 ∨ j = 3) ∧ i < 6 ∨ (j = 4 ∨ j = 5) ∧ i < 8 ∨ (j = 6 ∨ j = 9 ∨ j = 10) ∧ i < 48 ∨ (j = 7 ∨ j = 8) ∧ i < 64
theorem ac_V_copy (hY : am_at Y o am_L9) (hYq : am_at Y q am_L9) (dis : q + 11 ≤ o ∨ o + 11 ≤ q) : am_cV am_Village_copyFrom (d + 2) Y [.inr (.inr o), .inr (.inr q)] h (fun h1 => cI h h1 o q 11 vcD) := by
  refine am_Met.of (by decide) rfl (Nat.le_of_ble_eq_true rfl) (ab_Village_copyFrom_0 hY hYq ?_)
  intro h1 e1 h2 e2 h3 e3 h4 e4 h5 e5 h6 e6 h7 e7
  have c7 := ((((((((cI.none h o q 11).fld (j := 0) dis (by omega) e1).fld (j := 0) dis (by omega) e2).fld (j := 0) dis (by omega) e3).fld (j := 0) dis (by omega) e4).fld (j := 0) dis (by omega) e5).fld (j := 0) dis (by omega) e6).fld (j := 0) dis (by omega) e7)
  refine rowK c7 dis (by omega) (hYq 1 _ rfl) (hY 1 _ rfl) (by omega) (by omega) fun h8 c8 => ?_
  refine rowK c8 dis (by omega) (hYq 2 _ rfl) (hY 2 _ rfl) (by omega) (by omega) fun h9 c9 => ?_
  refine rowK c9 dis (by omega) (hYq 3 _ rfl) (hY 3 _ rfl) (by omega) (by omega) fun h10 c10 => ?_
  refine rowK c10 dis (by omega) (hYq 4 _ rfl) (hY 4 _ rfl) (by omega) (by omega) fun h11 c11 => ?_
  refine rowK c11 dis (by omega) (hYq 5 _ rfl) (hY 5 _ rfl) (by omega) (by omega) fun h12 c12 => ?_
  refine rowK c12 dis (by omega) (hYq 6 _ rfl) (hY 6 _ rfl) (by omega) (by omega) fun h13 c13 => ?_
  refine rowK c13 dis (by omega) (hYq 7 _ rfl) (hY 7 _ rfl) (by omega) (by omega) fun h14 c14 => ?_
  refine rowK c14 dis (by omega) (hYq 8 _ rfl) (hY 8 _ rfl) (by omega) (by omega) fun h15 c15 => ?_
  refine rowK c15 dis (by omega) (hYq 9 _ rfl) (hY 9 _ rfl) (by omega) (by omega) fun h16 c16 => ?_
  refine rowK c16 dis (by omega) (hYq 10 _ rfl) (hY 10 _ rfl) (by omega) (by omega) fun h17 c17 => ?_
  rw [am_qV_s]
  refine c17.mono fun j i w => ?_
  unfold vcD at w
  rcases w with ⟨w0, w⟩ | ⟨w0, w⟩ | ⟨w0, w⟩ | ⟨w0, w⟩ | ⟨w0, w⟩
  · subst w0
    have w1 : i = 0 ∨ i = 1 ∨ i = 2 ∨ i = 3 ∨ i = 4 ∨ i = 5 ∨ i = 6 := by omega
    rcases w1 with rfl | rfl | rfl | rfl | rfl | rfl | rfl
    all_goals repeat (first | exact Or.inr ⟨rfl, rfl⟩ | apply Or.inl)
  · rcases w0 with rfl | rfl | rfl
    all_goals repeat (first | exact Or.inr ⟨rfl, w⟩ | apply Or.inl)
  · rcases w0 with rfl | rfl
    all_goals repeat (first | exact Or.inr ⟨rfl, w⟩ | apply Or.inl)
  · rcases w0 with rfl | rfl | rfl
    all_goals repeat (first | exact Or.inr ⟨rfl, w⟩ | apply Or.inl)
  · rcases w0 with rfl | rfl
    all_goals repeat (first | exact Or.inr ⟨rfl, w⟩ | apply Or.inl)
theorem vR.copy {P : Int} {R N : Nat → Int} (c : vR h q P R N) (k : cI h h1 o q 11 vcD) (hs : R 0 ≤ 6 ∧ P ≤ 8 ∧ R 2 ≤ 48) : vR h1 o P R N := by
  obtain ⟨c1, c2, c3, c4, c5, c6, c7, c8⟩ := c
  have f : ∀ j i, j < 11 → vcD j i → h1 (o + j) i = h (q + j) i := k.2
  refine ⟨?_, fun k hk => ?_, fun p hp => ?_, fun i hi => ?_, fun i hi => ?_, fun n hn => ?_, c7, c8⟩
  · have g : ∀ i, i < 7 → h1 o i = h q i := fun i hi => f 0 i (by omega) (by unfold vcD; omega)
    rw [g 1 (by omega), g 2 (by omega), g 3 (by omega), g 4 (by omega), g 5 (by omega), g 6 (by omega)]
    exact c1
  · rw [f 1 k (by omega) (by unfold vcD; omega), f 2 k (by omega) (by unfold vcD; omega), f 3 k (by omega) (by unfold vcD; omega)]
    exact c2 k hk
  · rw [f 4 p (by omega) (by unfold vcD; omega), f 5 p (by omega) (by unfold vcD; omega)]
    exact c3 p hp
  · rw [f 6 i (by omega) (by unfold vcD; omega)]
    exact c4 i hi
  · rw [f 7 i (by omega) (by unfold vcD; omega), f 8 i (by omega) (by unfold vcD; omega)]
    exact c5 i hi
  · rw [f 9 n (by omega) (by unfold vcD; omega), f 10 n (by omega) (by unfold vcD; omega)]
    exact c6 n hn
def bcD (j i : Nat) : Prop := j = 0 ∧ i < 4 ∨ j = 1 ∧ i < 60 ∨ (j = 2 ∨ j = 3 ∨ j = 4) ∧ i < 8 ∨ j = 5 ∧ i = 2 ∨ (j = 6 ∨ j = 7) ∧ i < 384
theorem ac_B_copy (hY : am_at Y o am_L2) (hYq : am_at Y q am_L2) (dis : q + 9 ≤ o ∨ o + 9 ≤ q) : am_cV am_Book_copyFrom (d + 3) Y [.inr (.inr o), .inr (.inr q)] h (fun h1 => cI h h1 o q 9 bcD) := by
  refine am_Met.of (by decide) rfl (Nat.le_of_ble_eq_true rfl) (ab_Book_copyFrom_0 hY hYq ?_)
  intro h1 e1 h2 e2 h3 e3 h4 e4
  have c4 := (((((cI.none h o q 9).fld (j := 0) dis (by omega) e1).fld (j := 0) dis (by omega) e2).fld (j := 0) dis (by omega) e3).fld (j := 0) dis (by omega) e4)
  refine rowK c4 dis (by omega) (hYq 1 _ rfl) (hY 1 _ rfl) (by omega) (by omega) fun h5 c5 => ?_
  refine rowK c5 dis (by omega) (hYq 2 _ rfl) (hY 2 _ rfl) (by omega) (by omega) fun h6 c6 => ?_
  refine rowK c6 dis (by omega) (hYq 3 _ rfl) (hY 3 _ rfl) (by omega) (by omega) fun h7 c7 => ?_
  refine rowK c7 dis (by omega) (hYq 4 _ rfl) (hY 4 _ rfl) (by omega) (by omega) fun h8 c8 => ?_
  refine ⟨d + 2, by omega, am_Met.of (by decide) rfl (Nat.le_of_ble_eq_true rfl) (ab_Bonds_copyFrom_0 (hY.sub 5 rfl) (hYq.sub 5 rfl) ?_)⟩
  refine rowK (j := 6) c8 dis (by omega) (hYq 6 _ rfl) (hY 6 _ rfl) (by omega) (by omega) fun h9 c9 => ?_
  refine rowK (j := 7) c9 dis (by omega) (hYq 7 _ rfl) (hY 7 _ rfl) (by omega) (by omega) fun h10 c10 => ?_
  intro h11 e11
  have c11 := c10.fld (j := 5) dis (by omega) e11
  rw [am_qV_s, am_qV_s]
  refine c11.mono fun j i w => ?_
  unfold bcD at w
  rcases w with ⟨w0, w⟩ | ⟨w0, w⟩ | ⟨w0, w⟩ | ⟨w0, w⟩ | ⟨w0, w⟩
  · subst w0
    have w1 : i = 0 ∨ i = 1 ∨ i = 2 ∨ i = 3 := by omega
    rcases w1 with rfl | rfl | rfl | rfl
    all_goals repeat (first | exact Or.inr ⟨rfl, rfl⟩ | apply Or.inl)
  · subst w0
    repeat (first | exact Or.inr ⟨rfl, w⟩ | apply Or.inl)
  · rcases w0 with rfl | rfl | rfl
    all_goals repeat (first | exact Or.inr ⟨rfl, w⟩ | apply Or.inl)
  · subst w0
    repeat (first | exact Or.inr ⟨rfl, w⟩ | apply Or.inl)
  · rcases w0 with rfl | rfl
    all_goals repeat (first | exact Or.inr ⟨rfl, w⟩ | apply Or.inl)
theorem fkR.copy {R : Nat → Int} {J : am_H} {i : Nat} (c : fkR h q R J i) (k : cI h h1 o q 9 bcD) (hi : i ≤ 60) (h2 : R 2 ≤ 48) : fkR h1 o R J i := by
  have f : ∀ j i, j < 9 → bcD j i → h1 (o + j) i = h (q + j) i := k.2
  obtain ⟨c1, c2, c3, c4, c5, ⟨b1, b2, b3, b4⟩, c7, c8⟩ := c
  have e5 : h1 (o + 5) 2 = h (q + 5) 2 := f 5 2 (by omega) (by unfold bcD; omega)
  have e6 : ∀ j, j < 384 → h1 (o + 5 + 1) j = h (q + 5 + 1) j := fun j hj => f 6 j (by omega) (by unfold bcD; omega)
  have e7 : ∀ j, j < 384 → h1 (o + 5 + 2) j = h (q + 5 + 2) j := fun j hj => f 7 j (by omega) (by unfold bcD; omega)
  refine ⟨?_, fun j hj => ?_, fun p hp => ?_, c4, c5, ⟨fun p n hp hn => ?_, fun p n hp hn hn2 => ?_, b3, ?_⟩, c7, c8⟩
  · have g : ∀ i, i < 4 → h1 o i = h q i := fun i hi => f 0 i (by omega) (by unfold bcD; omega)
    rw [g 0 (by omega), g 1 (by omega), g 2 (by omega), g 3 (by omega)]
    exact c1
  · rw [f 1 j (by omega) (by unfold bcD; omega)]
    exact c2 j hj
  · rw [f 2 p (by omega) (by unfold bcD; omega), f 3 p (by omega) (by unfold bcD; omega), f 4 p (by omega) (by unfold bcD; omega)]
    exact c3 p hp
  · rw [e6 _ (by omega), e7 _ (by omega), e5]
    exact b1 p n hp hn
  · rw [e7 _ (by omega)]
    exact b2 p n hp hn hn2
  · rw [e5]
    exact ⟨b4.1, b4.2.1, b4.2.2.1, fun j hj => by rw [e6 j hj]; exact b4.2.2.2 j hj⟩
end
