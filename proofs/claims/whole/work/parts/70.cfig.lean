/-! contracts: what came of a person: the class's and the reference's -/
def flr (R : Nat → Int) (J : am_H) (p : Nat) : Nat → Int
  | 0 => J 4 p
  | n + 1 => am_w (flr R J p n + (am_w (R (95 + 8 * p + n) * J 4 n)).tdiv 10)
def jFig (R : Nat → Int) (J : am_H) (p : Nat) (w : Int) : Int :=
  if w = 0 then J 4 p else if w = 1 then flr R J p (R 1).toNat else if w = 2 then J 5 p else if w = 3 then jCnt R J p (J 0 4) else J 6 p
theorem w_rg (x : Int) : am_ri (am_w x) := by
  have := (Int32.ofInt x).toInt_lt
  have := (Int32.ofInt x).le_toInt
  unfold am_ri am_w
  omega
theorem ten_rg {x : Int} (h : am_ri x) : am_ri (x.tdiv 10) := by
  unfold am_ri at *
  have := Int.natAbs_tdiv x 10
  have : (x.tdiv 10).natAbs ≤ x.natAbs := by
    rw [Int.natAbs_tdiv]
    exact Nat.div_le_self _ _
  have : (x.tdiv 10).natAbs ≤ 214748364 := by
    rw [Int.natAbs_tdiv]
    show x.natAbs / 10 ≤ _
    omega
  omega
section
variable {d : Nat} {Y : am_Y} {h : am_H} {b v : Nat} {R N : Nat → Int} {J : am_H} {i : Nat}
theorem hasPK {p : Int} {K : Int → am_H → Prop} (hYv : am_at Y v am_L9) (c : vR h v (R 1) R N) (hp : 0 ≤ p ∧ p < R 1) (hd : 0 < d) (hK : K 1 h) : am_kI am_Village_hasPerson d Y [.inr (.inr v), .inl p] h K := by
  refine am_kI.of (ac_hasPerson (d := 0) hYv) hd ?_
  rintro r h1 - - ⟨rfl, rfl⟩
  have e : vin h1 v 2 p = 1 := by
    unfold vin
    rw [c.1.2.1, if_pos hp]
  rw [e]
  exact hK
theorem friendK {p q : Int} {K : Int → am_H → Prop} (hYv : am_at Y v am_L9) (c : vR h v (R 1) R N) (hV : wV R) (hp : 0 ≤ p ∧ p < R 1) (hq : 0 ≤ q ∧ q < R 1) (hd : 1 < d) (hK : K (R (95 + 8 * p.toNat + q.toNat)) h) : am_kI am_Village_friendship d Y [.inr (.inr v), .inl p, .inl q] h K := by
  have hz := hV.1.z
  unfold rz at hz
  refine ⟨1, hd, am_Met.of (by decide) rfl (Nat.le_of_ble_eq_true rfl) (ab_Village_friendship_0 hYv ?_)⟩
  refine hasPK hYv c hp (by omega) ⟨fun z => absurd z (by decide), fun _ => hasPK hYv c hq (by omega) ⟨fun z => absurd z (by decide), fun _ => ⟨⟨by omega, by omega⟩, ⟨by omega, by omega⟩, ⟨by omega, by omega⟩, ?_⟩⟩⟩
  rw [am_qI_s, (c.2.2.2.2.1 (p * 8 + q).toNat (by omega)).1, show 95 + (p * 8 + q).toNat = 95 + 8 * p.toNat + q.toNat by omega]
  exact hK
theorem ac_Book_felt {p : Nat} (hY : am_at Y b am_L2) (hYv : am_at Y v am_L9) (cv : vR h v (R 1) R N) (hV : wV R) (c : ∀ p, p < 8 → h (b + 2) p = J 4 p) (hp : (p : Int) < R 1) : am_cI am_Book_felt (d + 2) Y [.inr (.inr b), .inr (.inr v), .inl (p : Int)] h (fun x h1 => h1 = h ∧ x = flr R J p (R 1).toNat) := by
  have hz := hV.1.z
  unfold rz at hz
  have lp : ∀ n : Nat, n ≤ (R 1).toNat → aw_Book_felt_10 (d + 2) Y b v (p : Int) (flr R J p n) (n : Int) h (am_qI (fun x h1 => h1 = h ∧ x = flr R J p (R 1).toNat)) := by
    refine am_upN _ _ ?_ ?_
    · refine ab_Book_felt_10 hY hYv ⟨fun _ => ?_, fun z => by rw [cv.1.2.1] at z; omega⟩
      rw [am_qI_s]
      exact ⟨rfl, rfl⟩
    · intro n hn ih
      refine ab_Book_felt_10 hY hYv ⟨fun z => by rw [cv.1.2.1] at z; omega, fun _ => ?_⟩
      refine friendK hYv cv hV ⟨by omega, hp⟩ ⟨by omega, by omega⟩ (by omega) ⟨⟨by omega, by omega⟩, by decide, ten_rg (w_rg _), ⟨by omega, by omega⟩, ?_⟩
      rw [Int.toNat_natCast, Int.toNat_natCast, c n (by omega)]
      exact ih
  refine am_Met.of (by decide) rfl (Nat.le_of_ble_eq_true rfl) (ab_Book_felt_0 hY hYv ⟨⟨by omega, by omega⟩, ?_⟩)
  rw [Int.toNat_natCast, c p (by omega)]
  exact lp 0 (by omega)
theorem ac_Book_figure {p : Nat} {w : Int} (hY : am_at Y b am_L2) (hYv : am_at Y v am_L9) (cv : vR h v (R 1) R N) (hV : wV R) (c : fkR h b R J i) (hp : (p : Int) < R 1) : am_cI am_Book_figure (d + 3) Y [.inr (.inr b), .inr (.inr v), .inl (p : Int), .inl w] h (fun x h1 => h1 = h ∧ x = jFig R J p w) := by
  have hz := hV.1.z
  have hz' := hz
  unfold rz at hz'
  obtain ⟨⟨c1, c2, c3, c4⟩, c5, c6, c7, c8, c9, cA, cB⟩ := c
  have c6p := c6 p (by omega)
  have h2 := wr_2 hV.1
  refine am_Met.of (by decide) rfl (Nat.le_of_ble_eq_true rfl) (ab_Book_figure_0 hY hYv (hasPK hYv cv ⟨by omega, hp⟩ (by omega) ⟨fun _ => ⟨fun w4 => ⟨⟨by omega, by omega⟩, ?_⟩, fun w0 => ⟨⟨by omega, by omega⟩, ?_⟩, fun w1 => ?_, fun w2 => ⟨⟨by omega, by omega⟩, ?_⟩, fun w3 => ⟨⟨by omega, by omega⟩, ?_⟩⟩, fun z => absurd z (by decide)⟩))
  · rw [am_qI_s, Int.toNat_natCast, c6p.2.2]
    unfold jFig
    rw [if_neg (by omega), if_neg (by omega), if_neg (by omega), if_neg (by omega)]
    exact ⟨rfl, rfl⟩
  · rw [am_qI_s, Int.toNat_natCast, c6p.1]
    unfold jFig
    rw [if_pos w0]
    exact ⟨rfl, rfl⟩
  · refine am_kI.of (ac_Book_felt (d := 0) hY hYv cv hV (fun p hp => (c6 p hp).1) hp) (by omega) ?_
    rintro x h1 - - ⟨rfl, rfl⟩
    rw [am_qI_s]
    unfold jFig
    rw [if_neg (by omega), if_pos w1]
    exact ⟨rfl, rfl⟩
  · rw [am_qI_s, Int.toNat_natCast, c6p.2.1]
    unfold jFig
    rw [if_neg (by omega), if_neg (by omega), if_pos w2]
    exact ⟨rfl, rfl⟩
  · refine standingK (hY.sub 5 rfl) ⟨by omega, by omega⟩ (by omega) ?_
    rw [am_qI_s, c2, Int.toNat_natCast, c9.standing hV.2 hz h2 (by omega) (by omega)]
    unfold jFig
    rw [if_neg (by omega), if_neg (by omega), if_neg (by omega), if_pos w3]
    exact ⟨rfl, rfl⟩
end
