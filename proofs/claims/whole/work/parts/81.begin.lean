/-! contracts: the class's State: a village begun -/
section
variable {d : Nat} {Y : am_Y} {h h1 : am_H} {o q : Nat} {R N : Nat → Int}
/-- a book begun is a book with no line, ended -/
theorem bk_none {b : Nat} (c : bkR h b R (jClr jZ) 0 0) (hV : wV R) (hy : h b 1 = 0) (f : Nat → LN) : fkR h b R (jBook R f 0 jZ) 0 := by
  have hz := hV.1.z
  have hz' := hz
  unfold rz at hz'
  refine c.fin hV hy (fun p hp => ?_) (fun _ _ => rfl)
  obtain ⟨e8, e80, e6, -⟩ := jEnd_is (R := R) (J := jClr jZ) hz
  have z : ∀ p q k : Nat, p < 8 → q < 8 → k < 6 → brk (jClr jZ) p q k = 0 := by
    intro p q k hp hq hk
    have lt : jb (p : Int) (q : Int) (k : Int) < 384 := by rw [jb_n]; omega
    have a8 : jClr jZ 8 (jb p q k) = 0 := by
      show fil (jZ 8) 0 384 _ = 0
      unfold fil
      rw [if_pos lt]
    have a2 : jClr jZ 2 (jb p q k) = -1 := by
      show fil (jZ 2) (-1) 384 _ = -1
      unfold fil
      rw [if_pos lt]
    have a4 : jClr jZ 0 4 = 0 := rfl
    unfold brk
    rw [if_neg]
    rw [a8, a2, a4]
    rintro ⟨w | w, -⟩
    · exact w rfl
    · omega
  have c4 : h (b + 4) p = jClr jZ 6 p := (c.2.2.1 p hp).2.2
  rw [c4, e6]
  split
  · rw [sm_zero _ fun q hq => sm_zero _ fun k hk => z p q k (by omega) (by omega) (by omega)]
    omega
  · omega
theorem ac_St_begin (hY : am_at Y o am_L7) (hYq : am_at Y q am_L9) (dis : q + 11 ≤ o ∨ o + 24 ≤ q) (c : vR h q (R 1) R N) (hV : wV R) : am_cV am_State_beginVillage (d + 3) Y [.inr (.inr o), .inr (.inr q)] h (fun h1 => vR h1 (o + 1) (R 1) R N ∧ (∀ f, fkR h1 (o + 12) R (jBook R f 0 jZ) 0) ∧ (∀ p : Nat, p < 8 → h1 (o + 21) p = 0 ∧ h1 (o + 22) p = 0) ∧ h1 o 5 = 0 ∧ (∀ r, (r < o ∨ o + 24 ≤ r) → h1 r = h r) ∧ h1 o 6 = h o 6 ∧ h1 (o + 1) 0 = h q 0) := by
  have hz := hV.1.z
  unfold rz at hz
  have w2 := wr_2 hV.1
  refine am_Met.of (by decide) rfl (Nat.le_of_ble_eq_true rfl) (ab_State_beginVillage_0 hY hYq ?_)
  refine am_kV.of (ac_V_copy (d := 0) (hY.sub 1 rfl) hYq (by omega)) (by omega) fun h1 _ k1 => ?_
  have v1 := c.copy k1 ⟨by omega, by omega, w2.2⟩
  refine am_kV.of (ac_Book_begin (d := 0) (hY.sub 12 rfl) hV) (by omega) fun h2 _ k2 => ?_
  obtain ⟨b1, b2, b3⟩ := k2
  refine am_kV.of (ac_fillI (d := 0) (hY 21 _ rfl) (by omega)) (by omega) fun h3 _ k3 => ?_
  refine am_kV.of (ac_fillI (d := 0) (hY 22 _ rfl) (by omega)) (by omega) fun h4 _ k4 => ?_
  intro h5 e5
  have s5 : ∀ r, r ≠ o → h5 r = h4 r := fun r hr => by rw [e5, am_u_n _ _ _ _ r hr]
  rw [am_qV_s]
  refine ⟨v1.but fun r a b => ?_, fun f => (bk_none (b1 jZ) hV b2 f).but fun r a b => ?_, fun p hp => ⟨?_, ?_⟩, ?_, fun r hr => ?_, ?_, ?_⟩
  · rw [s5 r (by omega), k4.1 r (by omega), k3.1 r (by omega), b3 r (by omega)]
  · rw [s5 r (by omega), k4.1 r (by omega), k3.1 r (by omega)]
  · rw [s5 _ (by omega), k4.1 _ (by omega), k3.2 p (by omega)]
  · rw [s5 _ (by omega), k4.2 p (by omega)]
  · rw [e5, am_u_s]
  · rw [s5 r (by omega), k4.1 r (by omega), k3.1 r (by omega), b3 r (by omega), k1.1 r (by omega)]
  · rw [e5, am_u_j (by omega), k4.1 _ (by omega), k3.1 _ (by omega), b3 _ (by omega), k1.1 _ (by omega)]
  · rw [s5 _ (by omega), k4.1 _ (by omega), k3.1 _ (by omega), b3 _ (by omega)]
    exact k1.2 0 0 (by omega) (Or.inl ⟨rfl, by omega⟩)
end
