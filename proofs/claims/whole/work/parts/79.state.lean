/-! a State of the class beside a row of the reference; its copy -/
theorem cp_s {h h1 : am_H} {a b n : Nat} (e : h1 = am_cp h a b 0 0 n) : (∀ r, r ≠ b → h1 r = h r) ∧ ∀ i, i < n → h1 b i = h a i := by
  refine ⟨fun r hr => ?_, fun i hi => ?_⟩
  · rw [e]
    funext i
    unfold am_cp
    rw [if_neg fun z => hr z.1]
  · rw [e]
    unfold am_cp
    rw [if_pos ⟨rfl, by omega, by omega⟩, show 0 + (i - 0) = i by omega]
def stS (h : am_H) (o : Nat) (A : Nat → Int) : Prop := A 590 = 0 ∧ h o 5 = 0 ∨ A 590 = 1 ∧ ∃ (n : Nat) (T : SS × Int) (s : Nat → Int), h o 5 = (n : Int) ∧ n ≤ 200 ∧ (∀ i, i < n → h (o + 23) i = s i) ∧ pSen (lxs s n 200 0) = .inr T ∧ A 591 = T.2 ∧ sNA A T.1.1
def stR (h : am_H) (o : Nat) (A N : Nat → Int) : Prop :=
  vR h (o + 1) (A 1) A N ∧ wV A ∧ lnsOK A ∧ fkR h (o + 12) A (jBook A (lnA A) (A 341).toNat jZ) (A 341).toNat ∧
  (∀ p : Nat, p < 8 → h (o + 21) p = A (325 + 2 * p) ∧ h (o + 22) p = A (326 + 2 * p)) ∧ stS h o A
section
variable {d : Nat} {Y : am_Y} {h h1 : am_H} {o q : Nat} {A N : Nat → Int}
theorem stS.len (c : stS h o A) : 0 ≤ h o 5 ∧ h o 5 ≤ 200 := by
  rcases c with c | ⟨-, n, T, s, c, c2, -⟩ <;> omega
theorem ac_St_copy (hY : am_at Y o am_L7) (hYq : am_at Y q am_L7) (dis : q + 24 ≤ o ∨ o + 24 ≤ q) (c : stR h q A N) : am_cV am_State_copyFrom (d + 4) Y [.inr (.inr o), .inr (.inr q)] h (fun h1 => stR h1 o A N ∧ (∀ r, (r < o ∨ o + 24 ≤ r) → h1 r = h r) ∧ h1 o 6 = h o 6) := by
  obtain ⟨c1, c2, c3, c4, c5, c6⟩ := c
  have hz := c2.1.z
  unfold rz at hz
  have w2 := wr_2 c2.1
  have l3 : 0 ≤ A 341 ∧ A 341 ≤ 60 := ⟨c3.1, c3.2.1⟩
  refine am_Met.of (by decide) rfl (Nat.le_of_ble_eq_true rfl) (ab_State_copyFrom_0 hY hYq ?_)
  refine am_kV.of (ac_V_copy (d := 0) (hY.sub 1 rfl) (hYq.sub 1 rfl) (by omega)) (by omega) fun h1 _ k1 => ?_
  refine am_kV.of (ac_B_copy (d := 0) (hY.sub 12 rfl) (hYq.sub 12 rfl) (by omega)) (by omega) fun h2 _ k2 => ?_
  refine ⟨by omega, ⟨by omega, by omega, by omega, by omega, by omega⟩, fun h3 e3 => ⟨by omega, ⟨by omega, by omega, by omega, by omega, by omega⟩, fun h4 e4 => ?_⟩⟩
  obtain ⟨s3, u3⟩ := cp_s e3
  obtain ⟨s4, u4⟩ := cp_s e4
  have q4 : ∀ r, (r < o + 1 ∨ o + 23 ≤ r) → h4 r = h r := fun r hr => by rw [s4 r (by omega), s3 r (by omega), k2.1 r (by omega), k1.1 r (by omega)]
  have e5 : h4 q 5 = h q 5 := by rw [q4 q (by omega)]
  have len := c6.len
  rw [e5]
  have bk1 : fkR h1 (q + 12) A (jBook A (lnA A) (A 341).toNat jZ) (A 341).toNat := c4.but fun r a b => k1.1 r (by omega)
  have bk2 := bk1.copy k2 (by omega) w2.2
  have v1 := c1.copy k1 ⟨by omega, by omega, w2.2⟩
  refine ⟨3, by omega, am_Met.of (by decide) rfl (Nat.le_of_ble_eq_true rfl) (ab_State_keepSentence_0 hY (hYq 23 _ rfl) ⟨fun z => by omega, fun _ => ⟨fun z => by omega, fun _ => ⟨by omega, fun _ => ⟨by omega, ⟨by omega, by omega, by omega, by omega, by omega⟩, fun h5 e5 h6 e6 => ?_⟩, fun z => by omega⟩⟩⟩)⟩
  obtain ⟨s5, u5⟩ := cp_s e5
  rw [am_qV_s, am_qV_s]
  have q6 : ∀ r, r ≠ o → r ≠ o + 23 → h6 r = h4 r := fun r a b => by rw [e6, am_u_n _ _ _ _ r a, s5 r b]
  refine ⟨⟨v1.but fun r a b => ?_, c2, c3, bk2.but fun r a b => ?_, fun p hp => ?_, ?_⟩, fun r hr => ?_, ?_⟩
  · rw [q6 r (by omega) (by omega), s4 r (by omega), s3 r (by omega), k2.1 r (by omega)]
  · rw [q6 r (by omega) (by omega), s4 r (by omega), s3 r (by omega)]
  · rw [q6 (o + 21) (by omega) (by omega), q6 (o + 22) (by omega) (by omega), u4 p hp, s4 (o + 21) (by omega), u3 p hp, s3 (q + 22) (by omega), k2.1 _ (by omega), k2.1 _ (by omega), k1.1 _ (by omega), k1.1 _ (by omega)]
    exact c5 p hp
  · have f5 : h6 o 5 = h q 5 := by rw [e6, am_u_s]
    rcases c6 with ⟨a, b⟩ | ⟨a, n, T, s, b1, b2, b3, b4⟩
    · exact Or.inl ⟨a, by rw [f5]; exact b⟩
    · refine Or.inr ⟨a, n, T, s, by rw [f5]; exact b1, b2, fun i hi => ?_, b4⟩
      rw [e6, am_u_n _ _ _ _ _ (by omega), u5 i (by omega), q4 _ (by omega)]
      exact b3 i hi
  · rw [q6 r (by omega) (by omega), q4 r (by omega)]
  · rw [e6, am_u_j (by omega), s5 o (by omega), q4 o (by omega)]
end
