/-! a village's text, read: what every line keeps -/
/-- what a village keeps between lines -/
def wV (R : Nat → Int) : Prop := wr R ∧ co R (R 1)
theorem pNum_i {S B : VS} {a b j : Int} (e : pNum S a b j = .inr B) : ∃ v, a ≤ v ∧ v ≤ b ∧ B = (up S.1 j.toNat v, S.2.1, nx S.2.2) := by
  cases hB : pN S.2.2 a b with
  | inl q => rw [pNum_l hB] at e; cases e
  | inr C =>
    rw [pNum_r hB] at e
    cases e
    have := pN_r hB
    exact ⟨C.1, this.2.1, this.2.2, by rw [this.1]⟩
theorem w_99b {j : Nat} (hj : 5 ≤ j ∧ j < 22) : wlo j = 0 ∧ whi j = 99 := by
  unfold wlo whi
  refine ⟨if_neg (by omega), ?_⟩
  rw [if_neg (by omega), if_neg (by omega), if_neg (by omega), if_neg (by omega), if_neg (by omega), if_pos (by omega)]
theorem w_10 {j : Nat} (hj : 93 ≤ j ∧ j < 224) : wlo j = 0 ∧ whi j = 10 := by
  unfold wlo whi
  refine ⟨if_neg (by omega), ?_⟩
  rw [if_neg (by omega), if_neg (by omega), if_neg (by omega), if_neg (by omega), if_neg (by omega), if_neg (by omega), if_neg (by omega), if_neg (by omega), if_neg (by omega), if_pos (by omega)]
/-- a cell that the needs don't speak of -/
theorem co.up {R : Nat → Int} {P x : Int} {j : Nat} (c : co R P) (w : wr R) (hj : 2 < j ∧ j < 85 ∨ 93 ≤ j ∧ j < 225) : co (up R j x) P :=
  c.same (w 2 (by omega)).2 (Int.le_of_eq (up_n (by omega)).symm) (Int.le_refl _) (fun i hi => up_n (by omega))
theorem pHelp_i {S B : VS} (hV : wV S.1) (e : pHelp S = .inr B) : wV B.1 ∧ B.2.2.length ≤ (nx S.2.2).length := by
  obtain ⟨w, c⟩ := hV
  have hz := w.z
  unfold rz at hz
  unfold pHelp at e
  split at e
  · cases e
  · next c6 =>
    cases hA : pNew (S.1, S.2.1, nx S.2.2) (S.1 0) with
    | inl q => rw [hA] at e; cases e
    | inr A =>
      have A1 : A.1 = S.1 := pNew_1 (S := (S.1, S.2.1, nx S.2.2)) hA
      have A2 : A.2.2 = nx (nx S.2.2) := pNew_r (S := (S.1, S.2.1, nx S.2.2)) hA
      rw [hA] at e
      cases hB : pNum A 1 99 (10 + 2 * S.1 0) with
      | inl q => simp only [pbd, hB] at e; cases e
      | inr B' =>
        simp only [pbd, hB] at e
        obtain ⟨v, v1, v2, rfl⟩ := pNum_i hB
        cases hC : pNum (up A.1 (10 + 2 * S.1 0).toNat v, A.2.1, nx A.2.2) 0 99 (10 + 2 * S.1 0 + 1) with
        | inl q => simp only [hC] at e; cases e
        | inr C =>
          simp only [hC] at e
          obtain ⟨u, u1, u2, rfl⟩ := pNum_i hC
          cases e
          have w1 : wr (up S.1 (10 + 2 * S.1 0).toNat v) := wr_up w (by rw [(w_99b (by omega)).1, (w_99b (by omega)).2]; omega)
          have c1 : co (up S.1 (10 + 2 * S.1 0).toNat v) (S.1 1) := c.up w (by omega)
          have w2 : wr (up (up S.1 (10 + 2 * S.1 0).toNat v) (10 + 2 * S.1 0 + 1).toNat u) := wr_up w1 (by rw [(w_99b (by omega)).1, (w_99b (by omega)).2]; omega)
          have c2 : co (up (up S.1 (10 + 2 * S.1 0).toNat v) (10 + 2 * S.1 0 + 1).toNat u) (S.1 1) := c1.up w1 (by omega)
          have e0 : up (up S.1 (10 + 2 * S.1 0).toNat v) (10 + 2 * S.1 0 + 1).toNat u 0 = S.1 0 := by rw [up_n (by omega), up_n (by omega)]
          have e1 : up (up S.1 (10 + 2 * S.1 0).toNat v) (10 + 2 * S.1 0 + 1).toNat u 1 = S.1 1 := by rw [up_n (by omega), up_n (by omega)]
          simp only [A1, A2]
          rw [e0]
          refine ⟨⟨wr_up w2 ?_, ?_⟩, ?_⟩
          · show (0 : Int) ≤ S.1 0 + 1 ∧ S.1 0 + 1 ≤ 6
            omega
          · rw [up_n (by omega), e1]
            exact c2.same (w2 2 (by omega)).2 (by rw [up_s, e0]; omega) (Int.le_refl _) (fun i hi => up_n (by omega))
          · have := nx_le (nx S.2.2)
            have := nx_le (nx (nx S.2.2))
            have := nx_le (nx (nx (nx S.2.2)))
            omega
theorem pTie_i {S B : VS} {x : Int} (hx : x = 95 ∨ x = 160) (hV : wV S.1) (e : pTie S x = .inr B) : wV B.1 ∧ B.2.2.length ≤ (nx S.2.2).length := by
  obtain ⟨w, c⟩ := hV
  have hz := w.z
  unfold rz at hz
  have who : ∀ (r : List TK) (p : Int), pWho (S.1, S.2.1, r) = .inr p → 0 ≤ p ∧ p < 8 := by
    intro r p hp
    have hf := pF_rg S.1 S.2.1 (hd r).2.2 w.z
    unfold pWho at hp
    split at hp
    · split at hp
      · cases hp
      · next h6 =>
        cases hp
        simp only at h6 ⊢
        omega
    · cases hp
  cases hp : pWho (S.1, S.2.1, nx S.2.2) with
  | inl q => rw [pTie_bad hp] at e; cases e
  | inr p =>
    rw [pTie_2 hp] at e
    have p8 := who _ _ hp
    unfold pTie2 at e
    cases hq : pWho (S.1, S.2.1, nx (nx S.2.2)) with
    | inl q => simp only [pbd, hq] at e; cases e
    | inr q =>
      have q8 := who _ _ hq
      simp only [pbd, hq] at e
      split at e
      · cases e
      · obtain ⟨v, v1, v2, rfl⟩ := pNum_i e
        refine ⟨⟨wr_up w (by rw [(w_10 (by omega)).1, (w_10 (by omega)).2]; omega), ?_⟩, ?_⟩
        · show co _ (up S.1 _ v 1)
          rw [up_n (by omega)]
          exact c.up w (by omega)
        · have := nx_le (nx S.2.2)
          have := nx_le (nx (nx S.2.2))
          have := nx_le (nx (nx (nx S.2.2)))
          simp only
          omega
theorem pOnce_i {S B : VS} {g x : Int} (hx : x = 4 ∨ x = 5 ∨ x = 6) (hV : wV S.1) (e : pOnce g S x = .inr B) : wV B.1 ∧ B.2.2.length ≤ (nx S.2.2).length := by
  obtain ⟨w, c⟩ := hV
  unfold pOnce at e
  split at e
  · cases e
  · obtain ⟨v, v1, v2, rfl⟩ := pNum_i e
    have hj : (oCell x).toNat = 3 ∨ (oCell x).toNat = 4 ∨ (oCell x).toNat = 5 := by
      rcases hx with rfl | rfl | rfl <;> decide
    have hb' : wlo (oCell x).toNat = oLo x ∧ whi (oCell x).toNat = oHi x := by
      rcases hx with rfl | rfl | rfl <;> decide
    refine ⟨⟨wr_up w (by rw [hb'.1, hb'.2]; exact ⟨v1, v2⟩), ?_⟩, nx_le _⟩
    show co _ (up S.1 _ v 1)
    rw [up_n (by omega)]
    exact c.up w (by omega)
