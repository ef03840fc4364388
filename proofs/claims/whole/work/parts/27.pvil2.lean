/-! a village's text, read: what is kept by a need told, and by numbers -/
theorem w_63 {j : Nat} (hj : 85 ≤ j ∧ j < 93) : wlo j = 0 ∧ whi j = 63 := by
  unfold wlo whi
  refine ⟨if_neg (by omega), ?_⟩
  rw [if_neg (by omega), if_neg (by omega), if_neg (by omega), if_neg (by omega), if_neg (by omega), if_neg (by omega), if_neg (by omega), if_neg (by omega), if_pos (by omega)]
theorem w_7 {j : Nat} (hj : 225 ≤ j ∧ j < 321) : wlo j = 0 ∧ whi j = 7 := by
  unfold wlo whi
  refine ⟨if_neg (by omega), ?_⟩
  rw [if_neg (by omega), if_neg (by omega), if_neg (by omega), if_neg (by omega), if_neg (by omega), if_neg (by omega), if_neg (by omega), if_neg (by omega), if_neg (by omega), if_neg (by omega), if_pos (by omega)]
section
variable {R : Nat → Int} {P p k : Int}
theorem pNeed_2 : pNeed R p k 2 = R 2 + 1 := up_s _ _ _
theorem pNeed_n {i : Nat} (h2 : 0 ≤ R 2 ∧ R 2 < 48) (hp : 0 ≤ p ∧ p < 8) (i2 : i ≠ 2) (ip : (i : Int) ≠ 85 + p) (ia : (i : Int) ≠ 225 + 2 * R 2) (ib : (i : Int) ≠ 226 + 2 * R 2) : pNeed R p k i = R i := by
  unfold pNeed
  rw [up_n i2, up_n (by omega), up_n (by omega), up_n (by omega)]
theorem pNeed_p (h2 : 0 ≤ R 2 ∧ R 2 < 48) (hp : 0 ≤ p ∧ p < 8) : pNeed R p k (85 + p.toNat) = am_or (R (85 + p).toNat) (am_shl 1 k) := by
  unfold pNeed
  rw [up_n (by omega), up_n (by omega), up_n (by omega), show 85 + p.toNat = (85 + p).toNat by omega, up_s]
theorem pNeed_a (h2 : 0 ≤ R 2 ∧ R 2 < 48) : pNeed R p k (225 + 2 * (R 2).toNat) = p := by
  unfold pNeed
  rw [up_n (by omega), up_n (by omega), show 225 + 2 * (R 2).toNat = (225 + 2 * R 2).toNat by omega, up_s]
theorem pNeed_b (h2 : 0 ≤ R 2 ∧ R 2 < 48) : pNeed R p k (226 + 2 * (R 2).toNat) = k := by
  unfold pNeed
  rw [up_n (by omega), show 226 + 2 * (R 2).toNat = (225 + 2 * R 2 + 1).toNat by omega, up_s]
theorem wr_c (w : wr R) {q : Nat} (hq : q < 8) : 0 ≤ R (85 + q) ∧ R (85 + q) ≤ 63 := by
  have := w (85 + q) (by omega)
  rw [(w_63 (j := 85 + q) (by omega)).1, (w_63 (j := 85 + q) (by omega)).2] at this
  exact this
theorem pNeed_wr (w : wr R) (h2 : 0 ≤ R 2 ∧ R 2 < 48) (hp : 0 ≤ p ∧ p < 8) (hk : 0 ≤ k ∧ k < 6) (hn : ¬ hb (R (85 + p).toNat) k) : wr (pNeed R p k) := by
  have hx := wr_c w (q := p.toNat) (by omega)
  rw [show 85 + p.toNat = (85 + p).toNat by omega] at hx
  have ho := hb_or hx hk hn
  unfold pNeed
  refine wr_up (wr_up (wr_up (wr_up w ?_) ?_) ?_) ?_
  · rw [(w_63 (by omega)).1, (w_63 (by omega)).2]
    exact ⟨ho.1, ho.2.1⟩
  · rw [(w_7 (by omega)).1, (w_7 (by omega)).2]
    omega
  · rw [(w_7 (by omega)).1, (w_7 (by omega)).2]
    omega
  · show (0 : Int) ≤ R 2 + 1 ∧ R 2 + 1 ≤ 48
    omega
theorem pNeed_co (c : co R P) (w : wr R) (h2 : 0 ≤ R 2 ∧ R 2 < 48) (hp : 0 ≤ p ∧ p < 8) (hpP : p < P) (hk : 0 ≤ k ∧ k < 6) (hk0 : k < R 0) (hn : ¬ hb (R (85 + p).toNat) k) : co (pNeed R p k) P := by
  obtain ⟨c1, c2, c3, c4⟩ := c
  have hx := wr_c w (q := p.toNat) (by omega)
  have e85 : (85 + p).toNat = 85 + p.toNat := by omega
  rw [e85] at hn
  have ho := hb_or hx hk hn
  have ep := pNeed_p (R := R) (k := k) h2 hp
  rw [e85] at ep
  have eq : ∀ q : Nat, q < 8 → (q : Int) ≠ p → pNeed R p k (85 + q) = R (85 + q) := fun q hq hqp => pNeed_n h2 hp (by omega) (by omega) (by omega) (by omega)
  have ea : ∀ n : Nat, (n : Int) < R 2 → pNeed R p k (225 + 2 * n) = R (225 + 2 * n) := fun n hn => pNeed_n h2 hp (by omega) (by omega) (by omega) (by omega)
  have eb : ∀ n : Nat, (n : Int) < R 2 → pNeed R p k (226 + 2 * n) = R (226 + 2 * n) := fun n hn => pNeed_n h2 hp (by omega) (by omega) (by omega) (by omega)
  have e0 : pNeed R p k 0 = R 0 := pNeed_n h2 hp (by omega) (by omega) (by omega) (by omega)
  have eN : ∀ n : Nat, (n : Int) < R 2 + 1 → ¬ (n : Int) < R 2 → n = (R 2).toNat := fun n h1 h2 => by omega
  refine ⟨?_, ?_, ?_, ?_⟩
  · rw [pNeed_2]
    have h1 := sm_set (f := fun q => pc (R (85 + q))) (g := fun q => if q = p.toNat then pc (R (85 + q)) + 1 else pc (R (85 + q))) (p := p.toNat) (y := 1) (by simp only [if_true]) (fun q hq => by simp only [if_neg hq]) 8
    rw [if_pos (by omega), ← c1] at h1
    rw [← h1]
    refine sm_congr 8 fun q hq => ?_
    by_cases e : q = p.toNat
    · subst e
      rw [if_pos rfl, ep, ho.2.2.1]
    · rw [if_neg e, eq q hq (by omega)]
  · intro n hnn
    rw [pNeed_2] at hnn
    rw [e0]
    by_cases h : (n : Int) < R 2
    · rw [ea n h, eb n h]
      exact c2 n h
    · rw [eN n hnn h, pNeed_a h2, pNeed_b h2]
      omega
  · intro q j hq hj
    rw [pNeed_2]
    by_cases e : (q : Int) = p
    · have eqn : q = p.toNat := by omega
      subst eqn
      rw [ep, ho.2.2.2.2 j hj]
      constructor
      · rintro (ejk | hh)
        · exact ⟨(R 2).toNat, by omega, by rw [pNeed_a h2]; omega, by rw [pNeed_b h2]; omega⟩
        · obtain ⟨n, hn1, hn2, hn3⟩ := (c3 _ j hq hj).mp hh
          exact ⟨n, by omega, by rw [ea n hn1]; exact hn2, by rw [eb n hn1]; exact hn3⟩
      · rintro ⟨n, hn1, hn2, hn3⟩
        by_cases h : (n : Int) < R 2
        · rw [ea n h] at hn2
          rw [eb n h] at hn3
          exact Or.inr ((c3 _ j hq hj).mpr ⟨n, h, hn2, hn3⟩)
        · rw [eN n hn1 h, pNeed_b h2] at hn3
          exact Or.inl hn3.symm
    · rw [eq q hq e, c3 q j hq hj]
      constructor
      · rintro ⟨n, hn1, hn2, hn3⟩
        exact ⟨n, by omega, by rw [ea n hn1]; exact hn2, by rw [eb n hn1]; exact hn3⟩
      · rintro ⟨n, hn1, hn2, hn3⟩
        by_cases h : (n : Int) < R 2
        · rw [ea n h] at hn2
          rw [eb n h] at hn3
          exact ⟨n, h, hn2, hn3⟩
        · rw [eN n hn1 h, pNeed_a h2] at hn2
          exact absurd hn2.symm e
  · intro n n' hnn hn'
    rw [pNeed_2] at hn'
    have hnl : (n : Int) < R 2 := by omega
    rw [ea n hnl, eb n hnl]
    by_cases h : (n' : Int) < R 2
    · rw [ea n' h, eb n' h]
      exact c4 n n' hnn h
    · rw [eN n' hn' h, pNeed_a h2, pNeed_b h2]
      rintro ⟨x1, x2⟩
      refine hn ?_
      have := (c3 p.toNat k.toNat (by omega) (by omega)).mpr ⟨n, hnl, by omega, by omega⟩
      rw [show ((k.toNat : Nat) : Int) = k by omega] at this
      exact this
end
