/-! contracts: the reference's village, before and behind its lines -/
def cpy (A R : Nat → Int) (k : Nat) : Nat → Int := fun i => if i < k then R i else A i
theorem cpy_0 (A R : Nat → Int) : cpy A R 0 = A := by
  funext i
  exact if_neg (by omega)
theorem cpy_s (A R : Nat → Int) (k : Nat) : up (cpy A R k) k (R k) = cpy A R (k + 1) := by
  funext i
  unfold up cpy
  by_cases e : i = k
  · rw [if_pos e, if_pos (by omega), e]
  · rw [if_neg e]
    by_cases c : i < k
    · rw [if_pos c, if_pos (by omega)]
    · rw [if_neg c, if_neg (by omega)]
/-- the row as a village's text begins; what a good one leaves -/
def pInit (R : Nat → Int) : Nat → Int := up (up (up (zer R 0 325) 3 3) 4 50) 5 10
def pNow (A R : Nat → Int) : Nat → Int := up (up (zer (cpy A R 325) 325 16) 341 0) 590 0
theorem pInit_v (R : Nat → Int) : wV (pInit R) := by
  have e : ∀ i, i < 325 → i ≠ 3 → i ≠ 4 → i ≠ 5 → pInit R i = 0 := fun i h h3 h4 h5 => by
    unfold pInit
    rw [up_n h5, up_n h4, up_n h3]
    exact if_pos (by omega)
  have e3 : pInit R 3 = 3 := by unfold pInit; rw [up_n (by decide), up_n (by decide), up_s]
  have e4 : pInit R 4 = 50 := by unfold pInit; rw [up_n (by decide), up_s]
  have e5 : pInit R 5 = 10 := by unfold pInit; rw [up_s]
  refine ⟨fun i hi => ?_, ?_, ?_, ?_, ?_⟩
  · by_cases h3 : i = 3
    · rw [h3, e3]; decide
    · by_cases h4 : i = 4
      · rw [h4, e4]; decide
      · by_cases h5 : i = 5
        · rw [h5, e5]; decide
        · rw [e i hi h3 h4 h5]
          unfold wlo whi
          rw [if_neg h3]
          refine ⟨by omega, ?_⟩
          repeat' split
          all_goals omega
  · rw [e 2 (by omega) (by omega) (by omega) (by omega)]
    have : sm (fun q => pc (pInit R (85 + q))) 8 = sm (fun _ => 0) 8 := sm_congr 8 fun q hq => by
      have h0 : pc 0 = 0 := by decide +kernel
      show pc (pInit R (85 + q)) = 0
      rw [e (85 + q) (by omega) (by omega) (by omega) (by omega), h0]
    rw [this]
    rfl
  · intro n hn
    rw [e 2 (by omega) (by omega) (by omega) (by omega)] at hn
    omega
  · intro q k hq hk
    rw [e (85 + q) (by omega) (by omega) (by omega) (by omega), e 2 (by omega) (by omega) (by omega) (by omega)]
    have h0 : ∀ j : Fin 6, ¬ hb 0 (j.val : Int) := by decide +kernel
    exact ⟨fun w => absurd w (h0 ⟨k, hk⟩), fun ⟨n, hn, _⟩ => by omega⟩
  · intro n n' _ hn
    rw [e 2 (by omega) (by omega) (by omega) (by omega)] at hn
    omega
section
variable {d : Nat} {Y : am_Y} {h : am_H} {m : Nat} {c : Int} {Q : Option am_V → am_H → Prop}
theorem loop9 {h0 : am_H} (hY : am_at Y m am_L12) (hend : ∀ h1, h1 (m + 3) = pInit (h0 (m + 3)) → h1 m 23 = 0 → (∀ q, q ≠ m → q ≠ m + 3 → h1 q = h0 q) → (∀ j, j ≠ 23 → h1 m j = h0 m j) → aw_Md_village_59 d Y m 0 h1 Q) :
    ∀ i : Int, ∀ h, 0 ≤ i → i ≤ 325 → h (m + 3) = zer (h0 (m + 3)) 0 i.toNat → (∀ q, q ≠ m + 3 → h q = h0 q) → aw_Md_village_9 d Y m i h Q := by
  refine am_up _ 325 ?_ ?_
  · intro i hi h i0 i1 hR F
    have e : i = 325 := by omega
    subst e
    refine ab_Md_village_9 hY ⟨fun _ h1 x1 h2 x2 h3 x3 h4 x4 => hend h4 ?_ ?_ ?_ ?_, fun z => by omega⟩
    · rw [x4, am_u_n _ _ _ _ _ (by omega), x3, am_u_up, x2, am_u_up, x1, am_u_up, hR]
      rfl
    · rw [x4, am_u_s]
    · intro q q0 q3
      rw [x4, am_u_n _ _ _ _ _ q0, x3, am_u_n _ _ _ _ _ q3, x2, am_u_n _ _ _ _ _ q3, x1, am_u_n _ _ _ _ _ q3, F q q3]
    · intro j hj
      rw [x4, am_u_j hj, x3, am_u_n _ _ _ _ _ (by omega), x2, am_u_n _ _ _ _ _ (by omega), x1, am_u_n _ _ _ _ _ (by omega), F m (by omega)]
  · intro i hi ih h i0 i1 hR F
    refine ab_Md_village_9 hY ⟨fun z => by omega, fun _ => ⟨⟨by omega, by omega⟩, fun h5 x5 => ⟨⟨by omega, by omega⟩, ih h5 (by omega) (by omega) ?_ fun q hq => by rw [x5, am_u_n _ _ _ _ _ hq, F q hq]⟩⟩⟩
    have t := zer_s (h0 (m + 3)) 0 i.toNat
    rw [Nat.zero_add] at t
    rw [x5, am_u_up, hR, show (i + 1).toNat = i.toNat + 1 by omega]
    exact t
theorem loop88 {h0 : am_H} (hY : am_at Y m am_L12) (hend : ∀ h1, h1 (m + 2) = cpy (h0 (m + 2)) (h0 (m + 3)) 325 → (∀ q, q ≠ m + 2 → h1 q = h0 q) → am_wp am_Md_village d Y 115 [some (.inr (.inr m)), some (.inl c), some (.inl 0)] [] h1 Q) :
    ∀ i : Int, ∀ h, 0 ≤ i → i ≤ 325 → h (m + 2) = cpy (h0 (m + 2)) (h0 (m + 3)) i.toNat → (∀ q, q ≠ m + 2 → h q = h0 q) → aw_Md_village_88 d Y m c i h Q := by
  refine am_up _ 325 ?_ ?_
  · intro i hi h i0 i1 hR F
    have e : i = 325 := by omega
    subst e
    exact ab_Md_village_88 hY ⟨fun _ => hend h hR F, fun z => by omega⟩
  · intro i hi ih h i0 i1 hR F
    refine ab_Md_village_88 hY ⟨fun z => by omega, fun _ => ⟨⟨by omega, by omega⟩, ⟨by omega, by omega⟩, fun h5 x5 => ⟨⟨by omega, by omega⟩, ih h5 (by omega) (by omega) ?_ fun q hq => by rw [x5, am_u_n _ _ _ _ _ hq, F q hq]⟩⟩⟩
    rw [x5, am_u_up, hR, F (m + 3) (by omega), show (i + 1).toNat = i.toNat + 1 by omega]
    exact cpy_s _ _ _
end
