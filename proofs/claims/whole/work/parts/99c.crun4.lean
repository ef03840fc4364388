/-! the class's run: plans, and whole -/
theorem crD.year {h : am_H} {o : Nat} {A : Nat → Int} {Z : am_H} {y : Int} (c : crD h o A Z y) (w : wV A) (hy : 0 ≤ y) : crD h o A Z (y + 1) := by
  obtain ⟨c1, c2, c3, c4⟩ := c
  exact ⟨c1, c2, c3, c4.year (J' := zJ Z (y + 1)) w.2 w.1.z rfl rfl rfl (fun _ => Or.inl rfl) (fun _ _ _ _ => Or.inl rfl) hy⟩
/-- a plan as it should be -/
def plO (h : am_H) (o : Nat) (A : Nat → Int) (T : Int) (p n : Nat) : Prop := (A (325 + 2 * p) = 3 → plR (h (o + 22) (48 * p + n)) (pmA A (p : Int) (n : Int) 0) T) ∧ (A (326 + 2 * ndP A (n : Int)).toNat = 2 → plR (h (o + 23) (48 * p + n)) (pmA A (p : Int) (n : Int) 1) T)
section
variable {Y : am_Y} {h h1 : am_H} {o d : Nat} {A N : Nat → Int} {T : Int} {p n : Nat}
theorem best_R {K : am_H → Prop} {law : Int} (hY : am_at Y o am_L5) (c : vR h (o + 3) (A 1) A N) (w : wV A) (q : asked A (p : Int) (n : Int)) (ht : 0 ≤ T ∧ T ≤ 20) (hd : 3 < d) (k : ∀ h1, am_ok Y h1 → (∀ q, q ≠ o + 19 → q ≠ o + 20 → q ≠ o + 21 → h1 q = h q) → (∀ i : Nat, (i : Int) ≤ T → h1 (o + 19 + 2) (i * 10) = bA (pmA A (p : Int) (n : Int) law) i 0) → K h1) : am_kV am_Best_fill d Y [.inr (.inr (o + 19)), .inr (.inr (o + 3)), .inl (p : Int), .inl (n : Int), .inl T, .inl law] h K := by
  have hz := w.1.z
  unfold rz at hz
  have w3 := wr_3 w.1
  have vo1 := c.o1 w.1 (by omega)
  have g := needRg w q.2.1
  have e := need_is c q.2.1
  refine am_kV.of (ac_Best_fill (d := 0) (hY.sub 19 rfl) (hY.sub 3 rfl) (by omega) vo1 (by rw [c.1.2.2.2.1]; omega) (by rw [vcm_is c w, if_pos q]) (by rw [e.2]; omega) ht) hd ?_
  rintro h1 ok ⟨f1, k1⟩
  rw [bPof_is c w q.1 q.2.1] at k1
  exact k h1 ok f1 fun i hi => (k1 i 0 hi (by show (0 : Int) ≤ A 3; omega)).2
theorem ac_R_makePlan (hY : am_at Y o am_L5) (c : vR h (o + 3) (A 1) A N) (cw : ∀ p : Nat, p < 8 → h (o + 14) p = A (325 + 2 * p) ∧ h (o + 15) p = A (326 + 2 * p)) (w : wV A) (q : asked A (p : Int) (n : Int)) (hT : 0 ≤ T ∧ T ≤ 20) : am_cV am_Run_makePlan (d + 4) Y [.inr (.inr o), .inl (p : Int), .inl (n : Int), .inl T] h (fun h1 => (∀ r, (r < o + 19 ∨ o + 23 < r) → h1 r = h r) ∧ (∀ i, i ≠ 48 * p + n → h1 (o + 22) i = h (o + 22) i ∧ h1 (o + 23) i = h (o + 23) i) ∧ plO h1 o A T p n) := by
  have hz := w.1.z
  unfold rz at hz
  have w2 := wr_2 w.1
  have hp := q.1
  have hn := q.2.1
  have r : (0 ≤ ndP A (n : Int) ∧ ndP A (n : Int) < A 1) ∧ (0 ≤ ndK A (n : Int) ∧ ndK A (n : Int) < A 0) := needRg w q.2.1
  have ei : ((p : Int) * 48 + (n : Int)).toNat = 48 * p + n := by omega
  have go : ∀ h2 : am_H, (∀ r, (r < o + 19 ∨ o + 22 < r) → h2 r = h r) → (∀ i, i ≠ 48 * p + n → h2 (o + 22) i = h (o + 22) i) → (A (325 + 2 * p) = 3 → plR (h2 (o + 22) (48 * p + n)) (pmA A (p : Int) (n : Int) 0) T) → aw_Run_makePlan_47 (d + 4) Y o (p : Int) (n : Int) T ((p : Int) * 48 + (n : Int)) h2 (am_qV fun h1 => (∀ r, (r < o + 19 ∨ o + 23 < r) → h1 r = h r) ∧ (∀ i, i ≠ 48 * p + n → h1 (o + 22) i = h (o + 22) i ∧ h1 (o + 23) i = h (o + 23) i) ∧ plO h1 o A T p n) := by
    intro h2 f2 e22 p22
    have c2 : vR h2 (o + 3) (A 1) A N := c.but fun q a b => f2 q (by omega)
    have e12 : h2 (o + 12) n = ndP A (n : Int) := by
      have := (need_is c2 q.2.1).1
      rw [Int.toNat_natCast] at this
      exact this
    have e15 : h2 (o + 15) (ndP A (n : Int)).toNat = A (326 + 2 * ndP A (n : Int)).toNat := by
      rw [f2 _ (by omega), (cw (ndP A (n : Int)).toNat (by omega)).2, show (326 + 2 * ndP A (n : Int)).toNat = 326 + 2 * (ndP A (n : Int)).toNat from by omega]
    refine ab_Run_makePlan_47 hY ?_
    rw [Int.toNat_natCast, e12, e15, ei]
    refine ⟨by omega, by omega, fun z => ?_, fun z => best_R hY c2 w q hT (by omega) fun h3 _ f3 k3 => am_kJ.of (ac_freePlan (d := 0) (P := pmA A (p : Int) (n : Int) 1) (t := T) (hY.sub 19 rfl) hT k3) (by omega) ?_⟩
    · rw [am_qV_s]
      exact ⟨fun r hr => f2 r (by omega), fun i hi => ⟨e22 i hi, by rw [f2 _ (by omega)]⟩, p22, fun z2 => absurd z2 z⟩
    · rintro v h4 - - ⟨rfl, pl⟩
      refine ⟨by omega, fun h5 e5 => ?_⟩
      rw [am_qV_s]
      have n5 : ∀ r, r ≠ o + 23 → h5 r = h4 r := fun r hr => by rw [e5, am_u_n _ _ _ _ _ hr]
      refine ⟨fun r hr => by rw [n5 r (by omega), f3 r (by omega) (by omega) (by omega), f2 r (by omega)], fun i hi => ⟨?_, ?_⟩, fun z2 => ?_, fun _ => ?_⟩
      · rw [n5 _ (by omega), f3 _ (by omega) (by omega) (by omega), e22 i hi]
      · rw [e5, am_u_j hi, f3 _ (by omega) (by omega) (by omega), f2 _ (by omega)]
      · rw [n5 _ (by omega), f3 _ (by omega) (by omega) (by omega)]
        exact p22 z2
      · rw [e5, am_u_s]
        exact pl
  refine am_Met.of (by decide) rfl (Nat.le_of_ble_eq_true rfl) (ab_Run_makePlan_0 hY ?_)
  rw [Int.toNat_natCast, (cw p (by omega)).1, ei]
  refine ⟨by unfold am_ri; omega, by unfold am_ri; omega, by omega, fun z => go h (fun _ _ => rfl) (fun _ _ => rfl) (fun z2 => absurd z2 z), fun z => best_R hY c w q hT (by omega) fun h3 _ f3 k3 => am_kJ.of (ac_freePlan (d := 0) (P := pmA A (p : Int) (n : Int) 0) (t := T) (hY.sub 19 rfl) hT k3) (by omega) ?_⟩
  rintro v h4 - - ⟨rfl, pl⟩
  refine ⟨by omega, fun h5 e5 => ?_⟩
  have n5 : ∀ r, r ≠ o + 22 → h5 r = h4 r := fun r hr => by rw [e5, am_u_n _ _ _ _ _ hr]
  refine go h5 (fun r hr => by rw [n5 r (by omega), f3 r (by omega) (by omega) (by omega)]) (fun i hi => by rw [e5, am_u_j hi, f3 _ (by omega) (by omega) (by omega)]) (fun _ => ?_)
  rw [e5, am_u_s]
  exact pl
theorem ac_R_makePlans (hY : am_at Y o am_L5) (c : vR h (o + 3) (A 1) A N) (c1 : h o 1 = A 1) (cw : ∀ p : Nat, p < 8 → h (o + 14) p = A (325 + 2 * p) ∧ h (o + 15) p = A (326 + 2 * p)) (w : wV A) (hT : 0 ≤ T ∧ T ≤ 20) : am_cV am_Run_makePlans (d + 5) Y [.inr (.inr o), .inl T] h (fun h1 => (∀ r, (r < o + 19 ∨ o + 23 < r) → h1 r = h r) ∧ ∀ p n : Nat, asked A (p : Int) (n : Int) → plO h1 o A T p n) := by
  have hz := w.1.z
  unfold rz at hz
  have w2 := wr_2 w.1
  refine am_Met.of (by decide) rfl (Nat.le_of_ble_eq_true rfl) (ab_Run_makePlans_0 hY ?_)
  have lp : ∀ p : Int, ∀ g : am_H, 0 ≤ p → p ≤ A 1 → (∀ r, (r < o + 19 ∨ o + 23 < r) → g r = h r) → (∀ p' n' : Nat, (p' : Int) < p → asked A (p' : Int) (n' : Int) → plO g o A T p' n') → aw_Run_makePlans_2 (d + 5) Y o T p g (am_qV fun h1 => (∀ r, (r < o + 19 ∨ o + 23 < r) → h1 r = h r) ∧ ∀ p n : Nat, asked A (p : Int) (n : Int) → plO h1 o A T p n) := by
    refine am_up (fun p => ∀ g : am_H, 0 ≤ p → p ≤ A 1 → (∀ r, (r < o + 19 ∨ o + 23 < r) → g r = h r) → (∀ p' n' : Nat, (p' : Int) < p → asked A (p' : Int) (n' : Int) → plO g o A T p' n') → aw_Run_makePlans_2 (d + 5) Y o T p g (am_qV fun h1 => (∀ r, (r < o + 19 ∨ o + 23 < r) → h1 r = h r) ∧ ∀ p n : Nat, asked A (p : Int) (n : Int) → plO h1 o A T p n)) (A 1) ?_ ?_
    · intro p hp g h0 h8 f pl
      refine ab_Run_makePlans_2 hY ?_
      rw [f o (by omega), c1]
      refine ⟨fun _ => ?_, fun z => by omega⟩
      rw [am_qV_s]
      exact ⟨f, fun p' n' q => pl p' n' (by have := q.1; omega) q⟩
    · intro p hp ih g h0 h8 f pl
      have pp : ((p.toNat : Nat) : Int) = p := by omega
      refine ab_Run_makePlans_2 hY ?_
      rw [f o (by omega), c1]
      refine ⟨fun z => by omega, fun _ => ?_⟩
      have lq : ∀ n : Int, ∀ g1 : am_H, 0 ≤ n → n ≤ A 2 → (∀ r, (r < o + 19 ∨ o + 23 < r) → g1 r = h r) → (∀ p' n' : Nat, ((p' : Int) < p ∨ (p' : Int) = p ∧ (n' : Int) < n) → asked A (p' : Int) (n' : Int) → plO g1 o A T p' n') → aw_Run_makePlans_12 (d + 5) Y o T p n g1 (am_qV fun h1 => (∀ r, (r < o + 19 ∨ o + 23 < r) → h1 r = h r) ∧ ∀ p n : Nat, asked A (p : Int) (n : Int) → plO h1 o A T p n) := by
        refine am_up (fun n => ∀ g1 : am_H, 0 ≤ n → n ≤ A 2 → (∀ r, (r < o + 19 ∨ o + 23 < r) → g1 r = h r) → (∀ p' n' : Nat, ((p' : Int) < p ∨ (p' : Int) = p ∧ (n' : Int) < n) → asked A (p' : Int) (n' : Int) → plO g1 o A T p' n') → aw_Run_makePlans_12 (d + 5) Y o T p n g1 (am_qV fun h1 => (∀ r, (r < o + 19 ∨ o + 23 < r) → h1 r = h r) ∧ ∀ p n : Nat, asked A (p : Int) (n : Int) → plO h1 o A T p n)) (A 2) ?_ ?_
        · intro n hn g1 n0 n8 f1 pl1
          have gv : vR g1 (o + 3) (A 1) A N := c.but fun q a b => f1 q (by omega)
          have g3 : g1 (o + 3) 3 = A 2 := gv.1.2.2.1
          refine ab_Run_makePlans_12 hY ?_
          rw [g3]
          exact ⟨fun _ => ⟨by unfold am_ri; omega, ih g1 (by omega) (by omega) f1 fun p' n' hp' q => pl1 p' n' (by have := q.2.1; omega) q⟩, fun z => by omega⟩
        · intro n hn jh g1 n0 n8 f1 pl1
          have gv : vR g1 (o + 3) (A 1) A N := c.but fun q a b => f1 q (by omega)
          have g3 : g1 (o + 3) 3 = A 2 := gv.1.2.2.1
          have nn : ((n.toNat : Nat) : Int) = n := by omega
          refine ab_Run_makePlans_12 hY ?_
          rw [g3]
          refine ⟨fun z => by omega, fun _ => eK (ac_canMeet (d := 0) (hY.sub 3 rfl) (gv.o1 w.1 (by omega))) (by omega) ?_⟩
          rw [vcm_is gv w]
          by_cases q : asked A p n
          · rw [if_pos q]
            have q' : asked A ((p.toNat : Nat) : Int) ((n.toNat : Nat) : Int) := by rw [pp, nn]; exact q
            have mk := ac_R_makePlan (d := d) hY gv (fun p hp => by rw [f1 _ (by omega), f1 _ (by omega)]; exact cw p hp) w q' hT
            rw [pp, nn] at mk
            refine ⟨fun z => absurd z (by decide), fun _ => am_kV.of mk (by omega) ?_⟩
            rintro g2 - ⟨f2, e2, k2⟩
            refine ⟨by unfold am_ri; omega, jh g2 (by omega) (by omega) (fun r hr => by rw [f2 r hr, f1 r hr]) fun p' n' hp' q2 => ?_⟩
            by_cases same : p' = p.toNat ∧ n' = n.toNat
            · rw [same.1, same.2]
              exact k2
            · have hn' := q2.2.1
              have hp2 := q2.1
              have old := pl1 p' n' (by omega) q2
              have ne : 48 * p' + n' ≠ 48 * p.toNat + n.toNat := by omega
              unfold plO at old ⊢
              rw [(e2 _ ne).1, (e2 _ ne).2]
              exact old
          · rw [if_neg q]
            refine ⟨fun _ => ⟨by unfold am_ri; omega, jh g1 (by omega) (by omega) f1 fun p' n' hp' q2 => pl1 p' n' ?_ q2⟩, fun z => absurd rfl z⟩
            rcases hp' with a | ⟨a, b⟩
            · exact Or.inl a
            · by_cases nn' : (n' : Int) = n
              · exact absurd (by rw [← a, ← nn']; exact q2) q
              · exact Or.inr ⟨a, by omega⟩
      exact lq 0 g (by omega) (by omega) f fun p' n' hp' q => pl p' n' (by omega) q
  exact lp 0 h (by omega) (by omega) (fun _ _ => rfl) fun p' n' hp' _ => by omega
theorem ac_copyRow {a b k : Nat} (ya : Y[a]? = some (14, k)) (yb : Y[b]? = some (14, k)) (hk : k < 1000) (hd : 0 < d) : am_cV am_Nh_copyRow d Y [.inr (.inr a), .inr (.inr b)] h (fun h1 => (∀ r, r ≠ b → h1 r = h r) ∧ ∀ i, i < k → h1 b i = h a i) := by
  refine am_Met.of (by decide) rfl (Nat.le_of_ble_eq_true rfl) (ab_Nh_copyRow_0 ya yb ⟨by omega, by omega, by omega, by omega, ⟨by omega, by omega, by omega, by omega, by omega⟩, fun h1 e1 => ?_⟩)
  obtain ⟨s1, t1⟩ := cp_s e1
  rw [am_qV_s]
  exact ⟨s1, fun i hi => t1 i (by omega)⟩
end
