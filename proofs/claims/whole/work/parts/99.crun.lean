/-! the class's run: leaves -/
def crS (h : am_H) (o : Nat) (A N : Nat → Int) (T : Int) : Prop :=
  vR h (o + 3) (A 1) A N ∧ h o 1 = A 1 ∧ (∀ p : Nat, p < 8 → h (o + 14) p = A (325 + 2 * p) ∧ h (o + 15) p = A (326 + 2 * p)) ∧
  ∀ p n : Nat, asked A (p : Int) (n : Int) → (A (325 + 2 * p) = 3 → plR (h (o + 22) (48 * p + n)) (pmA A (p : Int) (n : Int) 0) T) ∧ (A (326 + 2 * ndP A (n : Int)).toNat = 2 → plR (h (o + 23) (48 * p + n)) (pmA A (p : Int) (n : Int) 1) T)
def zJ (Z : am_H) (y : Int) : am_H := fun i => if i = 1 then Z 2 else if i = 2 then Z 3 else if i = 0 then (fun j => if j = 3 then Z 4 1 else y) else fun _ => 0
def crD (h : am_H) (o : Nat) (A : Nat → Int) (Z : am_H) (y : Int) : Prop := (∀ i, i < 8 → h (o + 2) i = Z 0 i) ∧ (∀ p, p < 8 → h (o + 1) p = Z 1 p) ∧ h o 11 = Z 4 0 ∧ bdR h (o + 16) A (zJ Z y) y
def crF (h h1 : am_H) (o : Nat) : Prop := (∀ q, q ≠ o → q ≠ o + 1 → q ≠ o + 2 → (q < o + 16 ∨ o + 18 < q) → h1 q = h q) ∧ ∀ j, j ≠ 11 → h1 o j = h o j
section
variable {h h1 h2 : am_H} {o j q : Nat} {A N : Nat → Int} {Z Z' : am_H} {T y v : Int}
theorem crF.refl : crF h h o := ⟨fun _ _ _ _ _ => rfl, fun _ _ => rfl⟩
theorem crF.trans (a : crF h h1 o) (b : crF h1 h2 o) : crF h h2 o := ⟨fun q p1 p2 p3 p4 => (b.1 q p1 p2 p3 p4).trans (a.1 q p1 p2 p3 p4), fun j p1 => (b.2 j p1).trans (a.2 j p1)⟩
theorem crF.u (e : h1 = am_u h q j v) (hq : q = o + 1 ∨ q = o + 2 ∨ q = o + 16 ∨ q = o + 17 ∨ q = o + 18 ∨ q = o ∧ j = 11) : crF h h1 o := by
  refine ⟨fun r p1 p2 p3 p4 => by rw [e, am_u_n _ _ _ _ _ (by omega)], fun i p1 => ?_⟩
  by_cases z : q = o
  · rw [e, z, am_u_j (by omega)]
  · rw [e, am_u_o (fun w => z w.symm)]
theorem crS.but (c : crS h o A N T) (f : crF h h1 o) : crS h1 o A N T := by
  obtain ⟨c1, c2, c3, c4⟩ := c
  refine ⟨c1.but fun q a b => f.1 q (by omega) (by omega) (by omega) (by omega), by rw [f.2 1 (by omega)]; exact c2, fun p hp => ?_, fun p n ha => ?_⟩
  · rw [f.1 (o + 14) (by omega) (by omega) (by omega) (by omega), f.1 (o + 15) (by omega) (by omega) (by omega) (by omega)]
    exact c3 p hp
  · rw [f.1 (o + 22) (by omega) (by omega) (by omega) (by omega), f.1 (o + 23) (by omega) (by omega) (by omega) (by omega)]
    exact c4 p n ha
/-- a figure -/
theorem crD.u0 (c : crD h o A Z y) (e : h1 = am_u h (o + 2) j v) : crD h1 o A (am_u Z 0 j v) y := by
  obtain ⟨c1, c2, c3, c4⟩ := c
  have n : ∀ q, q ≠ o + 2 → h1 q = h q := fun q hq => by rw [e, am_u_n _ _ _ _ _ hq]
  refine ⟨fun i hi => ?_, fun p hp => ?_, ?_, (c4.but fun q a b => n q (by omega)).sameJ ?_ ?_ rfl ?_⟩
  · by_cases z : i = j
    · rw [e, z, am_u_s, am_u_s]
    · rw [e, am_u_j z, am_u_j z, c1 i hi]
  · rw [n _ (by omega), am_u_o (by omega), c2 p hp]
  · rw [n _ (by omega), am_u_o (by omega), c3]
  · show (am_u Z 0 j v) 2 = Z 2
    rw [am_u_n _ _ _ _ _ (by omega)]
  · show (am_u Z 0 j v) 3 = Z 3
    rw [am_u_n _ _ _ _ _ (by omega)]
  · show (am_u Z 0 j v) 4 1 = Z 4 1
    rw [am_u_o (by omega)]
/-- what one did -/
theorem crD.u1 (c : crD h o A Z y) (e : h1 = am_u h (o + 1) j v) : crD h1 o A (am_u Z 1 j v) y := by
  obtain ⟨c1, c2, c3, c4⟩ := c
  have n : ∀ q, q ≠ o + 1 → h1 q = h q := fun q hq => by rw [e, am_u_n _ _ _ _ _ hq]
  refine ⟨fun i hi => ?_, fun p hp => ?_, ?_, (c4.but fun q a b => n q (by omega)).sameJ ?_ ?_ rfl ?_⟩
  · rw [n _ (by omega), am_u_o (by omega), c1 i hi]
  · by_cases z : p = j
    · rw [e, z, am_u_s, am_u_s]
    · rw [e, am_u_j z, am_u_j z, c2 p hp]
  · rw [n _ (by omega), am_u_o (by omega), c3]
  · show (am_u Z 1 j v) 2 = Z 2
    rw [am_u_n _ _ _ _ _ (by omega)]
  · show (am_u Z 1 j v) 3 = Z 3
    rw [am_u_n _ _ _ _ _ (by omega)]
  · show (am_u Z 1 j v) 4 1 = Z 4 1
    rw [am_u_o (by omega)]
/-- the seed -/
theorem crD.s (c : crD h o A Z y) (f : ∀ q, q ≠ o → h1 q = h q) (e : h1 o 11 = v) : crD h1 o A (am_u Z 4 0 v) y := by
  obtain ⟨c1, c2, c3, c4⟩ := c
  refine ⟨fun i hi => ?_, fun p hp => ?_, ?_, (c4.but fun q a b => f q (by omega)).sameJ ?_ ?_ rfl ?_⟩
  · rw [f _ (by omega), am_u_o (by omega), c1 i hi]
  · rw [f _ (by omega), am_u_o (by omega), c2 p hp]
  · rw [e, am_u_s]
  · show (am_u Z 4 0 v) 2 = Z 2
    rw [am_u_n _ _ _ _ _ (by omega)]
  · show (am_u Z 4 0 v) 3 = Z 3
    rw [am_u_n _ _ _ _ _ (by omega)]
  · show (am_u Z 4 0 v) 4 1 = Z 4 1
    rw [am_u_j (by omega)]
theorem crD.same (c : crD h o A Z y) (e : Z' = Z) : crD h o A Z' y := by rw [e]; exact c
theorem am_u_c {Z : am_H} {q i q' i' : Nat} {x x' : Int} (ne : ¬ (q = q' ∧ i = i')) : am_u (am_u Z q i x) q' i' x' = am_u (am_u Z q' i' x') q i x := by
  funext r j
  unfold am_u
  by_cases a : r = q' ∧ j = i'
  · by_cases b : r = q ∧ j = i
    · exact absurd ⟨b.1.symm.trans a.1, b.2.symm.trans a.2⟩ ne
    · rw [if_pos a, if_neg b, if_pos a]
  · rw [if_neg a]
    by_cases b : r = q ∧ j = i
    · rw [if_pos b, if_pos b]
    · rw [if_neg b, if_neg b, if_neg a]
theorem am_u_2 {Z : am_H} {q i : Nat} {x x' : Int} : am_u (am_u Z q i x) q i x' = am_u Z q i x' := by
  funext r j
  unfold am_u
  by_cases a : r = q ∧ j = i
  · rw [if_pos a, if_pos a]
  · rw [if_neg a, if_neg a, if_neg a]
end
section
variable {Y : am_Y} {h h1 : am_H} {o d : Nat} {A N : Nat → Int} {Z : am_H} {T n p y : Int}
theorem ac_R_half {x : Int} (h : 0 ≤ x ∧ x ≤ 99) {g : am_H} : am_cI am_Run_halfUp d Y [.inl x] g (fun r g1 => g1 = g ∧ r = (x + 1).tdiv 2) := by
  have := half_rg h
  refine am_Met.of (by decide) rfl (Nat.le_of_ble_eq_true rfl) (ab_Run_halfUp_0 ⟨by unfold am_ri; omega, by decide, by unfold am_ri; omega, ?_⟩)
  rw [am_qI_s]
  exact ⟨rfl, rfl⟩
theorem ac_R_draw (hY : am_at Y o am_L5) : am_cI am_Run_draw d Y [.inr (.inr o), .inl 10] h (fun r h1 => h1 = am_u h o 11 (sdr (h o 11)) ∧ r = dr10 (sdr (h o 11))) := by
  refine am_Met.of (by decide) rfl (Nat.le_of_ble_eq_true rfl) (ab_Run_draw_0 hY fun h1 e1 => ⟨fun z => absurd z (by decide), fun _ => ⟨by decide, (dr10_rg _).2, ?_⟩⟩)
  rw [am_qI_s, e1, am_u_s]
  exact ⟨rfl, rfl⟩
theorem ac_R_partnerOf (hY : am_at Y o am_L5) (c : crS h o A N T) (w : wV A) {k : Nat} (hk : (k : Int) < A 1) : am_cI am_Run_partnerOf (d + 2) Y [.inr (.inr o), .inl (k : Int), .inl n] h (fun r h1 => h1 = h ∧ r = ptn A n k) := by
  obtain ⟨c1, c2, c3, -⟩ := c
  have hz := w.1.z
  unfold rz at hz
  have vo1 := c1.o1 w.1 (by omega)
  refine am_Met.of (by decide) rfl (Nat.le_of_ble_eq_true rfl) (ab_Run_partnerOf_0 hY ⟨by unfold am_ri; omega, ?_⟩)
  have lp : ∀ j : Int, (k : Int) + 1 ≤ j → j ≤ A 1 → ptn A n k = sr (fun q => if A (325 + 2 * q) = 4 ∧ asked A (q : Int) n then 1 else 0) (A 1).toNat j.toNat → aw_Run_partnerOf_4 (d + 2) Y o n j h (am_qI fun r h1 => h1 = h ∧ r = ptn A n k) := by
    refine am_up (fun j => (k : Int) + 1 ≤ j → j ≤ A 1 → ptn A n k = sr (fun q => if A (325 + 2 * q) = 4 ∧ asked A (q : Int) n then 1 else 0) (A 1).toNat j.toNat → aw_Run_partnerOf_4 (d + 2) Y o n j h (am_qI fun r h1 => h1 = h ∧ r = ptn A n k)) (A 1) ?_ ?_
    · intro j hj j0 j8 e
      refine ab_Run_partnerOf_4 hY ?_
      rw [c2]
      refine ⟨fun _ => ?_, fun z => by omega⟩
      rw [sr_e (by omega)] at e
      rw [am_qI_s]
      exact ⟨rfl, e.symm⟩
    · intro j hj ih j0 j8 e
      have jj : ((j.toNat : Nat) : Int) = j := by omega
      rw [sr_s (q := j.toNat) (by omega), jj] at e
      have jn : (j + 1).toNat = j.toNat + 1 := by omega
      have w4 := (c3 j.toNat (by omega)).1
      refine ab_Run_partnerOf_4 hY ?_
      rw [c2, w4]
      refine ⟨fun z => by omega, fun _ => ⟨by omega, fun z => ⟨by unfold am_ri; omega, ih (by omega) (by omega) ?_⟩, fun z => eK (ac_canMeet (d := 0) (hY.sub 3 rfl) vo1) (by omega) ?_⟩⟩
      · rw [jn, e, if_pos (if_neg fun r => z r.1)]
      · rw [vcm_is c1 w]
        by_cases q : asked A j n
        · rw [if_pos q]
          refine ⟨fun z => absurd z (by decide), fun _ => ?_⟩
          rw [if_neg (by rw [if_pos ⟨z, q⟩]; decide)] at e
          rw [am_qI_s]
          exact ⟨rfl, e.symm⟩
        · rw [if_neg q]
          refine ⟨fun _ => ⟨by unfold am_ri; omega, ih (by omega) (by omega) ?_⟩, fun z => absurd rfl z⟩
          rw [jn, e, if_pos (if_neg fun r => q r.2)]
  refine lp ((k : Int) + 1) (by omega) (by omega) ?_
  rw [show ((k : Int) + 1).toNat = k + 1 from by omega]
  rfl
theorem ac_R_firstOther (hY : am_at Y o am_L5) (c : crS h o A N T) (w : wV A) : am_cI am_Run_firstOther (d + 2) Y [.inr (.inr o), .inl p, .inl n] h (fun r h1 => h1 = h ∧ r = whom A n p 3) := by
  obtain ⟨c1, c2, c3, -⟩ := c
  have hz := w.1.z
  unfold rz at hz
  have vo1 := c1.o1 w.1 (by omega)
  have ew : whom A n p 3 = if sr (othr A n p) (A 1).toNat 0 = -1 then p else sr (othr A n p) (A 1).toNat 0 := if_pos rfl
  rw [ew]
  refine am_Met.of (by decide) rfl (Nat.le_of_ble_eq_true rfl) (ab_Run_firstOther_0 hY ?_)
  have lp : ∀ j : Int, 0 ≤ j → j ≤ A 1 → sr (othr A n p) (A 1).toNat 0 = sr (othr A n p) (A 1).toNat j.toNat → aw_Run_firstOther_2 (d + 2) Y o p n j h (am_qI fun r h1 => h1 = h ∧ r = if sr (othr A n p) (A 1).toNat 0 = -1 then p else sr (othr A n p) (A 1).toNat 0) := by
    refine am_up (fun j => 0 ≤ j → j ≤ A 1 → sr (othr A n p) (A 1).toNat 0 = sr (othr A n p) (A 1).toNat j.toNat → aw_Run_firstOther_2 (d + 2) Y o p n j h (am_qI fun r h1 => h1 = h ∧ r = if sr (othr A n p) (A 1).toNat 0 = -1 then p else sr (othr A n p) (A 1).toNat 0)) (A 1) ?_ ?_
    · intro j hj j0 j8 e
      refine ab_Run_firstOther_2 hY ?_
      rw [c2]
      refine ⟨fun _ => ?_, fun z => by omega⟩
      rw [sr_e (q := j.toNat) (by omega)] at e
      rw [am_qI_s, if_pos e]
      exact ⟨rfl, rfl⟩
    · intro j hj ih j0 j8 e
      have jj : ((j.toNat : Nat) : Int) = j := by omega
      rw [sr_s (q := j.toNat) (by omega), jj] at e
      have jn : (j + 1).toNat = j.toNat + 1 := by omega
      refine ab_Run_firstOther_2 hY ?_
      rw [c2]
      refine ⟨fun z => by omega, fun _ => ⟨fun z => ⟨by unfold am_ri; omega, ih (by omega) (by omega) ?_⟩, fun z => eK (ac_canMeet (d := 0) (hY.sub 3 rfl) vo1) (by omega) ?_⟩⟩
      · have d0 : othr A n p j.toNat = 0 := if_neg fun r => r.1 (by omega)
        rw [jn, e, if_pos d0]
      · rw [vcm_is c1 w]
        by_cases q : asked A j n
        · rw [if_pos q]
          refine ⟨fun z => absurd z (by decide), fun _ => ?_⟩
          have d0 : ¬ othr A n p j.toNat = 0 := by
            unfold othr
            rw [jj, if_pos ⟨z, q⟩]
            omega
          rw [if_neg d0] at e
          rw [am_qI_s, e, if_neg (by omega)]
          exact ⟨rfl, rfl⟩
        · rw [if_neg q]
          refine ⟨fun _ => ⟨by unfold am_ri; omega, ih (by omega) (by omega) ?_⟩, fun z => absurd rfl z⟩
          have d0 : othr A n p j.toNat = 0 := if_neg fun r => q (by rw [jj] at r; exact r.2)
          rw [jn, e, if_pos d0]
  exact lp 0 (by omega) (by omega) rfl
theorem ac_R_freeAct (hY : am_at Y o am_L5) (c : crS h o A N T) (w : wV A) {k n t : Nat} (hq : asked A (k : Int) (n : Int)) (ht : (t : Int) ≤ T) (hT : T ≤ 20) : am_cI am_Run_freeAct (d + 3) Y [.inr (.inr o), .inl (k : Int), .inl (n : Int), .inl (t : Int)] h (fun r h1 => h1 = h ∧ r = fAc A (n : Int) t k) := by
  have hz := w.1.z
  unfold rz at hz
  have w2 := wr_2 w.1
  have hk := hq.1
  have hn := hq.2.1
  have w4 := (c.2.2.1 k (by omega)).1
  have pl := (c.2.2.2 k n hq).1
  refine am_Met.of (by decide) rfl (Nat.le_of_ble_eq_true rfl) (ab_Run_freeAct_0 hY ?_)
  rw [Int.toNat_natCast, w4, show ((k : Int) * 48 + (n : Int)).toNat = 48 * k + n from by omega]
  refine ⟨by omega, fun z => ?_, fun z => ?_, fun z => ?_, fun z => ⟨by unfold am_ri; omega, by unfold am_ri; omega, by omega, eK (ac_planned (d := 0) (pl z) ht hT) (by omega) ?_⟩, fun z => eK (ac_R_partnerOf (d := 0) hY c w hk.2) (by omega) ⟨fun z2 => ?_, fun z2 => ?_⟩⟩
  · rw [am_qI_s]
    refine ⟨rfl, ?_⟩
    unfold fAc
    rw [if_neg (fun q => q hq), if_neg (by omega), if_neg (by omega), if_neg (by omega), if_neg (by omega)]
  · rw [am_qI_s]
    refine ⟨rfl, ?_⟩
    unfold fAc
    rw [if_neg (fun q => q hq), if_pos z]
  · rw [am_qI_s]
    refine ⟨rfl, ?_⟩
    unfold fAc
    rw [if_neg (fun q => q hq), if_neg (by omega), if_pos z]
  · rw [am_qI_s]
    refine ⟨rfl, ?_⟩
    unfold fAc
    rw [if_neg (fun q => q hq), if_neg (by omega), if_neg (by omega), if_pos z]
  · rw [am_qI_s]
    refine ⟨rfl, ?_⟩
    unfold fAc
    rw [if_neg (fun q => q hq), if_neg (by omega), if_neg (by omega), if_neg (by omega), if_pos z, if_pos z2]
  · rw [am_qI_s]
    refine ⟨rfl, ?_⟩
    unfold fAc
    rw [if_neg (fun q => q hq), if_neg (by omega), if_neg (by omega), if_neg (by omega), if_pos z, if_neg (by omega)]
theorem ac_R_isFound (hY : am_at Y o am_L5) (c : crS h o A N T) (e11 : h o 11 = Z 4 0) (w : wV A) (hp : 0 ≤ p ∧ p < A 1) : am_cI am_Run_isFound (d + 2) Y [.inr (.inr o), .inl p] h (fun r h1 => r = (zSee A Z p).2 ∧ (∀ q, q ≠ o → h1 q = h q) ∧ (∀ j, j ≠ 11 → h1 o j = h o j) ∧ h1 o 11 = (zSee A Z p).1 4 0) := by
  obtain ⟨c1, c2, -⟩ := c
  have hz := w.1.z
  unfold rz at hz
  refine am_Met.of (by decide) rfl (Nat.le_of_ble_eq_true rfl) (ab_Run_isFound_0 hY ?_)
  have lp : ∀ i : Int, ∀ h1 : am_H, 0 ≤ i → i ≤ A 1 → (∀ q, q ≠ o → h1 q = h q) → (∀ j, j ≠ 11 → h1 o j = h o j) → h1 o 11 = (sn A p (Z 4 0) i.toNat).1 → aw_Run_isFound_4 (d + 2) Y o p (sn A p (Z 4 0) i.toNat).2 i h1 (am_qI fun r h1 => r = (zSee A Z p).2 ∧ (∀ q, q ≠ o → h1 q = h q) ∧ (∀ j, j ≠ 11 → h1 o j = h o j) ∧ h1 o 11 = (zSee A Z p).1 4 0) := by
    refine am_up (fun i => ∀ h1 : am_H, 0 ≤ i → i ≤ A 1 → (∀ q, q ≠ o → h1 q = h q) → (∀ j, j ≠ 11 → h1 o j = h o j) → h1 o 11 = (sn A p (Z 4 0) i.toNat).1 → aw_Run_isFound_4 (d + 2) Y o p (sn A p (Z 4 0) i.toNat).2 i h1 (am_qI fun r h1 => r = (zSee A Z p).2 ∧ (∀ q, q ≠ o → h1 q = h q) ∧ (∀ j, j ≠ 11 → h1 o j = h o j) ∧ h1 o 11 = (zSee A Z p).1 4 0)) (A 1) ?_ ?_
    · intro i hi h1 h0 h8 e1 e2 e3
      refine ab_Run_isFound_4 hY ?_
      rw [e2 1 (by omega), c2]
      refine ⟨fun _ => ⟨sn_01 _ _ _ _, ?_⟩, fun z => by omega⟩
      rw [am_qI_s]
      have iP : i = A 1 := by omega
      rw [iP] at e3
      refine ⟨by rw [iP]; rfl, e1, e2, ?_⟩
      unfold zSee
      dsimp only
      rw [am_u_s, e3]
    · intro i hi ih h1 h0 h8 e1 e2 e3
      have ii : ((i.toNat : Nat) : Int) = i := by omega
      have v1 : vR h1 (o + 3) (A 1) A N := c1.but fun q a b => e1 q (by omega)
      refine ab_Run_isFound_4 hY ?_
      rw [e2 1 (by omega), c2]
      refine ⟨fun z => by omega, fun _ => eK (ac_sight (d := 0) (hY.sub 3 rfl) (v1.o1 w.1 (by omega))) (by omega) ?_⟩
      rw [vsi_is v1 (by omega) ⟨h0, hi⟩ hp]
      refine ⟨fun z => ?_, fun z => am_kI.of (ac_R_draw (d := 0) hY) (by omega) ?_⟩
      · have e : sn A p (Z 4 0) (i.toNat + 1) = sn A p (Z 4 0) i.toNat := by
          show (if A (160 + 8 * ((i.toNat : Nat) : Int) + p).toNat ≤ 0 then _ else _) = _
          rw [ii, if_pos z]
        have go := ih h1 (by omega) (by omega) e1 e2 (by rw [show (i + 1).toNat = i.toNat + 1 from by omega, e]; exact e3)
        rw [show (i + 1).toNat = i.toNat + 1 from by omega, e] at go
        exact ⟨by unfold am_ri; omega, go⟩
      · rintro v h2 - - ⟨eg, rfl⟩
        have n2 : ∀ q, q ≠ o → h2 q = h q := fun q hq => by rw [eg, am_u_n _ _ _ _ _ hq, e1 q hq]
        have j2 : ∀ j, j ≠ 11 → h2 o j = h o j := fun j hj => by rw [eg, am_u_j hj, e2 j hj]
        have s2 : h2 o 11 = sdr (sn A p (Z 4 0) i.toNat).1 := by rw [eg, am_u_s, e3]
        rw [e3]
        have e : sn A p (Z 4 0) (i.toNat + 1) = (sdr (sn A p (Z 4 0) i.toNat).1, if dr10 (sdr (sn A p (Z 4 0) i.toNat).1) < A (160 + 8 * i + p).toNat then 1 else (sn A p (Z 4 0) i.toNat).2) := by
          show (if A (160 + 8 * ((i.toNat : Nat) : Int) + p).toNat ≤ 0 then _ else _) = _
          rw [ii, if_neg (by omega)]
        have go := ih h2 (by omega) (by omega) n2 j2 (by rw [show (i + 1).toNat = i.toNat + 1 from by omega, e]; exact s2)
        rw [show (i + 1).toNat = i.toNat + 1 from by omega, e] at go
        dsimp only at go
        refine ⟨fun z3 => ⟨by unfold am_ri; omega, ?_⟩, fun z3 => ⟨by unfold am_ri; omega, ?_⟩⟩
        · rw [if_neg (by omega)] at go
          exact go
        · rw [if_pos z3] at go
          exact go
  exact lp 0 h (by omega) (by omega) (fun _ _ => rfl) (fun _ _ => rfl) e11
end
