/-! ways, images, and the questions of what was told -/
section
variable {h h1 h2 : am_H} {x m o : Nat} {A A' N N' : Nat → Int}
theorem stR.row (c : stR h o A N) (e : eqv A A') (e3 : ∀ i, 341 ≤ i → i < 840 → A' i = A i) (eN : ∀ i, i < 14 → N' i = N i) (f : ∀ q, o < q → q < o + 24 → q ≠ o + 21 → q ≠ o + 22 → h2 q = h q) (f5 : h2 o 5 = h o 5) (w : ∀ p : Nat, p < 8 → h2 (o + 21) p = A' (325 + 2 * p) ∧ h2 (o + 22) p = A' (326 + 2 * p)) : stR h2 o A' N' := by
  obtain ⟨c1, c2, ⟨c3, c3', c3''⟩, c4, c5, c6⟩ := c
  have w1 := c2.1.z
  unfold rz at w1
  have w2 := wr_2 c2.1
  have l41 : A' 341 = A 341 := e3 _ (by omega) (by omega)
  have lne : ∀ j : Nat, (j : Int) < A 341 → lnA A' j = lnA A j := fun j hj => lnA_c (fun i a b => e3 i a (by omega)) c3' hj
  refine ⟨?_, wV_c e c2, ⟨by omega, by omega, fun i hi => ?_⟩, ?_, w, ?_⟩
  · rw [e 1 (by omega)]
    exact vR_c (c1.but fun q a b => f q (by omega) (by omega) (by omega) (by omega)) e eN (by omega) (by omega) (by omega)
  · rw [l41] at hi
    rw [lne i hi]
    exact (lnOK_c e).mpr (c3'' i hi)
  · rw [l41, jBook_c e c2.1.z (fun j hj => by rw [lne j (by omega)]; exact c3'' j (by omega)), jBook_M (g := lnA A) fun j hj => by rw [lne j (by omega)]; exact lnM_r _]
    exact fkR_c (c4.but (h1 := h2) fun q a b => f q (by omega) (by omega) (by omega) (by omega)) e (by omega)
  · rcases c6 with ⟨a, b⟩ | ⟨a, n, T, s, b1, b2, b3, b4, b5, b6⟩
    · exact Or.inl ⟨by rw [e3 _ (by omega) (by omega)]; exact a, by rw [f5]; exact b⟩
    · exact Or.inr ⟨by rw [e3 _ (by omega) (by omega)]; exact a, n, T, s, by rw [f5]; exact b1, b2, fun i hi => by rw [f (o + 23) (by omega) (by omega) (by omega) (by omega)]; exact b3 i hi, b4, by rw [e3 _ (by omega) (by omega)]; exact b5, sNA_c (fun i a b => e3 i (by omega) (by omega)) (pSen_40 b4) b6⟩
theorem stR.but5 (c : stR h o A N) (f : ∀ q, o < q → q < o + 24 → h2 q = h q) (f5 : h2 o 5 = h o 5) : stR h2 o A N := by
  refine c.row (fun _ _ => rfl) (fun _ _ _ => rfl) (fun _ _ => rfl) (fun q a b _ _ => f q a b) f5 fun p hp => ?_
  rw [f (o + 21) (by omega) (by omega), f (o + 22) (by omega) (by omega)]
  exact c.2.2.2.2.1 p hp
/-- the State and what is kept may be others -/
theorem RL.stt (c : RL h x m) (fx : ∀ j, j = 1 ∨ j = 2 ∨ j = 13 ∨ j = 14 → h2 x j = h x j) (f1 : h2 (x + 1) = h (x + 1)) (fq : ∀ q, x < q → (x + 114 ≤ q ∧ q < x + 117 ∨ q = x + 138 ∨ q = x + 139 ∨ q = x + 146) → h2 q = h q) (gq : ∀ q, q = m + 1 ∨ q = m + 22 ∨ q = m + 23 ∨ q = m + 27 ∨ q = m + 29 → h2 q = h q) (gj : ∀ j, j = 2 ∨ j = 10 ∨ j = 47 ∨ j = 48 ∨ j = 55 ∨ j = 58 ∨ j = 59 → h2 m j = h m j) (s : stR h2 (x + 2) (lai h2 m) (h2 (m + 6))) (k : ktR h2 x m) : RL h2 x m := by
  obtain ⟨ct, cs, ck, cr, cl, ch⟩ := c
  exact ⟨ct.but (fun j hj => fx j (by omega)) f1 (gq _ (by omega)) (fun j hj => gj j (by omega)), s, k, cr.but (fun q a b => fq q (by omega) (by omega)) (gq _ (by omega)) (gq _ (by omega)) (fun j hj => gj j (by omega)), cl.but (fun q a b => fq q (by omega) (by omega)) (gq _ (by omega)) (gj _ (by omega)), ch.but (fun j hj => fx j (by omega)) (fq _ (by omega) (by omega)) (gq _ (by omega)) (fun j hj => gj j (by omega))⟩
end
section
variable {Y : am_Y} {h h1 : am_H} {x m d : Nat} {a b e : Int}
theorem two_thinkOf (hY : am_at Y x am_L11) (hM : am_at Y m am_L12) (dis : x + 148 ≤ m) (c : RL h x m) : am_two am_Nh_thinkOf am_Md_thinkOf Y x m [.inl a, .inl b] h := by
  obtain ⟨⟨t1, t2, t3, t4⟩, t5⟩ := c.2.2.2.2.2
  refine two_e (F := if (0 ≤ a ∧ a < h m 58) ∧ 0 ≤ b ∧ b ≤ 1 then (if b = 0 then h (m + 29) a.toNat else h m 59) else -1) dis c ?_ ?_
  · refine am_Met.of (by decide) rfl (Nat.le_of_ble_eq_true rfl) (ab_Nh_thinkOf_0 hY ?_)
    rw [t1, t2]
    refine ⟨fun w => ?_, fun w => ⟨fun w2 => ?_, fun w2 => ⟨fun w3 => by omega, fun w3 => ⟨fun w4 => ?_, fun w4 => ⟨fun w5 => ⟨fun w6 => ?_, fun w6 => ⟨by omega, ?_⟩⟩, fun w5 => ?_⟩⟩⟩⟩⟩
    · rw [am_qI_s]
      exact ⟨rfl, (if_neg (by omega)).symm⟩
    · rw [am_qI_s]
      exact ⟨rfl, (if_neg (by omega)).symm⟩
    · rw [am_qI_s]
      exact ⟨rfl, (if_neg (by omega)).symm⟩
    · rw [am_qI_s, if_pos (by omega), if_neg w6]
      exact ⟨rfl, rfl⟩
    · rw [am_qI_s, if_pos (by omega), if_pos w6]
      exact ⟨rfl, t5 a.toNat (by omega)⟩
    · rw [am_qI_s]
      exact ⟨rfl, (if_neg (by omega)).symm⟩
  · refine am_Met.of (by decide) rfl (Nat.le_of_ble_eq_true rfl) (ab_Md_thinkOf_0 hM fun h1 e1 => ?_)
    have y0 := yF0 e1
    have j8 : h1 m 58 = h m 58 := by rw [e1, am_u_j (by omega)]
    have j9 : h1 m 59 = h m 59 := by rw [e1, am_u_j (by omega)]
    have q9 : h1 (m + 29) = h (m + 29) := by rw [e1, am_u_n _ _ _ _ _ (by omega)]
    rw [j8]
    refine ⟨fun w => ?_, fun w => ⟨fun w2 => ?_, fun w2 => eK (ac_m_isIn (d := 0)) (by omega) ?_⟩⟩
    · rw [am_qI_s]
      exact ⟨(if_neg (by omega)).symm, y0⟩
    · rw [am_qI_s]
      exact ⟨(if_neg (by omega)).symm, y0⟩
    · by_cases z : 0 ≤ b ∧ b ≤ 1
      · rw [if_pos z]
        refine ⟨fun _ => ⟨fun w6 => ?_, fun w6 => ⟨by omega, ?_⟩⟩, fun w => absurd w (by decide)⟩
        · rw [am_qI_s, if_pos (by omega), if_neg w6]
          exact ⟨j9, y0⟩
        · rw [am_qI_s, if_pos (by omega), if_pos w6, q9]
          exact ⟨rfl, y0⟩
      · rw [if_neg z]
        refine ⟨fun w => absurd rfl w, fun _ => ?_⟩
        rw [am_qI_s]
        exact ⟨(if_neg fun q => z q.2).symm, y0⟩
theorem two_runBy (hY : am_at Y x am_L11) (hM : am_at Y m am_L12) (dis : x + 148 ≤ m) (c : RL h x m) : am_two am_Nh_runBy am_Md_runBy Y x m [.inl a] h := by
  obtain ⟨⟨t1, t2, t3, t4, t5⟩, t6, t7⟩ := c.2.2.2.1
  refine two_e (F := if ¬ h m 48 = 0 ∧ 0 ≤ a ∧ a ≤ 7 then h (m + 22) a.toNat else -2) dis c ?_ ?_
  · refine am_Met.of (by decide) rfl (Nat.le_of_ble_eq_true rfl) (ab_Nh_runBy_0 hY ?_)
    rw [t1]
    refine ⟨fun w => ?_, fun w => ⟨fun w2 => ?_, fun w2 => ⟨fun w3 => ⟨0, by omega, am_Met.of (by decide) rfl (Nat.le_of_ble_eq_true rfl) (ab_Run_figure_0 (hY.sub 114 rfl) ⟨fun z => by omega, fun _ => ⟨fun z => by omega, fun _ => ⟨by omega, ?_⟩⟩⟩)⟩, fun w3 => ?_⟩⟩⟩
    · rw [am_qI_s]
      exact ⟨rfl, (if_neg fun q => q.1 w).symm⟩
    · rw [am_qI_s]
      exact ⟨rfl, (if_neg (by omega)).symm⟩
    · rw [am_qI_s, am_qI_s, if_pos ⟨w, by omega⟩]
      refine ⟨rfl, ?_⟩
      have := t6 w a.toNat (by omega)
      exact this
    · rw [am_qI_s]
      exact ⟨rfl, (if_neg (by omega)).symm⟩
  · refine am_Met.of (by decide) rfl (Nat.le_of_ble_eq_true rfl) (ab_Md_runBy_0 hM fun h1 e1 => ?_)
    have y0 := yF0 e1
    have j8 : h1 m 48 = h m 48 := by rw [e1, am_u_j (by omega)]
    have q9 : h1 (m + 22) = h (m + 22) := by rw [e1, am_u_n _ _ _ _ _ (by omega)]
    rw [j8]
    refine ⟨fun w => ?_, fun w => eK (ac_m_isIn (d := 0)) (by omega) ?_⟩
    · rw [am_qI_s]
      exact ⟨(if_neg fun q => q.1 w).symm, y0⟩
    · by_cases z : 0 ≤ a ∧ a ≤ 7
      · rw [if_pos z]
        refine ⟨fun w => absurd w (by decide), fun _ => ⟨by omega, ?_⟩⟩
        rw [am_qI_s, if_pos ⟨w, z⟩, q9]
        exact ⟨rfl, y0⟩
      · rw [if_neg z]
        refine ⟨fun _ => ?_, fun w => absurd rfl w⟩
        rw [am_qI_s]
        exact ⟨(if_neg fun q => z q.2).symm, y0⟩
theorem two_runOf (hY : am_at Y x am_L11) (hM : am_at Y m am_L12) (dis : x + 148 ≤ m) (c : RL h x m) : am_two am_Nh_runOf am_Md_runOf Y x m [.inl a] h := by
  obtain ⟨⟨t1, t2, t3, t4, t5⟩, t6, t7⟩ := c.2.2.2.1
  refine two_e (F := if 0 ≤ a ∧ a < h m 47 then h (m + 23) a.toNat else -1) dis c ?_ ?_
  · refine am_Met.of (by decide) rfl (Nat.le_of_ble_eq_true rfl) (ab_Nh_runOf_0 hY ?_)
    rw [t2]
    refine ⟨fun w => ?_, fun w => ⟨fun w2 => ?_, fun w2 => ⟨fun w3 => ⟨by omega, ?_⟩, fun w3 => by omega⟩⟩⟩
    · rw [am_qI_s]
      exact ⟨rfl, (if_neg (by omega)).symm⟩
    · rw [am_qI_s]
      exact ⟨rfl, (if_neg (by omega)).symm⟩
    · rw [am_qI_s, if_pos ⟨w, w2⟩]
      exact ⟨rfl, t7 a.toNat (by omega)⟩
  · refine am_Met.of (by decide) rfl (Nat.le_of_ble_eq_true rfl) (ab_Md_runOf_0 hM fun h1 e1 => ?_)
    have y0 := yF0 e1
    have j8 : h1 m 48 = h m 48 := by rw [e1, am_u_j (by omega)]
    have j7 : h1 m 47 = h m 47 := by rw [e1, am_u_j (by omega)]
    have q9 : h1 (m + 23) = h (m + 23) := by rw [e1, am_u_n _ _ _ _ _ (by omega)]
    rw [j8, j7]
    refine ⟨fun w => ?_, fun w => ⟨fun w2 => ?_, fun w2 => ⟨fun w3 => ?_, fun w3 => ⟨by omega, ?_⟩⟩⟩⟩
    · have := t3 w
      rw [am_qI_s]
      exact ⟨(if_neg (by omega)).symm, y0⟩
    · rw [am_qI_s]
      exact ⟨(if_neg (by omega)).symm, y0⟩
    · rw [am_qI_s]
      exact ⟨(if_neg (by omega)).symm, y0⟩
    · rw [am_qI_s, if_pos ⟨w2, w3⟩, q9]
      exact ⟨rfl, y0⟩
theorem two_leftBy (hY : am_at Y x am_L11) (hM : am_at Y m am_L12) (dis : x + 148 ≤ m) (c : RL h x m) : am_two am_Nh_leftBy am_Md_leftBy Y x m [.inl a] h := by
  obtain ⟨⟨t1, t2, t3⟩, t4⟩ := c.2.2.2.2.1
  refine two_e (F := if 0 ≤ a ∧ a < h m 55 then h (m + 27) a.toNat else -1) dis c ?_ ?_
  · refine am_Met.of (by decide) rfl (Nat.le_of_ble_eq_true rfl) (ab_Nh_leftBy_0 hY ?_)
    rw [t1]
    refine ⟨fun w => ?_, fun w => ⟨fun w2 => ?_, fun w2 => ⟨fun w3 => ⟨by omega, ?_⟩, fun w3 => by omega⟩⟩⟩
    · rw [am_qI_s]
      exact ⟨rfl, (if_neg (by omega)).symm⟩
    · rw [am_qI_s]
      exact ⟨rfl, (if_neg (by omega)).symm⟩
    · rw [am_qI_s, if_pos ⟨w, w2⟩]
      exact ⟨rfl, t4 a.toNat (by omega)⟩
  · refine am_Met.of (by decide) rfl (Nat.le_of_ble_eq_true rfl) (ab_Md_leftBy_0 hM fun h1 e1 => ?_)
    have y0 := yF0 e1
    have j5 : h1 m 55 = h m 55 := by rw [e1, am_u_j (by omega)]
    have q9 : h1 (m + 27) = h (m + 27) := by rw [e1, am_u_n _ _ _ _ _ (by omega)]
    rw [j5]
    refine ⟨fun w2 => ?_, fun w2 => ⟨fun w3 => ?_, fun w3 => ⟨by omega, ?_⟩⟩⟩
    · rw [am_qI_s]
      exact ⟨(if_neg (by omega)).symm, y0⟩
    · rw [am_qI_s]
      exact ⟨(if_neg (by omega)).symm, y0⟩
    · rw [am_qI_s, if_pos ⟨w2, w3⟩, q9]
      exact ⟨rfl, y0⟩
theorem two_ways (hY : am_at Y x am_L11) (hM : am_at Y m am_L12) (dis : x + 148 ≤ m) (c : RL h x m) : am_two am_Nh_ways am_Md_ways Y x m [.inl a, .inl b, .inl e] h := by
  have cs := c.2.1
  obtain ⟨c1, c2, -⟩ := c.2.1
  have c1' : vR h (x + 3) (lai h m 1) (lai h m) (h (m + 6)) := c1
  have hz := c2.1.z
  unfold rz at hz
  refine am_Met.rg fun ok _ => ?_
  have hb := b22 ok hM
  by_cases z : (0 ≤ a ∧ a < lai h m 1) ∧ (0 ≤ b ∧ b ≤ 4) ∧ 0 ≤ e ∧ e ≤ 3
  · obtain ⟨za, zb, ze⟩ := z
    refine am_cI.mono (K := fun v h1 => v = 1 ∧ h1 = am_u (am_u h (x + 23) a.toNat b) (x + 24) a.toNat e) ?_ ?_
    · refine am_Met.of (by decide) rfl (Nat.le_of_ble_eq_true rfl) (ab_Nh_ways_0 hY ?_)
      refine eK (ac_hasPerson (d := 0) (hY.sub 3 rfl)) (by omega) ?_
      rw [vin_2 c1', in1_t za]
      refine ⟨fun w => absurd w (by decide), fun _ => ⟨fun w => by omega, fun _ => ⟨fun w => by omega, fun _ => ⟨fun w => by omega, fun _ => ⟨fun _ => ⟨by omega, fun h3 e3 => ⟨by omega, fun h4 e4 => ?_⟩⟩, fun w => by omega⟩⟩⟩⟩⟩
      rw [am_qI_s, e4, e3]
      exact ⟨rfl, rfl⟩
    · rintro v h1 - - ⟨rfl, e1⟩
      have n1 : ∀ q, q ≠ x + 23 → q ≠ x + 24 → h1 q = h q := fun q p r => by rw [e1, am_u_n _ _ _ _ _ r, am_u_n _ _ _ _ _ p]
      have la : lai h1 m = lai h m := lai_u (n1 _ (by omega) (by omega)) (by rw [n1 m (by omega) (by omega)])
      refine am_Met.of (by decide) rfl (Nat.le_of_ble_eq_true rfl) (ab_Md_ways_0 hM (mL.lay hM (by rw [n1 m (by omega) (by omega)]; exact hb) (by omega) fun h2 _ l => ?_))
      obtain ⟨l0, l2, l22, lq, lj⟩ := l
      rw [la] at l2
      refine eK (ac_m_isPerson (d := 0) hM) (by omega) ?_
      rw [l2, if_pos za]
      refine ⟨fun w => absurd w (by decide), fun _ => eK (ac_m_isIn (d := 0)) (by omega) ?_⟩
      rw [if_pos zb]
      refine ⟨fun w => absurd w (by decide), fun _ => eK (ac_m_isIn (d := 0)) (by omega) ?_⟩
      rw [if_pos ze]
      refine ⟨fun _ => ⟨by unfold am_ri; omega, by unfold am_ri; omega, by omega, fun h9 e9 => ⟨by unfold am_ri; omega, by unfold am_ri; omega, by unfold am_ri; omega, by omega, fun h10 e10 => ?_⟩⟩, fun w => absurd w (by decide)⟩
      rw [am_qI_s]
      have n10 : ∀ q, q ≠ m + 2 → h10 q = h2 q := fun q p => by rw [e10, am_u_n _ _ _ _ _ p, e9, am_u_n _ _ _ _ _ p]
      have n3 : ∀ q, q ≠ m → q ≠ m + 2 → q ≠ x + 23 → q ≠ x + 24 → h10 q = h q := fun q p1 p2 p3 p4 => by rw [n10 q p2, lq q p1 p2, n1 q p3 p4]
      have j10 : ∀ j, j ≠ 0 → j ≠ 22 → h10 m j = h m j := fun j p1 p2 => by rw [n10 m (by omega), lj j p1 p2, n1 m (by omega) (by omega)]
      have la10 : lai h10 m = h10 (m + 2) := lai_1 (by rw [n10 m (by omega)]; exact l22)
      have r10 : ∀ i, i ≠ 325 + 2 * a.toNat → i ≠ 326 + 2 * a.toNat → h10 (m + 2) i = lai h m i := fun i p1 p2 => by rw [e10, am_u_j (by omega), e9, am_u_j (by omega), l2]
      have ra : h10 (m + 2) (325 + 2 * a.toNat) = b := by rw [e10, am_u_j (by omega), e9, show (325 + 2 * a).toNat = 325 + 2 * a.toNat from by omega, am_u_s]
      have rb : h10 (m + 2) (326 + 2 * a.toNat) = e := by rw [e10, show (325 + 2 * a + 1).toNat = 326 + 2 * a.toNat from by omega, am_u_s]
      have x23 : ∀ p, h10 (x + 23) p = if p = a.toNat then b else h (x + 23) p := fun p => by
        rw [n10 _ (by omega), lq _ (by omega) (by omega), e1, am_u_n _ _ _ _ _ (by omega)]
        split
        · next w => rw [w, am_u_s]
        · next w => rw [am_u_j w]
      have x24 : ∀ p, h10 (x + 24) p = if p = a.toNat then e else h (x + 24) p := fun p => by
        rw [n10 _ (by omega), lq _ (by omega) (by omega), e1]
        split
        · next w => rw [w, am_u_s]
        · next w => rw [am_u_j w, am_u_n _ _ _ _ _ (by omega)]
      refine ⟨rfl, c.stt (fun j _ => by rw [n3 x (by omega) (by omega) (by omega) (by omega)]) (n3 _ (by omega) (by omega) (by omega) (by omega)) (fun q p1 p2 => n3 q (by omega) (by omega) (by omega) (by omega)) (fun q p => n3 q (by omega) (by omega) (by omega) (by omega)) (fun j p => j10 j (by omega) (by omega)) ?_ (c.2.2.1.but (fun q p1 p2 => n3 q (by omega) (by omega) (by omega) (by omega)) (n3 _ (by omega) (by omega) (by omega) (by omega)) (n3 _ (by omega) (by omega) (by omega) (by omega)) (n3 _ (by omega) (by omega) (by omega) (by omega)))⟩
      rw [la10, n3 (m + 6) (by omega) (by omega) (by omega) (by omega)]
      refine cs.row (fun i hi => r10 i (by omega) (by omega)) (fun i p1 p2 => r10 i (by omega) (by omega)) (fun _ _ => rfl) (fun q p1 p2 p3 p4 => n3 q (by omega) (by omega) (by omega) (by omega)) (by rw [n3 (x + 2) (by omega) (by omega) (by omega) (by omega)]) fun p hp => ?_
      have w5 := cs.2.2.2.2.1 p hp
      rw [show x + 2 + 21 = x + 23 from rfl, show x + 2 + 22 = x + 24 from rfl] at w5 ⊢
      rw [x23 p, x24 p]
      by_cases pa : p = a.toNat
      · rw [if_pos pa, if_pos pa, pa, ra, rb]
        exact ⟨rfl, rfl⟩
      · rw [if_neg pa, if_neg pa, r10 _ (by omega) (by omega), r10 _ (by omega) (by omega)]
        exact w5
  · refine two_e (F := 0) dis c ?_ ?_
    · refine am_Met.of (by decide) rfl (Nat.le_of_ble_eq_true rfl) (ab_Nh_ways_0 hY ?_)
      refine eK (ac_hasPerson (d := 0) (hY.sub 3 rfl)) (by omega) ?_
      rw [vin_2 c1']
      by_cases za : 0 ≤ a ∧ a < lai h m 1
      · rw [in1_t za]
        refine ⟨fun w => absurd w (by decide), fun _ => ⟨fun w => ?_, fun w => ⟨fun w2 => ?_, fun w2 => ⟨fun w3 => ?_, fun w3 => ⟨fun w4 => absurd ⟨za, ⟨w, w2⟩, w3, w4⟩ z, fun w4 => ?_⟩⟩⟩⟩⟩
        · rw [am_qI_s]
          exact ⟨rfl, rfl⟩
        · rw [am_qI_s]
          exact ⟨rfl, rfl⟩
        · rw [am_qI_s]
          exact ⟨rfl, rfl⟩
        · rw [am_qI_s]
          exact ⟨rfl, rfl⟩
      · rw [in1_f za]
        refine ⟨fun _ => ?_, fun w => absurd rfl w⟩
        rw [am_qI_s]
        exact ⟨rfl, rfl⟩
    · refine am_Met.of (by decide) rfl (Nat.le_of_ble_eq_true rfl) (ab_Md_ways_0 hM (mL.lay hM hb (by omega) fun h2 _ l => ?_))
      refine eK (ac_m_isPerson (d := 0) hM) (by omega) ?_
      rw [l.2.1]
      by_cases za : 0 ≤ a ∧ a < lai h m 1
      · rw [if_pos za]
        refine ⟨fun w => absurd w (by decide), fun _ => eK (ac_m_isIn (d := 0)) (by omega) ?_⟩
        by_cases zb : 0 ≤ b ∧ b ≤ 4
        · rw [if_pos zb]
          refine ⟨fun w => absurd w (by decide), fun _ => eK (ac_m_isIn (d := 0)) (by omega) ?_⟩
          rw [if_neg fun ze => z ⟨za, zb, ze⟩]
          refine ⟨fun w => absurd rfl w, fun _ => ?_⟩
          rw [am_qI_s]
          exact ⟨rfl, l.y⟩
        · rw [if_neg zb]
          refine ⟨fun _ => ?_, fun w => absurd rfl w⟩
          rw [am_qI_s]
          exact ⟨rfl, l.y⟩
      · rw [if_neg za]
        refine ⟨fun _ => ?_, fun w => absurd rfl w⟩
        rw [am_qI_s]
        exact ⟨rfl, l.y⟩
end
