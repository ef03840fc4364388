/-! a run: the class's, and both -/
section
variable {Y : am_Y} {h h1 g : am_H} {o q d : Nat} {A N : Nat → Int} {Z0 : am_H} {T x yrs : Int}
theorem go_97 {Q : Option am_V → am_H → Prop} (hY : am_at Y o am_L5) (hYq : am_at Y q am_L7) (c : crS g o A N (min yrs 20)) (w : wV A) (zi : zI Z0 x) (cd : crD g o A Z0 0) (hy : 1 ≤ yrs ∧ yrs ≤ 60) (k : ∀ g1, crD g1 o A (zYs A yrs yrs.toNat Z0) yrs → crF g g1 o → Q none g1) : aw_Run_go_97 (d + 8) Y o q yrs 0 g Q := by
  have w2 := wr_2 w.1
  have lp : ∀ y : Int, ∀ g1 : am_H, 0 ≤ y → y ≤ yrs → crD g1 o A (zYs A yrs y.toNat Z0) y → crF g g1 o → aw_Run_go_97 (d + 8) Y o q yrs y g1 Q := by
    refine am_up (fun y => ∀ g1 : am_H, 0 ≤ y → y ≤ yrs → crD g1 o A (zYs A yrs y.toNat Z0) y → crF g g1 o → aw_Run_go_97 (d + 8) Y o q yrs y g1 Q) yrs ?_ ?_
    · intro y hy2 g1 h0 h8 c1 f1
      have e : y = yrs := by omega
      subst e
      exact ab_Run_go_97 hY hYq ⟨fun _ => k g1 c1 f1, fun z => by omega⟩
    · intro y hy2 ih g1 h0 h8 c1 f1
      have yy : ((y.toNat : Nat) : Int) = y := by omega
      have by_ := zB.ys (yrs := yrs) w zi y.toNat
      have tt : (((min (yrs - y) 20).toNat : Nat) : Int) = min (yrs - y) 20 := by omega
      have lq : ∀ j : Int, ∀ g2 : am_H, 0 ≤ j → j ≤ A 2 → crD g2 o A (zNs A (min (yrs - y) 20).toNat y j.toNat (zYs A yrs y.toNat Z0)) y → crF g g2 o → aw_Run_go_124 (d + 8) Y o q yrs y (min (yrs - y) 20) j g2 Q := by
        refine am_up (fun j => ∀ g2 : am_H, 0 ≤ j → j ≤ A 2 → crD g2 o A (zNs A (min (yrs - y) 20).toNat y j.toNat (zYs A yrs y.toNat Z0)) y → crF g g2 o → aw_Run_go_124 (d + 8) Y o q yrs y (min (yrs - y) 20) j g2 Q) (A 2) ?_ ?_
        · intro j hj g2 j0 j8 c2 f2
          have s2 := c.but f2
          have g3 : g2 (o + 3) 3 = A 2 := s2.1.1.2.2.1
          refine ab_Run_go_124 hY hYq ?_
          rw [g3]
          refine ⟨fun _ => ⟨by unfold am_ri; omega, ih g2 (by omega) (by omega) ?_ f2⟩, fun z => by omega⟩
          have e : zYs A yrs (y + 1).toNat Z0 = zNs A (min (yrs - y) 20).toNat y j.toNat (zYs A yrs y.toNat Z0) := by
            rw [show (y + 1).toNat = y.toNat + 1 from by omega, show j.toNat = (A 2).toNat from by omega]
            show zNs A (min (yrs - ((y.toNat : Nat) : Int)) 20).toNat ((y.toNat : Nat) : Int) (A 2).toNat (zYs A yrs y.toNat Z0) = _
            rw [yy]
          rw [e]
          exact c2.year w h0
        · intro j hj jh g2 j0 j8 c2 f2
          have jj : ((j.toNat : Nat) : Int) = j := by omega
          have s2 := c.but f2
          have g3 : g2 (o + 3) 3 = A 2 := s2.1.1.2.2.1
          have bj := by_.ns (t := (min (yrs - y) 20).toNat) (y := y) w j.toNat (by omega)
          have e : zNs A (min (yrs - y) 20).toNat y (j + 1).toNat (zYs A yrs y.toNat Z0) = zMeet A (zNs A (min (yrs - y) 20).toNat y j.toNat (zYs A yrs y.toNat Z0)) j (min (yrs - y) 20).toNat y := by
            rw [show (j + 1).toNat = j.toNat + 1 from by omega]
            show zMeet A (zNs A (min (yrs - y) 20).toNat y j.toNat (zYs A yrs y.toNat Z0)) ((j.toNat : Nat) : Int) (min (yrs - y) 20).toNat y = _
            rw [jj]
          have mt := ac_R_meet (d := d) (n := j.toNat) (t := (min (yrs - y) 20).toNat) hY s2 w c2 bj (by omega) (by omega) (by omega) (by omega) ⟨h0, by omega⟩
          rw [jj, tt] at mt
          refine ab_Run_go_124 hY hYq ?_
          rw [g3]
          refine ⟨fun z => by omega, fun _ => am_kV.of mt (by omega) ?_⟩
          rintro g4 - ⟨c4, f4⟩
          refine ⟨by unfold am_ri; omega, jh g4 (by omega) (by omega) ?_ (f2.trans f4)⟩
          rw [e]
          exact c4
      exact ab_Run_go_97 hY hYq ⟨fun z => by omega, fun _ => ⟨fun z => by omega, fun _ => ⟨by unfold am_ri; omega, by omega, lq 0 g1 (by omega) (by omega) c1 f1⟩⟩⟩
  exact lp 0 g (by omega) (by omega) cd crF.refl
theorem ac_R_go (hY : am_at Y o am_L5) (hYq : am_at Y q am_L7) (dis : q + 24 ≤ o) (c : stR h q A N) (zi : zI Z0 x) (hy : 1 ≤ yrs ∧ yrs ≤ 60) : am_cV am_Run_go (d + 8) Y [.inr (.inr o), .inr (.inr q), .inl yrs, .inl x] h (fun h1 => (∀ r, (r < o ∨ o + 24 ≤ r) → h1 r = h r) ∧ h1 o 0 = 1 ∧ h1 o 1 = A 1 ∧ (∀ i, i < 8 → h1 (o + 2) i = zYs A yrs yrs.toNat Z0 0 i) ∧ ∀ p, p < 8 → h1 (o + 1) p = zYs A yrs yrs.toNat Z0 1 p) := by
  obtain ⟨c1, w, -, -, c5, -⟩ := c
  have hz := w.1.z
  unfold rz at hz
  have w2 := wr_2 w.1
  obtain ⟨z0, z1, z2, z4, z5⟩ := zi
  refine am_Met.of (by decide) rfl (Nat.le_of_ble_eq_true rfl) (ab_Run_go_0 hY hYq ?_)
  refine am_kV.of (ac_V_copy (d := 0) (hY.sub 3 rfl) (hYq.sub 1 rfl) (by omega)) (by omega) fun h1 _ k1 => ?_
  have v1 : vR h1 (o + 3) (A 1) A N := c1.copy k1 ⟨by omega, by omega, w2.2⟩
  refine am_kV.of (ac_copyRow (d := 1) (k := 8) (hYq 21 _ rfl) (hY 14 _ rfl) (by omega) (by omega)) (by omega) ?_
  rintro h2 - ⟨f2, r2⟩
  refine am_kV.of (ac_copyRow (d := 1) (k := 8) (hYq 22 _ rfl) (hY 15 _ rfl) (by omega) (by omega)) (by omega) ?_
  rintro h3 - ⟨f3, r3⟩
  intro h4 e4 h5 e5 h6 e6
  have n6 : ∀ r, r ≠ o → h6 r = h3 r := fun r hr => by rw [e6, am_u_n _ _ _ _ _ hr, e5, am_u_n _ _ _ _ _ hr, e4, am_u_n _ _ _ _ _ hr]
  have v6 : vR h6 (o + 3) (A 1) A N := v1.but fun r a b => by rw [n6 r (by omega), f3 r (by omega), f2 r (by omega)]
  have o1 : h6 o 1 = A 1 := by
    rw [e6, am_u_j (by omega), e5, am_u_s, e4, am_u_n _ _ _ _ _ (by omega), f3 _ (by omega), f2 _ (by omega)]
    exact v1.1.2.1
  have o0 : h6 o 0 = 1 := by rw [e6, am_u_j (by omega), e5, am_u_j (by omega), e4, am_u_s]
  have o11 : h6 o 11 = x := by rw [e6, am_u_s]
  have ways : ∀ p : Nat, p < 8 → h6 (o + 14) p = A (325 + 2 * p) ∧ h6 (o + 15) p = A (326 + 2 * p) := by
    intro p hp
    have w5 := c5 p hp
    refine ⟨?_, ?_⟩
    · rw [n6 _ (by omega), f3 _ (by omega), r2 p hp, k1.1 _ (by omega)]
      exact w5.1
    · rw [n6 _ (by omega), r3 p hp, f2 _ (by omega), k1.1 _ (by omega)]
      exact w5.2
  have fr6 : ∀ r, (r < o ∨ o + 24 ≤ r) → h6 r = h r := fun r hr => by rw [n6 r (by omega), f3 r (by omega), f2 r (by omega), k1.1 r (by omega)]
  refine am_kV.of (ac_fillI (d := 0) (hY 1 _ rfl) (by omega)) (by omega) fun h7 _ k7 => ?_
  refine am_kV.of (ac_fillI (d := 0) (hY 2 _ rfl) (by omega)) (by omega) fun h8 _ k8 => ?_
  intro h9 e9
  have n9 : ∀ r, r ≠ o + 1 → r ≠ o + 2 → h9 r = h6 r := fun r a b => by rw [e9, am_u_n _ _ _ _ _ b, k8.1 r b, k7.1 r a]
  refine bondsBeginK (hY.sub 16 rfl) (by omega) fun h10 b1 b2 b3 => ⟨by omega, ?_⟩
  have n10 : ∀ r, r ≠ o + 1 → r ≠ o + 2 → (r < o + 16 ∨ o + 18 < r) → h10 r = h6 r := fun r a b c => by rw [b3 r (by omega) (by omega) (by omega), n9 r a b]
  have v10 : vR h10 (o + 3) (A 1) A N := v6.but fun r a b => n10 r (by omega) (by omega) (by omega)
  refine am_kV.of (ac_R_makePlans (d := 0) hY v10 (by rw [n10 o (by omega) (by omega) (by omega)]; exact o1) (fun p hp => by rw [n10 _ (by omega) (by omega) (by omega), n10 _ (by omega) (by omega) (by omega)]; exact ways p hp) w (by omega)) (by omega) ?_
  rintro h11 - ⟨f11, pl⟩
  have n11 : ∀ r, r ≠ o + 1 → r ≠ o + 2 → (r < o + 16 ∨ o + 23 < r) → h11 r = h6 r := fun r a b c => by rw [f11 r (by omega), n10 r a b (by omega)]
  have s11 : crS h11 o A N (min yrs 20) := ⟨v6.but fun r a b => n11 r (by omega) (by omega) (by omega), by rw [n11 o (by omega) (by omega) (by omega)]; exact o1, fun p hp => by rw [n11 _ (by omega) (by omega) (by omega), n11 _ (by omega) (by omega) (by omega)]; exact ways p hp, fun p n q => pl p n q⟩
  have d11 : crD h11 o A Z0 0 := by
    refine ⟨fun i hi => ?_, fun p hp => ?_, ?_, ?_⟩
    · rw [f11 _ (by omega), b3 _ (by omega) (by omega) (by omega), z0 i hi, e9]
      by_cases i5 : i = 5
      · rw [i5, am_u_s, if_pos rfl]
      · rw [am_u_j i5, k8.2 i hi, if_neg i5]
    · rw [f11 _ (by omega), b3 _ (by omega) (by omega) (by omega), z1 p hp, e9, am_u_n _ _ _ _ _ (by omega), k8.1 _ (by omega), k7.2 p hp]
    · rw [n11 o (by omega) (by omega) (by omega), o11, z4]
    · have bn := bdR.none (h := h10) (b := o + 16) (R := A) (J := zJ Z0 0) (y := 0) w.2 w.1.z w2.2 b1 b2 (fun j hj => ⟨(z2 j hj).1, (z2 j hj).2, rfl⟩) z5 (by omega)
      exact bn.but fun r a b => f11 r (by omega)
  refine go_97 (d := d) hY hYq s11 w ⟨z0, z1, z2, z4, z5⟩ d11 hy fun g1 cd1 cf1 => ?_
  rw [am_qV_s]
  refine ⟨fun r hr => by rw [cf1.1 r (by omega) (by omega) (by omega) (by omega), n11 r (by omega) (by omega) (by omega), fr6 r hr], ?_, ?_, cd1.1, cd1.2.1⟩
  · rw [cf1.2 0 (by omega), n11 o (by omega) (by omega) (by omega), o0]
  · rw [cf1.2 1 (by omega), n11 o (by omega) (by omega) (by omega), o1]
end
section
variable {Y : am_Y} {h h2 : am_H} {x m : Nat} {yrs s : Int}
theorem RL.rn (c : RL h x m) (fx : ∀ q, (q < x + 114 ∨ x + 138 ≤ q) → q < m → h2 q = h q) (dis : x + 148 ≤ m) (la : lai h2 m = lai h m) (gq : ∀ q, q = m + 1 ∨ q = m + 5 ∨ q = m + 6 ∨ q = m + 8 ∨ q = m + 9 ∨ q = m + 27 ∨ q = m + 29 → h2 q = h q) (gj : ∀ j, j = 2 ∨ j = 10 ∨ j = 55 ∨ j = 58 ∨ j = 59 → h2 m j = h m j) (t : rnR h2 x m) : RL h2 x m := by
  obtain ⟨ct, cs, ck, cr, cl, ch⟩ := c
  refine ⟨ct.but (fun j hj => by rw [fx x (by omega) (by omega)]) (fx _ (by omega) (by omega)) (gq _ (by omega)) (fun j hj => gj j (by omega)), ?_, ck.but (fun q a b => fx q (by omega) (by omega)) (gq _ (by omega)) (gq _ (by omega)) (gq _ (by omega)), t, cl.but (fun q a b => fx q (by omega) (by omega)) (gq _ (by omega)) (gj _ (by omega)), ch.but (fun j hj => by rw [fx x (by omega) (by omega)]) (fx _ (by omega) (by omega)) (gq _ (by omega)) (fun j hj => gj j (by omega))⟩
  rw [la, gq (m + 6) (by omega)]
  exact cs.but fun q a b => fx q (by omega) (by omega)
theorem ac_R_figure {i : Nat} {d o : Nat} (hY : am_at Y o am_L5) (hi : i < 8) : am_cI am_Run_figure d Y [.inr (.inr o), .inl (i : Int)] h (fun r h1 => h1 = h ∧ r = h (o + 2) i) := by
  refine am_Met.of (by decide) rfl (Nat.le_of_ble_eq_true rfl) (ab_Run_figure_0 hY ⟨fun z => by omega, fun _ => ⟨fun z => by omega, fun _ => ⟨by omega, ?_⟩⟩⟩)
  rw [am_qI_s]
  exact ⟨rfl, rfl⟩
theorem two_run (hY : am_at Y x am_L11) (hM : am_at Y m am_L12) (dis : x + 148 ≤ m) (c : RL h x m) : am_two am_Nh_run am_Md_run Y x m [.inl yrs, .inl s] h := by
  have cs := c.2.1
  obtain ⟨c1, c2, -⟩ := c.2.1
  have hz := c2.1.z
  unfold rz at hz
  have zz : ∀ q : Nat, q < 8 → lai h m (160 + 8 * q + q) = 0 := fun q hq => (c1.2.2.2.2.2.2.1.2 q q hq hq (by omega)).2
  refine am_Met.rg fun ok _ => ?_
  have hb := b22 ok hM
  by_cases z : 1 ≤ yrs ∧ yrs ≤ 60
  · have zi := zIni_i h m s
    have bf := zB.ys (yrs := yrs) c2 zi yrs.toNat
    have b0 := bf.1 0 (by omega) (by omega) (by omega)
    have b1 := bf.1 1 (by omega) (by omega) (by omega)
    refine am_cI.mono (K := fun v h1 => v = zYs (lai h m) yrs yrs.toNat (zIni h m s) 0 0 + zYs (lai h m) yrs yrs.toNat (zIni h m s) 0 1 ∧ (∀ r, (r < x + 114 ∨ x + 138 ≤ r) → h1 r = h r) ∧ h1 (x + 114) 0 = 1 ∧ h1 (x + 114) 1 = lai h m 1 ∧ (∀ i, i < 8 → h1 (x + 116) i = zYs (lai h m) yrs yrs.toNat (zIni h m s) 0 i) ∧ ∀ p, p < 8 → h1 (x + 115) p = zYs (lai h m) yrs yrs.toNat (zIni h m s) 1 p) ?_ ?_
    · refine am_Met.of (by decide) rfl (Nat.le_of_ble_eq_true rfl) (ab_Nh_run_0 hY ⟨fun q => by omega, fun _ => ⟨fun _ => am_kV.of (ac_R_go (d := 0) (o := x + 114) (q := x + 2) (hY.sub 114 rfl) (hY.sub 2 rfl) (by omega) cs zi z) (by omega) ?_, fun q => by omega⟩⟩)
      rintro h1 - ⟨f1, o0, o1, o2, o3⟩
      have fg0 := ac_R_figure (h := h1) (i := 0) (d := 0) (o := x + 114) (hY.sub 114 rfl) (by omega)
      have fg1 := ac_R_figure (h := h1) (i := 1) (d := 0) (o := x + 114) (hY.sub 114 rfl) (by omega)
      refine eK fg0 (by omega) (eK fg1 (by omega) ?_)
      rw [o2 0 (by omega), o2 1 (by omega)]
      refine ⟨by unfold am_ri; omega, ?_⟩
      rw [am_qI_s]
      exact ⟨rfl, fun r hr => f1 r (by omega), o0, o1, o2, o3⟩
    · rintro v h1 ok1 - ⟨rfl, f1, o0, o1, o2, o3⟩
      have e1 : ∀ q, m ≤ q → h1 q = h q := fun q hq => f1 q (by omega)
      have la : lai h1 m = lai h m := lai_u (e1 _ (by omega)) (by rw [e1 m (by omega)])
      have ez : zIni h1 m s = zIni h m s := by
        unfold zIni
        rw [e1 (m + 20) (by omega), e1 (m + 21) (by omega), e1 (m + 10) (by omega), e1 (m + 11) (by omega)]
      have mr := ac_m_run (d := 53) (x := s) hM (b22 ok1 hM) (by rw [la]; exact c2) (by rw [la]; exact zz) z
      rw [la, ez] at mr
      refine am_cI.mono mr ?_
      rintro w h3 - - ⟨rfl, ⟨p1, p2, p3, p4⟩, g48, g47, g2⟩
      have zP : lai h m 1 = h3 m 47 := g47.symm
      refine ⟨rfl, c.rn (fun q a b => by rw [p1 q b, f1 q a]) dis (by rw [p2, la]) (fun q a => by rw [p3 q a, e1 q (by omega)]) (fun j a => by rw [p4 j a, e1 m (by omega)]) ⟨⟨?_, ?_, ?_, ?_, ?_⟩, ?_, ?_⟩⟩
      · rw [p1 _ (by omega), o0, g48]
      · rw [p1 _ (by omega), o1, g47]
      · rw [g48]
        exact fun q => absurd q (by decide)
      · rw [g47]
        exact hz.2.2.1
      · rw [g47]
        exact hz.2.2.2
      · exact fun _ i hi => by rw [p1 _ (by omega), o2 i hi, (g2 i hi).1]
      · intro p hp
        rw [g47] at hp
        rw [p1 _ (by omega), o3 p (by omega), (g2 p (by omega)).2]
  · refine two_e (F := -1) dis c ?_ ?_
    · refine am_Met.of (by decide) rfl (Nat.le_of_ble_eq_true rfl) (ab_Nh_run_0 hY ⟨fun q => ?_, fun q => ⟨fun q2 => absurd ⟨q, q2⟩ z, fun q2 => ?_⟩⟩)
      · rw [am_qI_s]
        exact ⟨rfl, rfl⟩
      · rw [am_qI_s]
        exact ⟨rfl, rfl⟩
    · refine am_Met.of (by decide) rfl (Nat.le_of_ble_eq_true rfl) (ab_Md_run_0 hM (mL.lay hM hb (by omega) fun h2 _ l => eK (ac_m_isIn (d := 0)) (by omega) ?_))
      rw [if_neg z]
      refine ⟨fun q => absurd rfl q, fun _ => ?_⟩
      rw [am_qI_s]
      exact ⟨rfl, l.y⟩
end
