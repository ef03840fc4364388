/-! contracts: the class's book: years begun, lines put behind; a new one; what stands at the end -/
def fkR (h : am_H) (b : Nat) (R : Nat → Int) (J : am_H) (i : Nat) : Prop :=
  (h b 0 = i ∧ h b 1 + 1 = J 0 4 ∧ h b 2 = J 0 0 ∧ h b 3 = J 0 1) ∧ (∀ j, j < i → h (b + 1) j = J 7 j) ∧
  (∀ p, p < 8 → h (b + 2) p = J 4 p ∧ h (b + 3) p = J 5 p ∧ h (b + 4) p = J 6 p) ∧
  (∀ p : Nat, p < 8 → R 1 ≤ p → J 4 p = 0 ∧ J 5 p = 0 ∧ J 6 p = 0) ∧ sm (J 6) 8 = J 0 2 ∧
  bdR h (b + 5) R J (J 0 4) ∧ (1 ≤ J 0 4 ∧ J 0 4 ≤ 100) ∧ jBd J 40000
section
variable {d : Nat} {Y : am_Y} {h h1 : am_H} {b v : Nat} {R N : Nat → Int} {J : am_H} {i : Nat} {y : Int} {Q : Option am_V → am_H → Prop}
/-- what a year's end leaves of the counts and the bonds -/
theorem bkR.ends (c : bkR h b R J i y) (hV : wV R) (f4 : ∀ p, p < 8 → h1 (b + 4) p = jEnd R J 6 p) (F : ∀ q, q ≠ b + 4 → h1 q = h q) :
    (∀ p, p < 8 → h1 (b + 2) p = jEnd R J 4 p ∧ h1 (b + 3) p = jEnd R J 5 p ∧ h1 (b + 4) p = jEnd R J 6 p) ∧ (∀ p : Nat, p < 8 → R 1 ≤ p → jEnd R J 4 p = 0 ∧ jEnd R J 5 p = 0 ∧ jEnd R J 6 p = 0) ∧ sm (jEnd R J 6) 8 = jEnd R J 0 2 ∧ bdR h1 (b + 5) R (jEnd R J) (y + 1) ∧ jEnd R J 0 4 = y + 1 ∧ jBd (jEnd R J) (384 * (y + 1)) := by
  have hz := hV.1.z
  have hz' := hz
  unfold rz at hz'
  have hco := hV.2
  have h2 := wr_2 hV.1
  have tb := fun p (hp : ((p : Nat) : Int) < R 1) => cbk_is c hV hp
  have tn := fun p => cbk_n h b p y (R 2).toNat
  obtain ⟨⟨k1, k2, k3⟩, k4, k5, k6, k7, k8, k9, kA, kB, kC, kD⟩ := c
  obtain ⟨e8, e80, e6, e2, e3, e4, e1, e0⟩ := jEnd_is (R := R) (J := J) hz
  have b48 : ∀ p : Nat, (p : Int) < R 1 → 0 ≤ sm (fun q => sm (fun k => brk J p q k) (R 0).toNat) (R 1).toNat ∧ sm (fun q => sm (fun k => brk J p q k) (R 0).toNat) (R 1).toNat ≤ 48 := fun p hp => by
    have := tn p
    rw [tb p hp] at this
    omega
  refine ⟨fun p hp => ?_, fun p hp h1p => ?_, ?_, ?_, by rw [e4, kB], ⟨fun p hp => ?_, ?_⟩⟩
  · rw [F _ (by omega), F _ (by omega), e1 4 (by omega), e1 5 (by omega)]
    exact ⟨(k5 p hp).1, (k5 p hp).2.1, f4 p hp⟩
  · rw [e1 4 (by omega), e1 5 (by omega), e6 p, if_neg (by omega), Int.add_zero]
    exact k6 p hp h1p
  · rw [sm_congr 8 fun p _ => e6 p, sm_add, k7, sm_cut ⟨hz'.2.2.1, hz'.2.2.2⟩, e2]
  · refine (k9.year (J' := jEnd R J) hco hz (e1 1 (by omega)) (e1 2 (by omega)) (e0 3 (by omega)) e8 (fun p n hp hn => ?_) kD.1).but (fun q a b => F q (by omega))
    have a := need_rg hco hz hn
    by_cases e : (p : Int) < R 1
    · refine Or.inl ?_
      have := e80 p (nA R n).toNat (nB R n).toNat e (by omega) (by omega)
      rw [show (((nA R n).toNat : Nat) : Int) = R (225 + 2 * n) by simp only [nA, nB] at a ⊢; omega, show (((nB R n).toNat : Nat) : Int) = R (226 + 2 * n) by simp only [nA, nB] at a ⊢; omega] at this
      exact this
    · refine Or.inr ?_
      rw [← (k9.1 p n hp hn).1]
      exact kA p n hp (by omega) (by omega)
  · rw [e6 p]
    have := kC.1 p hp
    by_cases e : (p : Int) < R 1
    · rw [if_pos e]
      have := b48 p e
      omega
    · rw [if_neg e]
      omega
  · rw [e2]
    have := kC.2
    have s := sm_le (f := fun p => sm (fun q => sm (fun k => brk J p q k) (R 0).toNat) (R 1).toNat) (c := 48) (R 1).toNat fun p hp => b48 p (by omega)
    omega
theorem bkR.yearOn (c : bkR h b R J i y) (hV : wV R) (hy : y + 1 ≤ 99) {h2 : am_H} (f4 : ∀ p, p < 8 → h1 (b + 4) p = jEnd R J 6 p) (F : ∀ q, q ≠ b + 4 → h1 q = h q) (g8 : ∀ j, j < 48 → h2 (b + 8) j = -1) (G : ∀ q, q ≠ b + 8 → h2 q = h1 q) : bkR h2 b R (jEnd R J) i (y + 1) := by
  have hz := hV.1.z
  have h48 := wr_2 hV.1
  obtain ⟨a1, a2, a3, a4, a5, a6⟩ := c.ends hV f4 F
  obtain ⟨⟨k1, k2, k3⟩, k4, k5, k6, k7, k8, k9, kA, kB, kC, kD⟩ := c
  obtain ⟨e8, e80, e6, e2, e3, e4, e1, e0⟩ := jEnd_is (R := R) (J := J) hz
  have E : ∀ q, q ≠ b + 4 → q ≠ b + 8 → h2 q = h q := fun q q4 q8 => (G q q8).trans (F q q4)
  refine ⟨by rw [E b (by omega) (by omega), e0 0 (by omega), e0 1 (by omega)]; exact ⟨k1, k2, k3⟩, fun j hj => ?_, fun p hp => ?_, a2, a3, ⟨fun n hn => Or.inl ⟨g8 n (by omega), e3 _ (nO_n hV.2 hz hn).2⟩, fun q k hq hk _ => e3 _ (by omega)⟩, a4.but (fun q a b => G q (by omega)), fun p n hp h1p hn => ?_, a5, a6, by omega, hy⟩
  · rw [E _ (by omega) (by omega), e1 7 (by omega)]
    exact k4 j hj
  · rw [G _ (by omega), G _ (by omega), G _ (by omega)]
    exact a1 p hp
  · rw [E _ (by omega) (by omega)]
    exact kA p n hp h1p hn
theorem bkR.f1 {x : Int} (c : bkR h b R J i y) (e : h1 = am_u h b 1 x) : bkR h1 b R J i y := by
  have E : ∀ q, q ≠ b → h1 q = h q := fun q hq => by rw [e, am_u_n _ _ _ _ q hq]
  obtain ⟨k, k4, k5, k6, k7, k8, k9, kA, kB, kC, kD⟩ := c
  refine ⟨by rw [e, am_u_j (by omega), am_u_j (by omega), am_u_j (by omega)]; exact k, fun j hj => ?_, fun p hp => ?_, k6, k7, ?_, k9.but (fun q a b => E q (by omega)), ?_, kB, kC, kD⟩
  · rw [E _ (by omega)]; exact k4 j hj
  · rw [E _ (by omega), E _ (by omega), E _ (by omega)]; exact k5 p hp
  · rw [E _ (by omega)]; exact k8
  · rw [E _ (by omega)]; exact kA
theorem jYrs_7 (R : Nat → Int) (hz : rz R) (y : Int) : ∀ (f : Nat) (J : am_H), jYrs R f y J 7 = J 7
  | 0, _ => rfl
  | f + 1, J => by
    unfold jYrs
    split
    · rw [jYrs_7 R hz y f, (jEnd_is (J := J) hz).2.2.2.2.2.2.1 7 (by omega)]
    · rfl
theorem loopY5 {h0 : am_H} {next : Int} (hY : am_at Y b am_L2) (hYv : am_at Y v am_L9) (hd : v + 11 ≤ b ∨ b + 9 ≤ v) (hV : wV R) (hn : 0 ≤ next ∧ next ≤ 99) (cv : vR h0 v (R 1) R N) : ∀ (f : Nat) (y : Int) (h J : am_H), next - y ≤ f → y ≤ next → bkR h b R J i y → (∀ q, (q < b ∨ b + 9 ≤ q) → h q = h0 q) → aw_Book_beginYear_5 (d + 4) Y b v next y h (am_qV (fun h1 => bkR h1 b R (jYrs R f next J) i next ∧ h1 b 1 = next ∧ ∀ q, (q < b ∨ b + 9 ≤ q) → h1 q = h0 q))
  | 0, y, h, J, hf, hy, c, F => by
    have e : y = next := by omega
    subst e
    refine ab_Book_beginYear_5 hY hYv ⟨fun _ h1 e1 => ?_, fun w => by omega⟩
    rw [am_qV_s]
    exact ⟨c.f1 e1, by rw [e1, am_u_s], fun q hq => by rw [e1, am_u_n _ _ _ _ q (by omega), F q hq]⟩
  | f + 1, y, h, J, hf, hy, c, F => by
    have cv' : vR h v (R 1) R N := cv.but fun q a b => F q (by omega)
    have kB : J 0 4 = y := c.2.2.2.2.2.2.2.2.1
    have kD : 0 ≤ y ∧ y ≤ 99 := c.2.2.2.2.2.2.2.2.2.2
    refine ab_Book_beginYear_5 hY hYv ⟨fun w h1 e1 => ?_, fun w => ?_⟩
    · have e : y = next := by omega
      subst e
      rw [am_qV_s]
      have ej : jYrs R (f + 1) y J = J := if_neg (by omega)
      rw [ej]
      exact ⟨c.f1 e1, by rw [e1, am_u_s], fun q hq => by rw [e1, am_u_n _ _ _ _ q (by omega), F q hq]⟩
    · have ej : jYrs R (f + 1) next J = jYrs R f next (jEnd R J) := if_pos (by omega)
      rw [ej]
      refine am_kV.of (ac_Book_endYear (d := 0) hY hYv hd cv' hV c) (by omega) (fun h1 _ p1 => ?_)
      refine am_kV.of (ac_fillI (d := 0) (hY 8 _ rfl) (by omega)) (by omega) (fun h2 _ p2 => ?_)
      refine ⟨⟨by omega, by omega⟩, ?_⟩
      exact loopY5 hY hYv hd hV hn cv f (y + 1) h2 (jEnd R J) (by omega) (by omega) (c.yearOn hV (by omega) p1.1 p1.2 p2.2 p2.1) (fun q hq => by rw [p2.1 q (by omega), p1.2 q (by omega), F q hq])
theorem ac_beginYear {next : Int} (hY : am_at Y b am_L2) (hYv : am_at Y v am_L9) (hd : v + 11 ≤ b ∨ b + 9 ≤ v) (hV : wV R) (hn : 0 ≤ next ∧ next ≤ 99) (cv : vR h v (R 1) R N) (c : bkR h b R J i y) (hy : h b 1 = y) (hyn : y ≤ next) : am_cV am_Book_beginYear (d + 4) Y [.inr (.inr b), .inr (.inr v), .inl next] h (fun h1 => bkR h1 b R (jYrs R 100 next J) i next ∧ h1 b 1 = next ∧ ∀ q, (q < b ∨ b + 9 ≤ q) → h1 q = h q) := by
  have kD : 0 ≤ y ∧ y ≤ 99 := c.2.2.2.2.2.2.2.2.2.2
  refine am_Met.of (by decide) rfl (Nat.le_of_ble_eq_true rfl) (ab_Book_beginYear_0 hY hYv ?_)
  rw [hy]
  exact loopY5 (d := d) (h0 := h) hY hYv hd hV hn cv 100 y h J (by omega) hyn c (fun _ _ => rfl)
theorem ac_addLine {x : Int} (hY : am_at Y b am_L2) (c : bkR h b R J i y) (hi : i < 60) : am_cV am_Book_addLine d Y [.inr (.inr b), .inl x] h (fun h1 => bkR h1 b R (if x = 0 then am_u J 7 i x else am_u (am_u J 7 i x) 0 0 (am_w (J 0 0 + 1))) (i + 1) y ∧ bkF h h1 b) := by
  refine am_Met.rg fun hok _ => ?_
  have k0 := c.1
  have r2 : am_ri (J 0 0) := by
    rw [← k0.2.1]
    exact (hok b _ (hY 0 _ rfl) 2).1 (by decide)
  -- what is left, for both
  have fin : ∀ (h1 h2 h3 : am_H) (z : Int), h1 = am_u h (b + 1) i x → h2 = am_u h1 b 2 z → h3 = am_u h2 b 0 ((i : Int) + 1) → z = (if x = 0 then J 0 0 else am_w (J 0 0 + 1)) → bkR h3 b R (if x = 0 then am_u J 7 i x else am_u (am_u J 7 i x) 0 0 (am_w (J 0 0 + 1))) (i + 1) y ∧ bkF h h3 b := by
    intro h1 h2 h3 z e1 e2 e3 ez
    refine ⟨?_, (bkF.u e1 (by omega) (by omega)).trans ((bkF.u e2 (by omega) (by omega)).trans (bkF.u e3 (by omega) (by omega)))⟩
    have E : ∀ q, q ≠ b → q ≠ b + 1 → h3 q = h q := fun q q0 q1 => by rw [e3, am_u_n _ _ _ _ q q0, e2, am_u_n _ _ _ _ q q0, e1, am_u_n _ _ _ _ q q1]
    generalize hJ : (if x = 0 then am_u J 7 i x else am_u (am_u J 7 i x) 0 0 (am_w (J 0 0 + 1))) = J'
    have j7 : J' 7 = up (J 7) i x := by
      rw [← hJ]
      split
      · rw [am_u_up]
      · rw [am_u_n _ _ _ _ _ (by omega), am_u_up]
    have j00 : J' 0 0 = z := by
      rw [← hJ, ez]
      split
      · rw [am_u_n _ _ _ _ _ (by omega)]
      · rw [am_u_s]
    have j0 : ∀ a, a ≠ 0 → J' 0 a = J 0 a := fun a ha => by
      rw [← hJ]
      split
      · rw [am_u_n _ _ _ _ _ (by omega)]
      · rw [am_u_j ha, am_u_n _ _ _ _ _ (by omega)]
    have jz : ∀ a, a ≠ 0 → a ≠ 7 → J' a = J a := fun a a0 a7 => by
      rw [← hJ]
      split
      · rw [am_u_n _ _ _ _ _ a7]
      · rw [am_u_n _ _ _ _ _ a0, am_u_n _ _ _ _ _ a7]
    obtain ⟨⟨k1, k2, k3⟩, k4, k5, k6, k7, k8, k9, kA, kB, kC, kD⟩ := c
    refine ⟨⟨?_, ?_, ?_⟩, fun j hj => ?_, fun p hp => ?_, ?_, ?_, ?_, (k9.but (fun q a b => E q (by omega) (by omega))).sameJ (jz 1 (by omega) (by omega)) (jz 2 (by omega) (by omega)) (jz 8 (by omega) (by omega)) (j0 3 (by omega)), ?_, by rw [j0 4 (by omega)]; exact kB, ?_, kD⟩
    · rw [e3, am_u_s]; omega
    · rw [e3, am_u_j (by omega), e2, am_u_s, j00]
    · rw [e3, am_u_j (by omega), e2, am_u_j (by omega), e1, am_u_n _ _ _ _ _ (by omega), j0 1 (by omega)]; exact k3
    · rw [j7, e3, am_u_n _ _ _ _ _ (by omega), e2, am_u_n _ _ _ _ _ (by omega), e1, am_u_up]
      by_cases e : j = i
      · subst e; rw [up_s, up_s]
      · rw [up_n e, up_n e]; exact k4 j (by omega)
    · rw [E _ (by omega) (by omega), E _ (by omega) (by omega), E _ (by omega) (by omega), jz 4 (by omega) (by omega), jz 5 (by omega) (by omega), jz 6 (by omega) (by omega)]
      exact k5 p hp
    · rw [jz 4 (by omega) (by omega), jz 5 (by omega) (by omega), jz 6 (by omega) (by omega)]
      exact k6
    · rw [jz 6 (by omega) (by omega), j0 2 (by omega)]
      exact k7
    · rw [E _ (by omega) (by omega), jz 3 (by omega) (by omega)]
      exact k8
    · rw [E _ (by omega) (by omega)]
      exact kA
    · unfold jBd
      rw [jz 6 (by omega) (by omega), j0 2 (by omega)]
      exact kC
  refine am_Met.of (by decide) rfl (Nat.le_of_ble_eq_true rfl) (ab_Book_addLine_0 hY ?_)
  rw [k0.1]
  refine ⟨fun w => by omega, fun _ => ⟨⟨by omega, by omega⟩, fun h1 e1 => ?_⟩⟩
  rw [Int.toNat_natCast] at e1
  have g2 : h1 b 2 = J 0 0 := by rw [e1, am_u_n _ _ _ _ _ (by omega)]; exact k0.2.1
  rw [g2]
  refine ⟨fun w h2 e2 => ?_, fun w h2 e2 => ?_⟩
  · have g0 : h2 b 0 = i := by rw [e2, am_u_j (by omega), e1, am_u_n _ _ _ _ _ (by omega)]; exact k0.1
    rw [g0]
    refine ⟨⟨by omega, by omega⟩, fun h3 e3 => ?_⟩
    rw [am_qV_s]
    exact fin h1 h2 h3 _ e1 e2 e3 (by rw [if_pos w, Int.add_zero, am_w_of r2])
  · have g0 : h2 b 0 = i := by rw [e2, am_u_j (by omega), e1, am_u_n _ _ _ _ _ (by omega)]; exact k0.1
    rw [g0]
    refine ⟨⟨by omega, by omega⟩, fun h3 e3 => ?_⟩
    rw [am_qV_s]
    exact fin h1 h2 h3 _ e1 e2 e3 (by rw [if_neg w])
/-- a new book -/
theorem ac_Book_begin (hY : am_at Y b am_L2) (hV : wV R) : am_cV am_Book_begin (d + 2) Y [.inr (.inr b)] h (fun h1 => (∀ J0 : am_H, bkR h1 b R (jClr J0) 0 0) ∧ h1 b 1 = 0 ∧ ∀ q, (q < b ∨ b + 9 ≤ q) → h1 q = h q) := by
  have hYb : am_at Y (b + 5) am_L1 := hY.sub 5 rfl
  have hz := hV.1.z
  have h48 := wr_2 hV.1
  refine am_Met.of (by decide) rfl (Nat.le_of_ble_eq_true rfl) (ab_Book_begin_0 hY ?_)
  intro h1 e1 h2 e2 h3 e3 h4 e4
  refine am_kV.of (ac_fillI (d := 0) (hY 2 _ rfl) (by omega)) (by omega) (fun h5 _ p5 => ?_)
  refine am_kV.of (ac_fillI (d := 0) (hY 3 _ rfl) (by omega)) (by omega) (fun h6 _ p6 => ?_)
  refine am_kV.of (ac_fillI (d := 0) (hY 4 _ rfl) (by omega)) (by omega) (fun h7 _ p7 => ?_)
  refine am_kV.of (ac_fillI (d := 0) (hY 8 _ rfl) (by omega)) (by omega) (fun h8 _ p8 => ?_)
  refine bondsBeginK hYb (by omega) ?_
  intro h9 q1 q2 q3
  rw [am_qV_s]
  have s4 : ∀ q, q ≠ b → h4 q = h q := fun q hq => by rw [e4, am_u_n _ _ _ _ q hq, e3, am_u_n _ _ _ _ q hq, e2, am_u_n _ _ _ _ q hq, e1, am_u_n _ _ _ _ q hq]
  have E8 : ∀ q, q ≠ b + 2 → q ≠ b + 3 → q ≠ b + 4 → q ≠ b + 8 → h8 q = h4 q := fun q a2 a3 a4 a8 => by rw [p8.1 q a8, p7.1 q a4, p6.1 q a3, p5.1 q a2]
  have E9 : ∀ q, q < b + 5 ∨ b + 8 ≤ q → h9 q = h8 q := fun q hq => q3 q (by omega) (by omega) (by omega)
  have eb : h9 b = h4 b := by rw [E9 b (by omega), E8 b (by omega) (by omega) (by omega) (by omega)]
  refine ⟨fun J0 => ?_, ?_, fun q hq => by rw [E9 q (by omega), E8 q (by omega) (by omega) (by omega) (by omega), s4 q (by omega)]⟩
  · have c0 : ∀ j, j < 5 → jClr J0 0 j = 0 := fun j hj => fil_in hj
    have c4 : ∀ z j, z = 4 ∨ z = 5 ∨ z = 6 → j < 8 → jClr J0 z j = 0 := fun z j hz hj => by
      rcases hz with rfl | rfl | rfl <;> exact fil_in hj
    have c3 : ∀ j, j < 48 → jClr J0 3 j = 0 := fun j hj => fil_in hj
    have c1 : ∀ j, j < 384 → jClr J0 1 j = 0 ∧ jClr J0 2 j = -1 ∧ jClr J0 8 j = 0 := fun j hj => ⟨fil_in hj, fil_in hj, fil_in hj⟩
    refine ⟨⟨?_, ?_, ?_⟩, fun j hj => by omega, fun p hp => ⟨?_, ?_, ?_⟩, fun p hp _ => ⟨c4 4 p (by omega) hp, c4 5 p (by omega) hp, c4 6 p (by omega) hp⟩, ?_, ⟨fun n hn => Or.inl ⟨?_, c3 _ (nO_n hV.2 hz hn).2⟩, fun q k hq hk _ => c3 _ (by omega)⟩, ?_, fun p n hp _ hn => ?_, c0 4 (by omega), ⟨fun p hp => ?_, ?_⟩, by omega, by omega⟩
    · rw [eb, e4, am_u_j (by omega), e3, am_u_j (by omega), e2, am_u_j (by omega), e1, am_u_s]; rfl
    · rw [eb, c0 0 (by omega), e4, am_u_j (by omega), e3, am_u_s]
    · rw [eb, c0 1 (by omega), e4, am_u_s]
    · rw [c4 4 p (by omega) hp, E9 _ (by omega), p8.1 _ (by omega), p7.1 _ (by omega), p6.1 _ (by omega)]
      exact p5.2 p hp
    · rw [c4 5 p (by omega) hp, E9 _ (by omega), p8.1 _ (by omega), p7.1 _ (by omega)]
      exact p6.2 p hp
    · rw [c4 6 p (by omega) hp, E9 _ (by omega), p8.1 _ (by omega)]
      exact p7.2 p hp
    · rw [c0 2 (by omega)]
      exact sm_zero 8 fun p hp => c4 6 p (by omega) hp
    · rw [E9 _ (by omega)]
      exact p8.2 n (by omega)
    · exact bdR.none hV.2 hz h48.2 q1 q2 c1 (c0 3 (by omega)) (by omega)
    · exact (q1 (48 * p + n) (by omega)).2
    · rw [c4 6 p (by omega) hp]; omega
    · rw [c0 2 (by omega)]; omega
  · rw [eb, e4, am_u_j (by omega), e3, am_u_j (by omega), e2, am_u_s]
end
