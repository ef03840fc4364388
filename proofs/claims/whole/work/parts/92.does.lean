/-! one's best help, asked: does, willing -/
abbrev asked (A : Nat → Int) (a n : Int) : Prop := (0 ≤ a ∧ a < A 1) ∧ (0 ≤ n ∧ n < A 2) ∧ ¬ a = A (225 + 2 * n).toNat ∧ 0 < A (35 + 6 * a + A (226 + 2 * n).toNat).toNat
def pmA (A : Nat → Int) (p n law : Int) : bP :=
  (am_wl (am_wl (am_wl (100000 * A (95 + 8 * p + A (225 + 2 * n).toNat).toNat) * A (10 + 2 * A (226 + 2 * n).toNat).toNat) - am_wl (1000000 * A (35 + 6 * p + A (226 + 2 * n).toNat).toNat)),
   am_wl (am_wl (am_wl (am_wl (100000 * A (95 + 8 * p + A (225 + 2 * n).toNat).toNat) * A (10 + 2 * A (226 + 2 * n).toNat).toNat) - am_wl (1000000 * A (35 + 6 * p + A (226 + 2 * n).toNat).toNat)) - am_wl (1000000 * A (11 + 2 * A (226 + 2 * n).toNat).toNat)),
   fPa (fun q => A (160 + 8 * (q : Int) + p).toNat) p, A 3, A 5, A 4, law)
section
variable {Y : am_Y} {h h1 h2 : am_H} {x m v d : Nat} {A N : Nat → Int} {a n t b law : Int}
/-- a need as it is told -/
theorem needRg (w : wV A) (hn : 0 ≤ n ∧ n < A 2) : (0 ≤ A (225 + 2 * n).toNat ∧ A (225 + 2 * n).toNat < A 1) ∧ (0 ≤ A (226 + 2 * n).toNat ∧ A (226 + 2 * n).toNat < A 0) := by
  have := w.2.2.1 n.toNat (by omega)
  rw [show (225 + 2 * n).toNat = 225 + 2 * n.toNat from by omega, show (226 + 2 * n).toNat = 226 + 2 * n.toNat from by omega]
  exact ⟨⟨this.1, this.2.1⟩, this.2.2⟩
theorem need_is {P : Int} (c : vR h v P A N) (hn : 0 ≤ n ∧ n < A 2) : h (v + 9) n.toNat = A (225 + 2 * n).toNat ∧ h (v + 10) n.toNat = A (226 + 2 * n).toNat := by
  have := c.2.2.2.2.2.1 n.toNat (by omega)
  rw [show (225 + 2 * n).toNat = 225 + 2 * n.toNat from by omega, show (226 + 2 * n).toNat = 226 + 2 * n.toNat from by omega]
  exact this
theorem vcm_is (c : vR h v (A 1) A N) (w : wV A) : vcm h v a n = if asked A a n then 1 else 0 := by
  have hz := w.1.z
  unfold rz at hz
  unfold vcm
  rw [c.1.2.1, c.1.2.2.1]
  by_cases za : 0 ≤ a ∧ a < A 1
  · by_cases zn : 0 ≤ n ∧ n < A 2
    · have g := needRg w zn
      have e := need_is c zn
      rw [e.1, e.2, c.p1 za (by omega) g.2 (by omega)]
      by_cases q : asked A a n
      · rw [if_pos q, if_pos ⟨za.1, za.2, zn.1, zn.2, q.2.2⟩]
      · rw [if_neg q, if_neg fun r => q ⟨za, zn, r.2.2.2.2⟩]
    · rw [if_neg fun r => zn ⟨r.2.2.1, r.2.2.2.1⟩, if_neg fun r => zn r.2.1]
  · rw [if_neg fun r => za ⟨r.1, r.2.1⟩, if_neg fun r => za r.1]
theorem bPof_is (c : vR h v (A 1) A N) (w : wV A) (za : 0 ≤ a ∧ a < A 1) (zn : 0 ≤ n ∧ n < A 2) : bPof h v a n law = pmA A a n law := by
  have hz := w.1.z
  unfold rz at hz
  have g := needRg w zn
  have e := need_is c zn
  have k := c.2.1 (A (226 + 2 * n).toNat).toNat (by omega)
  have d1 : bDay h v a n = (pmA A a n law).1 := by
    unfold bDay pmA
    rw [e.1, e.2, c.p1 za (by omega) g.2 (by omega), vfr_is c (by omega) za g.1, k.2.1, show (10 + 2 * A (226 + 2 * n).toNat).toNat = 10 + 2 * (A (226 + 2 * n).toNat).toNat from by omega]
  have d2 : bNig h v a n = (pmA A a n law).2.1 := by
    unfold bNig
    rw [d1, e.2, k.2.2]
    unfold pmA
    rw [show (11 + 2 * A (226 + 2 * n).toNat).toNat = 11 + 2 * (A (226 + 2 * n).toNat).toNat from by omega]
  unfold bPof
  rw [d1, d2, fPa_is c (by omega) za, c.1.2.2.2.1, c.1.2.2.2.2.1, c.1.2.2.2.2.2]
  rfl
theorem ac_N_tal : am_cI am_Nh_isTimeAndLaw d Y [.inl t, .inl law] h (fun r h1 => h1 = h ∧ r = if (0 ≤ t ∧ t ≤ 20) ∧ 0 ≤ law ∧ law ≤ 2 then 1 else 0) := by
  refine am_Met.of (by decide) rfl (Nat.le_of_ble_eq_true rfl) (ab_Nh_isTimeAndLaw_0 ⟨fun w => ?_, fun w => ⟨fun w2 => ?_, fun w2 => ⟨fun w3 => ?_, fun w3 => ⟨fun w4 => ?_, fun w4 => ?_⟩⟩⟩⟩)
  · rw [am_qI_s]
    exact ⟨rfl, (if_neg (by omega)).symm⟩
  · rw [am_qI_s]
    exact ⟨rfl, (if_neg (by omega)).symm⟩
  · rw [am_qI_s]
    exact ⟨rfl, (if_neg (by omega)).symm⟩
  · rw [am_qI_s]
    exact ⟨rfl, (if_neg (by omega)).symm⟩
  · rw [am_qI_s]
    exact ⟨rfl, (if_pos (by omega)).symm⟩
abbrev isC (A : Nat → Int) (a n t b law : Int) : Prop := asked A a n ∧ ((0 ≤ t ∧ t ≤ 20) ∧ 0 ≤ law ∧ law ≤ 2) ∧ 0 ≤ b ∧ b ≤ A 3
theorem ac_N_isCase (hY : am_at Y x am_L11) (c : vR h (x + 3) (A 1) A N) (w : wV A) : am_cI am_Nh_isCase (d + 2) Y [.inr (.inr x), .inl a, .inl n, .inl t, .inl b, .inl law] h (fun r h1 => h1 = h ∧ r = if isC A a n t b law then 1 else 0) := by
  have hz := w.1.z
  unfold rz at hz
  have vo1 := c.o1 w.1 (by omega)
  refine am_Met.of (by decide) rfl (Nat.le_of_ble_eq_true rfl) (ab_Nh_isCase_0 hY ?_)
  refine eK (ac_hasPerson (d := 0) (hY.sub 3 rfl)) (by omega) ?_
  rw [vin_2 c]
  by_cases za : 0 ≤ a ∧ a < A 1
  · rw [in1_t za]
    refine ⟨fun w => absurd w (by decide), fun _ => eK (ac_hasNeed (d := 0) (hY.sub 3 rfl)) (by omega) ?_⟩
    rw [vin_3 c]
    by_cases zn : 0 ≤ n ∧ n < A 2
    · rw [in1_t zn]
      refine ⟨fun w => absurd w (by decide), fun _ => eK (ac_canMeet (d := 0) (hY.sub 3 rfl) vo1) (by omega) ?_⟩
      rw [vcm_is c w]
      by_cases zq : asked A a n
      · rw [if_pos zq]
        refine ⟨fun w => absurd w (by decide), fun _ => eK (ac_N_tal (d := 0)) (by omega) ?_⟩
        by_cases zt : (0 ≤ t ∧ t ≤ 20) ∧ 0 ≤ law ∧ law ≤ 2
        · rw [if_pos zt]
          refine ⟨fun w => absurd w (by decide), fun _ => ?_⟩
          have e4 : h (x + 3) 4 = A 3 := c.1.2.2.2.1
          rw [e4]
          refine ⟨fun w => ?_, fun w => ⟨fun w2 => ?_, fun w2 => ?_⟩⟩
          · rw [am_qI_s]
            exact ⟨rfl, (if_neg fun q => by have := q.2.2.1; omega).symm⟩
          · rw [am_qI_s]
            exact ⟨rfl, (if_neg fun q => by have := q.2.2.2; omega).symm⟩
          · rw [am_qI_s]
            exact ⟨rfl, (if_pos ⟨zq, zt, w, w2⟩).symm⟩
        · rw [if_neg zt]
          refine ⟨fun _ => ?_, fun w => absurd rfl w⟩
          rw [am_qI_s]
          exact ⟨rfl, (if_neg fun q => zt q.2.1).symm⟩
      · rw [if_neg zq]
        refine ⟨fun _ => ?_, fun w => absurd rfl w⟩
        rw [am_qI_s]
        exact ⟨rfl, (if_neg fun q => zq q.1).symm⟩
    · rw [in1_f zn]
      refine ⟨fun _ => ?_, fun w => absurd rfl w⟩
      rw [am_qI_s]
      exact ⟨rfl, (if_neg fun q => zn q.1.2.1).symm⟩
  · rw [in1_f za]
    refine ⟨fun _ => ?_, fun w => absurd rfl w⟩
    rw [am_qI_s]
    exact ⟨rfl, (if_neg fun q => za q.1.1).symm⟩
theorem ac_m_isAsked (hM : am_at Y m am_L12) (w : wV (h (m + 2))) : am_cI am_Md_isAsked (d + 2) Y [.inr (.inr m), .inl a, .inl n, .inl t, .inl law] h (fun r h1 => h1 = h ∧ r = if asked (h (m + 2)) a n ∧ (0 ≤ t ∧ t ≤ 20) ∧ 0 ≤ law ∧ law ≤ 2 then 1 else 0) := by
  have hz := w.1.z
  unfold rz at hz
  have w2 := wr_2 w.1
  refine am_Met.of (by decide) rfl (Nat.le_of_ble_eq_true rfl) (ab_Md_isAsked_0 hM ?_)
  refine eK (ac_m_isPerson (d := 0) hM) (by omega) ?_
  by_cases za : 0 ≤ a ∧ a < h (m + 2) 1
  · rw [if_pos za]
    refine ⟨fun w => absurd w (by decide), fun _ => eK (ac_m_isNeed (d := 0) hM) (by omega) ?_⟩
    by_cases zn : 0 ≤ n ∧ n < h (m + 2) 2
    · rw [if_pos zn]
      have g := needRg w zn
      refine ⟨fun w => absurd w (by decide), fun _ => eK (ac_m_needy (d := 0) hM (by omega)) (by omega) ⟨fun q1 => ?_, fun q1 => eK (ac_m_needed (d := 0) hM (by omega)) (by omega) (eK (ac_m_pains (d := 0) hM (by omega) (by omega)) (by omega) ⟨fun q2 => ?_, fun q2 => eK (ac_m_isIn (d := 0)) (by omega) ?_⟩)⟩⟩
      · rw [am_qI_s]
        exact ⟨rfl, (if_neg fun q => q.1.2.2.1 q1).symm⟩
      · rw [am_qI_s]
        exact ⟨rfl, (if_neg fun q => by have := q.1.2.2.2; omega).symm⟩
      · by_cases zt : 0 ≤ t ∧ t ≤ 20
        · rw [if_pos zt]
          refine ⟨fun w => absurd w (by decide), fun _ => eK (ac_m_isIn (d := 0)) (by omega) ?_⟩
          by_cases zl : 0 ≤ law ∧ law ≤ 2
          · rw [if_pos zl]
            refine ⟨fun w => absurd w (by decide), fun _ => ?_⟩
            rw [am_qI_s]
            exact ⟨rfl, (if_pos ⟨⟨za, zn, q1, q2⟩, zt, zl⟩).symm⟩
          · rw [if_neg zl]
            refine ⟨fun _ => ?_, fun w => absurd rfl w⟩
            rw [am_qI_s]
            exact ⟨rfl, (if_neg fun q => zl q.2.2).symm⟩
        · rw [if_neg zt]
          refine ⟨fun _ => ?_, fun w => absurd rfl w⟩
          rw [am_qI_s]
          exact ⟨rfl, (if_neg fun q => zt q.2.1).symm⟩
    · rw [if_neg zn]
      refine ⟨fun _ => ?_, fun w => absurd rfl w⟩
      rw [am_qI_s]
      exact ⟨rfl, (if_neg fun q => zn q.1.2.1).symm⟩
  · rw [if_neg za]
    refine ⟨fun _ => ?_, fun w => absurd rfl w⟩
    rw [am_qI_s]
    exact ⟨rfl, (if_neg fun q => za q.1.1).symm⟩
/-- a question that fills the class's table -/
theorem two_g {Mc Mm : am_M} {av : List am_V} {F : Int} (dis : x + 148 ≤ m) (c : RL h x m) (kc : am_cI Mc 60 Y (.inr (.inr x) :: av) h fun v h1 => (∀ q, (q < x + 111 ∨ x + 114 ≤ q) → h1 q = h q) ∧ v = F) (km : ∀ h1, am_ok Y h1 → (∀ q, m ≤ q → h1 q = h q) → lai h1 m = lai h m → am_cI Mm 60 Y (.inr (.inr m) :: av) h1 fun w h2 => w = F ∧ (∀ q, q < m → h2 q = h1 q) ∧ yFr h1 h2 m) : am_two Mc Mm Y x m av h := by
  refine am_cI.mono kc ?_
  rintro v h1 ok1 - ⟨f1, rfl⟩
  have e1 : ∀ q, m ≤ q → h1 q = h q := fun q hq => f1 q (by omega)
  refine am_cI.mono (km h1 ok1 e1 (lai_u (e1 _ (by omega)) (by rw [e1 m (by omega)]))) ?_
  rintro w h2 - - ⟨rfl, a, b⟩
  exact ⟨rfl, c.but (xFr.two dis ⟨fun j _ => by rw [f1 x (by omega)], fun q a b => f1 q (by omega)⟩ a) (b.two e1)⟩
theorem mL.y2 (c : mL h h1 m) (f : ∀ q, q ≠ m + 18 → q ≠ m + 19 → h2 q = h1 q) : (∀ q, q < m → h2 q = h q) ∧ yFr h h2 m := by
  obtain ⟨a, b1, b2, b3⟩ := c.y
  refine ⟨fun q hq => by rw [f q (by omega) (by omega), a q hq], ?_, fun q hq => by rw [f q (by omega) (by omega), b2 q hq], fun j hj => by rw [f m (by omega) (by omega), b3 j hj]⟩
  rw [lai_u (f _ (by omega) (by omega)) (by rw [f m (by omega) (by omega)]), b1]
theorem ac_m_freely (hM : am_at Y m am_L12) (w : wV (h (m + 2))) (za : 0 ≤ a ∧ a < h (m + 2) 1) (zn : 0 ≤ n ∧ n < h (m + 2) 2) (ht : 0 ≤ t ∧ t ≤ 20) (hl : 0 ≤ law ∧ law ≤ 2) : am_cI am_Md_freely (d + 3) Y [.inr (.inr m), .inl a, .inl n, .inl t, .inl law] h (fun r h1 => (∀ q, q ≠ m + 18 → q ≠ m + 19 → h1 q = h q) ∧ r = bA (pmA (h (m + 2)) a n law) t.toNat 0 ∧ ∀ i b : Nat, (i : Int) ≤ t → (b : Int) ≤ h (m + 2) 3 → h1 (m + 19) (i * 10 + b) = bA (pmA (h (m + 2)) a n law) i b) := by
  have hz := w.1.z
  unfold rz at hz
  have w2 := wr_2 w.1
  have w3 := wr_3 w.1
  have g := needRg w zn
  refine am_Met.of (by decide) rfl (Nat.le_of_ble_eq_true rfl) (ab_Md_freely_0 hM ?_)
  refine am_kV.of (ac_m_layValues (d := 0) hM (by omega) (by omega) (by omega) (by omega) (by omega) ht hl) (by omega) ?_
  rintro h1 - ⟨f1, k1⟩
  have e : mP h m a n law = pmA (h (m + 2)) a n law := rfl
  rw [e] at k1
  have kk : ∀ i b : Nat, (i : Int) ≤ t → (b : Int) ≤ h (m + 2) 3 → h1 (m + 19) (i * 10 + b) = bA (pmA (h (m + 2)) a n law) i b := fun i b hi hb => (k1 i b hi hb).2
  refine ⟨by unfold am_ri; omega, by omega, ?_⟩
  rw [am_qI_s]
  have := kk t.toNat 0 (by omega) (by omega)
  rw [show t.toNat * 10 + 0 = (10 * t).toNat from by omega] at this
  exact ⟨f1, this, kk⟩
end
section
variable {Y : am_Y} {h : am_H} {x m : Nat} {a n t b law : Int}
/-- the class's table is filled -/
theorem best_K {h : am_H} {d : Nat} {A N : Nat → Int} {K : am_H → Prop} (hY : am_at Y x am_L11) (c : vR h (x + 3) (A 1) A N) (w : wV A) (q : asked A a n) (ht : 0 ≤ t ∧ t ≤ 20) (hd : 3 < d) (k : ∀ h1, am_ok Y h1 → (∀ q, (q < x + 111 ∨ x + 114 ≤ q) → h1 q = h q) → (∀ i b : Nat, (i : Int) ≤ t → (b : Int) ≤ A 3 → h1 (x + 112) (i * 10 + b) = bV (pmA A a n law) i b ∧ h1 (x + 113) (i * 10 + b) = bA (pmA A a n law) i b) → K h1) : am_kV am_Best_fill d Y [.inr (.inr (x + 111)), .inr (.inr (x + 3)), .inl a, .inl n, .inl t, .inl law] h K := by
  have hz := w.1.z
  unfold rz at hz
  have w3 := wr_3 w.1
  have vo1 := c.o1 w.1 (by omega)
  have g := needRg w q.2.1
  have e := need_is c q.2.1
  refine am_kV.of (ac_Best_fill (d := 0) (hY.sub 111 rfl) (hY.sub 3 rfl) (by omega) vo1 (by rw [c.1.2.2.2.1]; omega) (by rw [vcm_is c w, if_pos q]) (by rw [e.2]; omega) ht) hd ?_
  rintro h1 ok ⟨f1, k1⟩
  rw [bPof_is c w q.1 q.2.1] at k1
  exact k h1 ok (fun q hq => f1 q (by omega) (by omega) (by omega)) fun i b hi hb => k1 i b hi hb
theorem two_does (hY : am_at Y x am_L11) (hM : am_at Y m am_L12) (dis : x + 148 ≤ m) (c : RL h x m) : am_two am_Nh_does am_Md_does Y x m [.inl a, .inl n, .inl t, .inl b, .inl law] h := by
  obtain ⟨c1, c2, -⟩ := c.2.1
  have c1' : vR h (x + 3) (lai h m 1) (lai h m) (h (m + 6)) := c1
  have hz := c2.1.z
  unfold rz at hz
  have w2 := wr_2 c2.1
  have w3 := wr_3 c2.1
  refine am_Met.rg fun ok _ => ?_
  refine two_g (F := if isC (lai h m) a n t b law then bA (pmA (lai h m) a n law) t.toNat b.toNat else -1) dis c ?_ ?_
  · refine am_Met.of (by decide) rfl (Nat.le_of_ble_eq_true rfl) (ab_Nh_does_0 hY ?_)
    refine eK (ac_N_isCase (d := 0) hY c1' c2) (by omega) ?_
    by_cases z : isC (lai h m) a n t b law
    · rw [if_pos z, if_pos z]
      obtain ⟨z1, ⟨z2, z3⟩, z4⟩ := z
      refine ⟨fun _ => best_K hY c1' c2 z1 z2 (by omega) fun h1 _ f1 k1 => eK (ac_actAt (d := 0) (hY.sub 111 rfl)) (by omega) ?_, fun w => absurd w (by decide)⟩
      rw [am_qI_s, if_pos (by omega)]
      refine ⟨f1, ?_⟩
      have := (k1 t.toNat b.toNat (by omega) (by omega)).2
      rw [show t.toNat * 10 + b.toNat = (t * 10 + b).toNat from by omega] at this
      exact this
    · rw [if_neg z, if_neg z]
      refine ⟨fun w => absurd rfl w, fun _ => ?_⟩
      rw [am_qI_s]
      exact ⟨fun _ _ => rfl, rfl⟩
  · intro h1 ok1 e1 la
    refine am_Met.of (by decide) rfl (Nat.le_of_ble_eq_true rfl) (ab_Md_does_0 hM (mL.lay hM (b22 ok1 hM) (by omega) fun h2 _ l => ?_))
    have l2 : h2 (m + 2) = lai h m := by rw [l.2.1, la]
    refine eK (ac_m_isAsked (d := 0) hM (by rw [l2]; exact c2)) (by omega) ?_
    rw [l2]
    by_cases z : asked (lai h m) a n ∧ (0 ≤ t ∧ t ≤ 20) ∧ 0 ≤ law ∧ law ≤ 2
    · rw [if_pos z]
      refine ⟨fun w => absurd w (by decide), fun _ => eK (ac_m_isIn (d := 0)) (by omega) ?_⟩
      by_cases zb : 0 ≤ b ∧ b ≤ lai h m 3
      · rw [if_pos zb, if_pos ⟨z.1, z.2, zb⟩]
        have g := needRg c2 z.1.2.1
        refine ⟨fun _ => am_kV.of (ac_m_layValues (d := 0) hM (by omega) (by omega) (by rw [l2]; omega) (by rw [l2]; omega) (by rw [l2]; omega) z.2.1 z.2.2) (by omega) ?_, fun w => absurd w (by decide)⟩
        rintro h7 - ⟨f7, k7⟩
        refine ⟨by unfold am_ri; omega, by unfold am_ri; omega, by omega, ?_⟩
        rw [am_qI_s]
        refine ⟨?_, l.y2 f7⟩
        have e : mP h2 m a n law = pmA (h2 (m + 2)) a n law := rfl
        rw [e, l2] at k7
        have := (k7 t.toNat b.toNat (by omega) (by show (b.toNat : Int) ≤ lai h m 3; omega)).2
        rw [show t.toNat * 10 + b.toNat = (10 * t + b).toNat from by omega] at this
        exact this
      · rw [if_neg zb, if_neg fun q => zb q.2.2]
        refine ⟨fun w => absurd rfl w, fun _ => ?_⟩
        rw [am_qI_s]
        exact ⟨rfl, l.y⟩
    · rw [if_neg z, if_neg fun q => z ⟨q.1, q.2.1⟩]
      refine ⟨fun _ => ?_, fun w => absurd rfl w⟩
      rw [am_qI_s]
      exact ⟨rfl, l.y⟩
def wil (A : Nat → Int) (n t law : Int) (p : Nat) : Int := if asked A (p : Int) n ∧ ¬ bA (pmA A (p : Int) n law) t.toNat 0 = 0 then 1 else 0
theorem wil_le (A : Nat → Int) (n t law : Int) (k : Nat) : 0 ≤ sm (wil A n t law) k ∧ sm (wil A n t law) k ≤ k := by
  have := sm_le (f := wil A n t law) (c := 1) k fun q _ => by
    unfold wil
    split
    · omega
    · omega
  omega
theorem two_willing (hY : am_at Y x am_L11) (hM : am_at Y m am_L12) (dis : x + 148 ≤ m) (c : RL h x m) : am_two am_Nh_willing am_Md_willing Y x m [.inl n, .inl t, .inl law] h := by
  obtain ⟨c1, c2, -⟩ := c.2.1
  have c1' : vR h (x + 3) (lai h m 1) (lai h m) (h (m + 6)) := c1
  have hz := c2.1.z
  unfold rz at hz
  have w2 := wr_2 c2.1
  have w3 := wr_3 c2.1
  refine am_Met.rg fun ok _ => ?_
  refine two_g (F := if (0 ≤ n ∧ n < lai h m 2) ∧ (0 ≤ t ∧ t ≤ 20) ∧ 0 ≤ law ∧ law ≤ 2 then sm (wil (lai h m) n t law) (lai h m 1).toNat else -1) dis c ?_ ?_
  · refine am_Met.of (by decide) rfl (Nat.le_of_ble_eq_true rfl) (ab_Nh_willing_0 hY ?_)
    refine eK (ac_hasNeed (d := 0) (hY.sub 3 rfl)) (by omega) ?_
    rw [vin_3 c1']
    by_cases zn : 0 ≤ n ∧ n < lai h m 2
    · rw [in1_t zn]
      refine ⟨fun w => absurd w (by decide), fun _ => eK (ac_N_tal (d := 0)) (by omega) ?_⟩
      by_cases zt : (0 ≤ t ∧ t ≤ 20) ∧ 0 ≤ law ∧ law ≤ 2
      · rw [if_pos zt, if_pos ⟨zn, zt⟩]
        refine ⟨fun _ => ?_, fun w => absurd w (by decide)⟩
        have lp : ∀ i : Int, ∀ g : am_H, 0 ≤ i → i ≤ lai h m 1 → (∀ q, (q < x + 111 ∨ x + 114 ≤ q) → g q = h q) → aw_Nh_willing_34 60 Y x n t law (sm (wil (lai h m) n t law) i.toNat) i g (am_qI fun v h1 => (∀ q, (q < x + 111 ∨ x + 114 ≤ q) → h1 q = h q) ∧ v = sm (wil (lai h m) n t law) (lai h m 1).toNat) := by
          refine am_up (fun i => ∀ g : am_H, 0 ≤ i → i ≤ lai h m 1 → (∀ q, (q < x + 111 ∨ x + 114 ≤ q) → g q = h q) → aw_Nh_willing_34 60 Y x n t law (sm (wil (lai h m) n t law) i.toNat) i g (am_qI fun v h1 => (∀ q, (q < x + 111 ∨ x + 114 ≤ q) → h1 q = h q) ∧ v = sm (wil (lai h m) n t law) (lai h m 1).toNat)) (lai h m 1) ?_ ?_
          · intro i hi g h0 h8 e
            have gv : vR g (x + 3) (lai h m 1) (lai h m) (h (m + 6)) := c1'.but fun q a b => e q (by omega)
            have g2 : g (x + 3) 2 = lai h m 1 := gv.1.2.1
            refine ab_Nh_willing_34 hY ?_
            rw [g2]
            refine ⟨fun _ => ?_, fun w => by omega⟩
            rw [am_qI_s]
            exact ⟨e, by rw [show i = lai h m 1 from by omega]⟩
          · intro i hi ih g h0 h8 e
            have gv : vR g (x + 3) (lai h m 1) (lai h m) (h (m + 6)) := c1'.but fun q a b => e q (by omega)
            have g2 : g (x + 3) 2 = lai h m 1 := gv.1.2.1
            have le := wil_le (lai h m) n t law i.toNat
            have step : ∀ (s : Int) (g' : am_H), s = wil (lai h m) n t law i.toNat → (∀ q, (q < x + 111 ∨ x + 114 ≤ q) → g' q = h q) → aw_Nh_willing_34 60 Y x n t law (sm (wil (lai h m) n t law) i.toNat + s) (i + 1) g' (am_qI fun v h1 => (∀ q, (q < x + 111 ∨ x + 114 ≤ q) → h1 q = h q) ∧ v = sm (wil (lai h m) n t law) (lai h m 1).toNat) := by
              intro s g' hs e'
              have := ih g' (by omega) (by omega) e'
              rw [show (i + 1).toNat = i.toNat + 1 from by omega] at this
              rw [hs]
              exact this
            refine ab_Nh_willing_34 hY ?_
            rw [g2]
            refine ⟨fun w => by omega, fun _ => eK (ac_canMeet (d := 0) (hY.sub 3 rfl) (gv.o1 c2.1 (by omega))) (by omega) ?_⟩
            rw [vcm_is gv c2]
            by_cases q : asked (lai h m) i n
            · rw [if_pos q]
              refine ⟨fun w => absurd w (by decide), fun _ => best_K hY gv c2 q zt.1 (by omega) fun h1 _ f1 k1 => eK (ac_actAt (d := 0) (hY.sub 111 rfl)) (by omega) ?_⟩
              have k2 := (k1 t.toNat 0 (by omega) (by omega)).2
              rw [show t.toNat * 10 + 0 = (t * 10 + 0).toNat from by omega] at k2
              have k3 : h1 (x + 111 + 2) (t * 10 + 0).toNat = bA (pmA (lai h m) i n law) t.toNat 0 := k2
              rw [if_pos (by omega), k3]
              have e' : ∀ q, (q < x + 111 ∨ x + 114 ≤ q) → h1 q = h q := fun q hq => (f1 q hq).trans (e q hq)
              have wl : wil (lai h m) n t law i.toNat = if bA (pmA (lai h m) i n law) t.toNat 0 = 0 then 0 else 1 := by
                unfold wil
                rw [show ((i.toNat : Nat) : Int) = i from by omega]
                by_cases b0 : bA (pmA (lai h m) i n law) t.toNat 0 = 0
                · rw [if_pos b0, if_neg fun r => r.2 b0]
                · rw [if_neg b0, if_pos ⟨q, b0⟩]
              refine ⟨fun w => ⟨by unfold am_ri; omega, by unfold am_ri; omega, step 0 h1 (by rw [wl, if_pos w]) e'⟩, fun w => ⟨by unfold am_ri; omega, by unfold am_ri; omega, step 1 h1 (by rw [wl, if_neg w]) e'⟩⟩
            · rw [if_neg q]
              refine ⟨fun _ => ⟨by unfold am_ri; omega, ?_⟩, fun w => absurd rfl w⟩
              have := step 0 g (by unfold wil; rw [show ((i.toNat : Nat) : Int) = i from by omega, if_neg fun r => q r.1]) e
              rw [Int.add_zero] at this
              exact this
        exact lp 0 h (by omega) (by omega) fun _ _ => rfl
      · rw [if_neg zt, if_neg fun q => zt q.2]
        refine ⟨fun w => absurd rfl w, fun _ => ?_⟩
        rw [am_qI_s]
        exact ⟨fun _ _ => rfl, rfl⟩
    · rw [in1_f zn, if_neg fun q => zn q.1]
      refine ⟨fun _ => ?_, fun w => absurd rfl w⟩
      rw [am_qI_s]
      exact ⟨fun _ _ => rfl, rfl⟩
  · intro h1 ok1 e1 la
    refine am_Met.of (by decide) rfl (Nat.le_of_ble_eq_true rfl) (ab_Md_willing_0 hM (mL.lay hM (b22 ok1 hM) (by omega) fun h2 _ l => ?_))
    have l2 : h2 (m + 2) = lai h m := by rw [l.2.1, la]
    refine eK (ac_m_isNeed (d := 0) hM) (by omega) ?_
    rw [l2]
    by_cases zn : 0 ≤ n ∧ n < lai h m 2
    · rw [if_pos zn]
      refine ⟨fun w => absurd w (by decide), fun _ => eK (ac_m_isIn (d := 0)) (by omega) ?_⟩
      by_cases zt : 0 ≤ t ∧ t ≤ 20
      · rw [if_pos zt]
        refine ⟨fun w => absurd w (by decide), fun _ => eK (ac_m_isIn (d := 0)) (by omega) ?_⟩
        by_cases zl : 0 ≤ law ∧ law ≤ 2
        · rw [if_pos zl, if_pos ⟨zn, zt, zl⟩]
          refine ⟨fun _ => ?_, fun w => absurd w (by decide)⟩
          have lp : ∀ i : Int, ∀ g : am_H, 0 ≤ i → i ≤ lai h m 1 → (∀ q, q ≠ m + 18 → q ≠ m + 19 → g q = h2 q) → aw_Md_willing_44 60 Y m n t law (sm (wil (lai h m) n t law) i.toNat) i g (am_qI fun v h3 => v = sm (wil (lai h m) n t law) (lai h m 1).toNat ∧ (∀ q, q < m → h3 q = h1 q) ∧ yFr h1 h3 m) := by
            refine am_up (fun i => ∀ g : am_H, 0 ≤ i → i ≤ lai h m 1 → (∀ q, q ≠ m + 18 → q ≠ m + 19 → g q = h2 q) → aw_Md_willing_44 60 Y m n t law (sm (wil (lai h m) n t law) i.toNat) i g (am_qI fun v h3 => v = sm (wil (lai h m) n t law) (lai h m 1).toNat ∧ (∀ q, q < m → h3 q = h1 q) ∧ yFr h1 h3 m)) (lai h m 1) ?_ ?_
            · intro i hi g h0 h8 e
              have g2 : g (m + 2) = lai h m := by rw [e _ (by omega) (by omega), l2]
              refine ab_Md_willing_44 hM (eK (ac_m_persons (d := 0) hM) (by omega) ?_)
              rw [g2]
              refine ⟨fun _ => ?_, fun w => by omega⟩
              rw [am_qI_s]
              exact ⟨by rw [show i = lai h m 1 from by omega], l.y2 e⟩
            · intro i hi ih g h0 h8 e
              have g2 : g (m + 2) = lai h m := by rw [e _ (by omega) (by omega), l2]
              have le := wil_le (lai h m) n t law i.toNat
              have step : ∀ (s : Int) (g' : am_H), s = wil (lai h m) n t law i.toNat → (∀ q, q ≠ m + 18 → q ≠ m + 19 → g' q = h2 q) → aw_Md_willing_44 60 Y m n t law (sm (wil (lai h m) n t law) i.toNat + s) (i + 1) g' (am_qI fun v h3 => v = sm (wil (lai h m) n t law) (lai h m 1).toNat ∧ (∀ q, q < m → h3 q = h1 q) ∧ yFr h1 h3 m) := by
                intro s g' hs e'
                have := ih g' (by omega) (by omega) e'
                rw [show (i + 1).toNat = i.toNat + 1 from by omega] at this
                rw [hs]
                exact this
              refine ab_Md_willing_44 hM (eK (ac_m_persons (d := 0) hM) (by omega) ?_)
              rw [g2]
              refine ⟨fun w => by omega, fun _ => eK (ac_m_isAsked (d := 0) hM (by rw [g2]; exact c2)) (by omega) ?_⟩
              rw [g2]
              by_cases q : asked (lai h m) i n
              · rw [if_pos ⟨q, zt, zl⟩]
                refine ⟨fun w => absurd w (by decide), fun _ => am_kI.of (ac_m_freely (d := 0) hM (by rw [g2]; exact c2) (by rw [g2]; omega) (by rw [g2]; omega) zt zl) (by omega) ?_⟩
                rintro v h3 - - ⟨f3, rfl, -⟩
                rw [g2]
                have e' : ∀ q, q ≠ m + 18 → q ≠ m + 19 → h3 q = h2 q := fun q a b => (f3 q a b).trans (e q a b)
                have wl : wil (lai h m) n t law i.toNat = if bA (pmA (lai h m) i n law) t.toNat 0 = 0 then 0 else 1 := by
                  unfold wil
                  rw [show ((i.toNat : Nat) : Int) = i from by omega]
                  by_cases b0 : bA (pmA (lai h m) i n law) t.toNat 0 = 0
                  · rw [if_pos b0, if_neg fun r => r.2 b0]
                  · rw [if_neg b0, if_pos ⟨q, b0⟩]
                refine ⟨fun w => ⟨by unfold am_ri; omega, ?_⟩, fun w => ⟨by unfold am_ri; omega, by unfold am_ri; omega, step 1 h3 (by rw [wl, if_neg w]) e'⟩⟩
                have := step 0 h3 (by rw [wl, if_pos w]) e'
                rw [Int.add_zero] at this
                exact this
              · rw [if_neg fun r => q r.1]
                refine ⟨fun _ => ⟨by unfold am_ri; omega, ?_⟩, fun w => absurd rfl w⟩
                have := step 0 g (by unfold wil; rw [show ((i.toNat : Nat) : Int) = i from by omega, if_neg fun r => q r.1]) e
                rw [Int.add_zero] at this
                exact this
          exact lp 0 h2 (by omega) (by omega) fun _ _ _ => rfl
        · rw [if_neg zl, if_neg fun q => zl q.2.2]
          refine ⟨fun w => absurd rfl w, fun _ => ?_⟩
          rw [am_qI_s]
          exact ⟨rfl, l.y⟩
      · rw [if_neg zt, if_neg fun q => zt q.2.1]
        refine ⟨fun _ => ?_, fun w => absurd rfl w⟩
        rw [am_qI_s]
        exact ⟨rfl, l.y⟩
    · rw [if_neg zn, if_neg fun q => zn q.1]
      refine ⟨fun _ => ?_, fun w => absurd rfl w⟩
      rw [am_qI_s]
      exact ⟨rfl, l.y⟩
end
