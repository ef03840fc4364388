/-! help, person, came, best: both sides -/
section
variable {Y : am_Y} {h h1 h2 g : am_H} {x m v d : Nat} {A N : Nat → Int} {a b n t law P w F : Int} {V : Int → am_V} {B : Prop}
theorem thrZ (dis : x + 148 ≤ m) (c1 : RL h1 x m) (lo : ∀ q, q < m → h2 q = h1 q) (y : yFr h1 h2 m) (hi : ∀ q, m + 31 ≤ q → h2 q = h1 q) (k : B ∧ w = F ∧ h2 m 0 = 0 ∨ ¬ B ∧ h2 m 0 = 1) : ∃ w', some (V w) = some (V w') ∧ (B → w' = F ∧ h2 m 0 = 0) ∧ (¬ B → h2 m 0 = 1) ∧ RL h2 x m ∧ ∀ q, m + 31 ≤ q → h2 q = h1 q := by
  refine ⟨w, rfl, fun z => ?_, fun z => ?_, thrE dis c1 lo y, hi⟩
  · rcases k with k | k
    · exact k.2
    · exact absurd z k.1
  · rcases k with k | k
    · exact absurd k.1 z
    · exact k.2
theorem laT (l : laQ h g m) (t : Int) : (∀ q, q < m → am_u g m 0 t q = h q) ∧ yFr h (am_u g m 0 t) m ∧ (∀ q, m + 31 ≤ q → am_u g m 0 t q = h q) ∧ am_u g m 0 t (m + 2) = lai h m ∧ am_u g m 0 t m 0 = t := by
  obtain ⟨l1, l2, l3, l4⟩ := l
  have e : ∀ q, q ≠ m → am_u g m 0 t q = g q := am_u_n g m 0 t
  have ej : ∀ j, j ≠ 0 → am_u g m 0 t m j = g m j := fun j hj => am_u_j (by omega)
  refine ⟨fun q hq => by rw [e q (by omega), l3 q (by omega) (by omega)], ⟨?_, fun q hq => by rw [e q (by omega), l3 q (by omega) (by omega)], fun j hj => by rw [ej j (by omega), l4 j (by omega)]⟩, fun q hq => by rw [e q (by omega), l3 q (by omega) (by omega)], by rw [e _ (by omega), l1], am_u_s g m 0 t⟩
  rw [lai_1 (by rw [ej 22 (by omega), l2]), e _ (by omega), l1]
theorem thr0 (dis : x + 148 ≤ m) (c1 : RL h1 x m) (l : laQ h1 g m) (b : B) (e : w = F) : ∃ w', some (V w) = some (V w') ∧ (B → w' = F ∧ am_u g m 0 0 m 0 = 0) ∧ (¬ B → am_u g m 0 0 m 0 = 1) ∧ RL (am_u g m 0 0) x m ∧ ∀ q, m + 31 ≤ q → am_u g m 0 0 q = h1 q := by
  obtain ⟨a1, a2, a3, -, a5⟩ := laT l 0
  exact thrZ dis c1 a1 a2 a3 (Or.inl ⟨b, e, a5⟩)
theorem thr1 (dis : x + 148 ≤ m) (c1 : RL h1 x m) (l : laQ h1 g m) (b : ¬ B) : ∃ w', some (V w) = some (V w') ∧ (B → w' = F ∧ am_u g m 0 1 m 0 = 0) ∧ (¬ B → am_u g m 0 1 m 0 = 1) ∧ RL (am_u g m 0 1) x m ∧ ∀ q, m + 31 ≤ q → am_u g m 0 1 q = h1 q := by
  obtain ⟨a1, a2, a3, -, a5⟩ := laT l 1
  exact thrZ dis c1 a1 a2 a3 (Or.inr ⟨b, a5⟩)
theorem refK {K : Int → am_H → Prop} (hM : am_at Y m am_L12) (hd : 0 < d) (k : ∀ r, K r (am_u h m 0 1)) : am_kI am_Md_refuse d Y [.inr (.inr m)] h K :=
  am_kI.of (ac_m_refuse (d := 0) hM) hd (by rintro r h1 - - rfl; exact k r)
theorem thr_help (hY : am_at Y x am_L11) (hM : am_at Y m am_L12) (dis : x + 148 ≤ m) (c : RL h x m) : am_thr am_Nh_help am_Md_help Y x m [.inl a, .inl b] h (fun w => .inl w) := by
  obtain ⟨c1, c2, -⟩ := c.2.1
  have c1' : vR h (x + 3) (lai h m 1) (lai h m) (h (m + 6)) := c1
  have hz := c2.1.z
  unfold rz at hz
  refine ⟨(0 ≤ a ∧ a < lai h m 0) ∧ 0 ≤ b ∧ b ≤ 1, lai h m (10 + 2 * a + b).toNat, xb_Nh_help hY (by omega) (eK (ac_hasHelp (d := 0) (hY.sub 3 rfl)) (by omega) ?_), ?_⟩
  · rw [vin_1 c1']
    by_cases z : 0 ≤ a ∧ a < lai h m 0
    · rw [in1_t z]
      have k := c1'.2.1 a.toNat (by omega)
      refine ⟨fun q => absurd q (by decide), fun _ => ⟨fun q => ⟨fun r => by omega, fun _ _ => rfl⟩, fun q => ⟨fun q2 => ⟨fun q3 => ⟨by omega, ⟨z, by omega⟩, ?_, fun _ _ => rfl⟩, fun q3 => ⟨by omega, ⟨z, by omega⟩, ?_, fun _ _ => rfl⟩⟩, fun q2 => ⟨fun r => by omega, fun _ _ => rfl⟩⟩⟩⟩
      · rw [show (10 + 2 * a + b).toNat = 11 + 2 * a.toNat from by omega, ← k.2.2]
      · rw [show (10 + 2 * a + b).toNat = 10 + 2 * a.toNat from by omega, ← k.2.1]
    · rw [in1_f z]
      exact ⟨fun _ => ⟨fun r => z r.1, fun _ _ => rfl⟩, fun q => absurd rfl q⟩
  · intro h1 ok1 e
    obtain ⟨c1, la, em⟩ := thrR dis c e
    have hb := b22 ok1 hM
    refine am_Met.of (by decide) rfl (Nat.le_of_ble_eq_true rfl) (ab_Md_help_0 hM (am_kV.of (ac_m_lay (d := 0) hM hb) (by omega) ?_))
    intro g _ l
    have l1 : g (m + 2) = lai h m := by rw [l.1, la]
    refine eK (ac_m_isHelp (d := 0) hM) (by omega) ?_
    rw [l1]
    by_cases z : 0 ≤ a ∧ a < lai h m 0
    · rw [if_pos z]
      refine ⟨fun q => absurd q (by decide), fun _ => eK (ac_m_isIn (d := 0)) (by omega) ?_⟩
      by_cases zb : 0 ≤ b ∧ b ≤ 1
      · rw [if_pos zb]
        refine ⟨fun _ h9 e9 => ?_, fun q => absurd q (by decide)⟩
        subst e9
        refine ⟨by unfold am_ri; omega, by unfold am_ri; omega, by unfold am_ri; omega, by omega, thr0 dis c1 l ⟨z, zb⟩ ?_⟩
        rw [am_u_n _ _ _ _ _ (by omega), l1]
      · rw [if_neg zb]
        exact ⟨fun q => absurd rfl q, fun _ => refK hM (by omega) fun r => thr1 dis c1 l fun q => zb q.2⟩
    · rw [if_neg z]
      exact ⟨fun _ => refK hM (by omega) fun r => thr1 dis c1 l fun q => z q.1, fun q => absurd rfl q⟩
def qPer (A : Nat → Int) (a b : Int) : Int := if b = 0 then A (25 + a).toNat else if b = 1 then cb A a (A 0).toNat else if b = 2 then A (85 + a).toNat else A (325 + 2 * a + b - 3).toNat
theorem thr_person (hY : am_at Y x am_L11) (hM : am_at Y m am_L12) (dis : x + 148 ≤ m) (c : RL h x m) : am_thr am_Nh_person am_Md_person Y x m [.inl a, .inl b] h (fun w => .inl w) := by
  obtain ⟨c1, c2, -, -, c5, -⟩ := c.2.1
  have c1' : vR h (x + 3) (lai h m 1) (lai h m) (h (m + 6)) := c1
  have hz := c2.1.z
  unfold rz at hz
  refine ⟨(0 ≤ a ∧ a < lai h m 1) ∧ 0 ≤ b ∧ b ≤ 4, qPer (lai h m) a b, xb_Nh_person hY (by omega) (eK (ac_hasPerson (d := 0) (hY.sub 3 rfl)) (by omega) ?_), ?_⟩
  · rw [vin_2 c1']
    by_cases z : 0 ≤ a ∧ a < lai h m 1
    · rw [in1_t z]
      have k := (c1'.2.2.1 a.toNat (by omega)).2
      have k2 := c5 a.toNat (by omega)
      refine ⟨fun q => absurd q (by decide), fun _ => ⟨fun q => ⟨fun r => by omega, fun _ _ => rfl⟩, fun q => ⟨fun q2 => ⟨fun q3 => ⟨by omega, ⟨z, by omega⟩, ?_, fun _ _ => rfl⟩, fun q3 => ⟨by omega, ⟨z, by omega⟩, ?_, fun _ _ => rfl⟩, fun q3 => eK (ac_V_canBits (d := 0) (hY.sub 3 rfl) c1' c2 z) (by omega) ⟨⟨z, by omega⟩, ?_, fun _ _ => rfl⟩, fun q3 => eK (ac_V_needBits (d := 0) (hY.sub 3 rfl) c1' c2 z) (by omega) ⟨⟨z, by omega⟩, ?_, fun _ _ => rfl⟩, fun q3 => ⟨by omega, ⟨z, by omega⟩, ?_, fun _ _ => rfl⟩⟩, fun q2 => ⟨fun r => by omega, fun _ _ => rfl⟩⟩⟩⟩
      · unfold qPer
        rw [if_neg (by omega), if_neg (by omega), if_neg (by omega), show (325 + 2 * a + b - 3).toNat = 326 + 2 * a.toNat from by omega, ← k2.2]
      · unfold qPer
        rw [if_pos q3, show (25 + a).toNat = 25 + a.toNat from by omega, ← k]
      · unfold qPer
        rw [if_neg (by omega), if_pos q3]
      · unfold qPer
        rw [if_neg (by omega), if_neg (by omega), if_pos q3]
      · unfold qPer
        rw [if_neg (by omega), if_neg (by omega), if_neg (by omega), show (325 + 2 * a + b - 3).toNat = 325 + 2 * a.toNat from by omega, ← k2.1]
    · rw [in1_f z]
      exact ⟨fun _ => ⟨fun r => z r.1, fun _ _ => rfl⟩, fun q => absurd rfl q⟩
  · intro h1 ok1 e
    obtain ⟨c1, la, em⟩ := thrR dis c e
    have hb := b22 ok1 hM
    refine am_Met.of (by decide) rfl (Nat.le_of_ble_eq_true rfl) (ab_Md_person_0 hM (am_kV.of (ac_m_lay (d := 0) hM hb) (by omega) ?_))
    intro g _ l
    have l1 : g (m + 2) = lai h m := by rw [l.1, la]
    refine eK (ac_m_isPerson (d := 0) hM) (by omega) ?_
    rw [l1]
    by_cases z : 0 ≤ a ∧ a < lai h m 1
    · rw [if_pos z]
      refine ⟨fun q => absurd q (by decide), fun _ => eK (ac_m_isIn (d := 0)) (by omega) ?_⟩
      by_cases zb : 0 ≤ b ∧ b ≤ 4
      · rw [if_pos zb]
        refine ⟨fun _ h9 e9 => ?_, fun q => absurd q (by decide)⟩
        subst e9
        have l2 : am_u g m 0 0 (m + 2) = lai h m := by rw [am_u_n _ _ _ _ _ (by omega), l1]
        refine ⟨fun q => ⟨by unfold am_ri; omega, by unfold am_ri; omega, by unfold am_ri; omega, by unfold am_ri; omega, by omega, thr0 dis c1 l ⟨z, zb⟩ ?_⟩, fun q => ⟨by unfold am_ri; omega, by omega, thr0 dis c1 l ⟨z, zb⟩ ?_⟩, fun q => eK (ac_m_cans (d := 0) hM (by rw [l2]; exact c2) (by rw [l2]; exact z)) (by omega) (thr0 dis c1 l ⟨z, zb⟩ ?_), fun q => ⟨by unfold am_ri; omega, by omega, thr0 dis c1 l ⟨z, zb⟩ ?_⟩⟩
        · unfold qPer
          rw [l2, if_neg (by omega), if_neg (by omega), if_neg (by omega)]
        · unfold qPer
          rw [l2, if_pos q]
        · unfold qPer
          rw [l2, if_neg (by omega), if_pos q]
        · unfold qPer
          rw [l2, if_neg (by omega), if_neg (by omega), if_pos q]
      · rw [if_neg zb]
        exact ⟨fun q => absurd rfl q, fun _ => refK hM (by omega) fun r => thr1 dis c1 l fun q => zb q.2⟩
    · rw [if_neg z]
      exact ⟨fun _ => refK hM (by omega) fun r => thr1 dis c1 l fun q => z q.1, fun q => absurd rfl q⟩
theorem thr_came (hY : am_at Y x am_L11) (hM : am_at Y m am_L12) (dis : x + 148 ≤ m) (c : RL h x m) : am_thr am_Nh_came am_Md_came Y x m [.inl a, .inl b] h (fun w => .inl w) := by
  have cs := c.2.1
  obtain ⟨c1, c2, c3, -⟩ := c.2.1
  have c1' : vR h (x + 3) (lai h m 1) (lai h m) (h (m + 6)) := c1
  have hz := c2.1.z
  have hz2 := hz
  unfold rz at hz2
  refine ⟨(0 ≤ a ∧ a < lai h m 1) ∧ 0 ≤ b ∧ b ≤ 4, jFig (lai h m) (bkA (lai h m) (jOf h m)) a.toNat b, xb_Nh_came hY (by omega) (eK (ac_hasPerson (d := 0) (hY.sub 3 rfl)) (by omega) ?_), ?_⟩
  · rw [vin_2 c1']
    by_cases z : 0 ≤ a ∧ a < lai h m 1
    · rw [in1_t z]
      refine ⟨fun q => absurd q (by decide), fun _ => ⟨fun q => ⟨fun r => by omega, fun _ _ => rfl⟩, fun q => ⟨fun q2 => ?_, fun q2 => ⟨fun r => by omega, fun _ _ => rfl⟩⟩⟩⟩
      have e : a = ((a.toNat : Nat) : Int) := by omega
      have k := ac_Book_figure (d := 0) (w := b) (p := a.toNat) (hY.sub 14 rfl) (hY.sub 3 rfl) c1' c2 (cs.bk (jOf h m)) (by omega)
      rw [← e] at k
      exact eK k (by omega) ⟨⟨z, by omega⟩, rfl, fun _ _ => rfl⟩
    · rw [in1_f z]
      exact ⟨fun _ => ⟨fun r => z r.1, fun _ _ => rfl⟩, fun q => absurd rfl q⟩
  · intro h1 ok1 e
    obtain ⟨c1, la, em⟩ := thrR dis c e
    have hb := b22 ok1 hM
    refine am_Met.of (by decide) rfl (Nat.le_of_ble_eq_true rfl) (ab_Md_came_0 hM (am_kV.of (ac_m_lay (d := 0) hM hb) (by omega) ?_))
    intro g _ l
    have l1 : g (m + 2) = lai h m := by rw [l.1, la]
    refine eK (ac_m_isPerson (d := 0) hM) (by omega) ?_
    rw [l1]
    by_cases z : 0 ≤ a ∧ a < lai h m 1
    · rw [if_pos z]
      refine ⟨fun q => absurd q (by decide), fun _ => eK (ac_m_isIn (d := 0)) (by omega) ?_⟩
      by_cases zb : 0 ≤ b ∧ b ≤ 4
      · rw [if_pos zb]
        have lg : lai g m = lai h m := by rw [lai_1 l.2.1, l1]
        refine ⟨fun _ => mDs.bk hM (Or.inr l.2.1) (by rw [lg]; exact c2) (by rw [lg]; exact c3) (by omega) fun h2 ok2 ds r _ _ => ?_, fun q => absurd q (by decide)⟩
        have g2 : h2 (m + 2) = lai h m := by rw [ds.2.1, lg]
        rw [lg] at r
        have rowg : ∀ i, i < 9 → jOf g m i = jOf h m i := by
          intro i hi
          rw [← jOf_row em hi]
          unfold jOf
          split
          · funext j
            rw [l.2.2.2 (33 + j) (by omega)]
          · rw [l.2.2.1 (m + 9 + i) (by omega) (by omega)]
        have r2 : jr h2 m (bkA (lai h m) (jOf h m)) := by
          refine ⟨fun i hi => ?_, fun i hi1 hi2 => ?_⟩
          · rw [r.1 i hi, bk_row hz c3 (rowg 0 (by omega))]
          · rw [r.2 i hi1 hi2, bk_row hz c3 (rowg i (by omega))]
        have e : a = ((a.toNat : Nat) : Int) := by omega
        have k := ac_m_cameOf (d := 0) (w := b) (p := a.toNat) hM r2 (by rw [g2]; exact hz) (by omega)
        rw [← e, g2] at k
        refine eK k (by omega) ?_
        obtain ⟨d0, d2, d22, dq, dj⟩ := ds
        have y : yFr h1 h2 m := by
          refine ⟨by rw [lai_1 d22, g2, la], fun q hq => by rw [dq q (by omega) (by omega) (by omega), l.2.2.1 q (by omega) (by omega)], fun j hj => by rw [dj j (by omega) (by omega) (by omega), l.2.2.2 j (by omega)]⟩
        exact thrZ dis c1 (fun q hq => by rw [dq q (by omega) (by omega) (by omega), l.2.2.1 q (by omega) (by omega)]) y (fun q hq => by rw [dq q (by omega) (by omega) (by omega), l.2.2.1 q (by omega) (by omega)]) (Or.inl ⟨⟨z, zb⟩, rfl, d0⟩)
      · rw [if_neg zb]
        exact ⟨fun q => absurd rfl q, fun _ => refK hM (by omega) fun r => thr1 dis c1 l fun q => zb q.2⟩
    · rw [if_neg z]
      exact ⟨fun _ => refK hM (by omega) fun r => thr1 dis c1 l fun q => z q.1, fun q => absurd rfl q⟩
theorem thr_best (hY : am_at Y x am_L11) (hM : am_at Y m am_L12) (dis : x + 148 ≤ m) (c : RL h x m) : am_thr am_Nh_best am_Md_best Y x m [.inl a, .inl n, .inl t, .inl b, .inl law] h (fun w => .inr (.inl w)) := by
  obtain ⟨c1, c2, -⟩ := c.2.1
  have c1' : vR h (x + 3) (lai h m 1) (lai h m) (h (m + 6)) := c1
  have hz := c2.1.z
  unfold rz at hz
  have w2 := wr_2 c2.1
  have w3 := wr_3 c2.1
  refine ⟨isC (lai h m) a n t b law, bV (pmA (lai h m) a n law) t.toNat b.toNat, xb_Nh_best hY (by omega) (eK (ac_N_isCase (d := 0) hY c1' c2) (by omega) ?_), ?_⟩
  · by_cases z : isC (lai h m) a n t b law
    · rw [if_pos z]
      have zz := z
      obtain ⟨z1, ⟨z2, z3⟩, z4⟩ := zz
      refine ⟨fun _ => best_K hY c1' c2 z1 z2 (by omega) fun h1 _ f1 k1 => am_kJ.of (ac_valueAt (d := 0) (hY.sub 111 rfl)) (by omega) ?_, fun w => absurd w (by decide)⟩
      rintro r h2 - - ⟨rfl, rfl⟩
      rw [if_pos (by omega)]
      refine ⟨z, ?_, f1⟩
      have := (k1 t.toNat b.toNat (by omega) (by omega)).1
      rw [show t.toNat * 10 + b.toNat = (t * 10 + b).toNat from by omega] at this
      rw [← this]
    · rw [if_neg z]
      exact ⟨fun w => absurd rfl w, fun _ => ⟨z, fun _ _ => rfl⟩⟩
  · intro h1 ok1 e
    obtain ⟨c1, la, em⟩ := thrR dis c e
    have hb := b22 ok1 hM
    refine am_Met.of (by decide) rfl (Nat.le_of_ble_eq_true rfl) (ab_Md_best_0 hM (am_kV.of (ac_m_lay (d := 0) hM hb) (by omega) ?_))
    intro g _ l
    have l1 : g (m + 2) = lai h m := by rw [l.1, la]
    refine eK (ac_m_isAsked (d := 0) hM (by rw [l1]; exact c2)) (by omega) ?_
    rw [l1]
    by_cases z : asked (lai h m) a n ∧ (0 ≤ t ∧ t ≤ 20) ∧ 0 ≤ law ∧ law ≤ 2
    · rw [if_pos z]
      refine ⟨fun w => absurd w (by decide), fun _ => eK (ac_m_isIn (d := 0)) (by omega) ?_⟩
      by_cases zb : 0 ≤ b ∧ b ≤ lai h m 3
      · rw [if_pos zb]
        have gg := needRg c2 z.1.2.1
        refine ⟨fun _ h7 e7 => ?_, fun w => absurd w (by decide)⟩
        subst e7
        have l2 : am_u g m 0 0 (m + 2) = lai h m := by rw [am_u_n _ _ _ _ _ (by omega), l1]
        refine am_kV.of (ac_m_layValues (d := 0) hM (by omega) (by omega) (by rw [l2]; omega) (by rw [l2]; omega) (by rw [l2]; omega) z.2.1 z.2.2) (by omega) ?_
        rintro h8 - ⟨f8, k8⟩
        refine ⟨by unfold am_ri; omega, by unfold am_ri; omega, by omega, ?_⟩
        obtain ⟨a1, a2, a3, -, a5⟩ := laT l 0
        have em8 : h8 m = am_u g m 0 0 m := f8 m (by omega) (by omega)
        have y : yFr h1 h8 m := by
          obtain ⟨y1, y2, y3⟩ := a2
          refine ⟨?_, fun q hq => by rw [f8 q (by omega) (by omega), y2 q hq], fun j hj => by rw [em8, y3 j hj]⟩
          rw [lai_u (f8 _ (by omega) (by omega)) (by rw [em8]), y1]
        refine thrZ (V := fun w => .inr (.inl w)) (B := isC (lai h m) a n t b law) (F := bV (pmA (lai h m) a n law) t.toNat b.toNat) dis c1 (fun q hq => by rw [f8 q (by omega) (by omega), a1 q hq]) y (fun q hq => by rw [f8 q (by omega) (by omega), a3 q hq]) (Or.inl ⟨⟨z.1, z.2, zb⟩, ?_, by rw [em8, a5]⟩)
        have e : mP (am_u g m 0 0) m a n law = pmA (am_u g m 0 0 (m + 2)) a n law := rfl
        rw [e, l2] at k8
        have := (k8 t.toNat b.toNat (by omega) (by show (b.toNat : Int) ≤ lai h m 3; omega)).1
        rw [show t.toNat * 10 + b.toNat = (10 * t + b).toNat from by omega] at this
        exact this
      · rw [if_neg zb]
        refine ⟨fun w => absurd rfl w, fun _ h4 e4 => ?_⟩
        subst e4
        exact thr1 (w := 0) (V := fun w => .inr (.inl w)) (B := isC (lai h m) a n t b law) (F := bV (pmA (lai h m) a n law) t.toNat b.toNat) dis c1 l fun q => zb q.2.2
    · rw [if_neg z]
      refine ⟨fun _ h4 e4 => ?_, fun w => absurd rfl w⟩
      subst e4
      exact thr1 (w := 0) (V := fun w => .inr (.inl w)) (B := isC (lai h m) a n t b law) (F := bV (pmA (lai h m) a n law) t.toNat b.toNat) dis c1 l fun q => z ⟨q.1, q.2.1⟩
end
