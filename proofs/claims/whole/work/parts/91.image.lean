/-! images -/
section
variable {Y : am_Y} {h h1 : am_H} {x m d : Nat} {a : Int}
/-- a row of one image -/
theorem img_22 {g : am_H} {Q : Option am_V → am_H → Prop} (hM : am_at Y m am_L12) (ha : a = 0 ∨ a = 1) (k : ∀ g1, (∀ q, q ≠ m + 5 → g1 q = g q) → (∀ i, i < 840 → g1 (m + 5) (840 * a.toNat + i) = g (m + 2) i) → (∀ j, (j < 840 * a.toNat ∨ 840 * a.toNat + 840 ≤ j) → g1 (m + 5) j = g (m + 5) j) → am_wp am_Md_image d Y 55 [some (.inr (.inr m)), some (.inl a), some (.inl 0)] [] g1 Q) : am_wp am_Md_image d Y 22 [some (.inr (.inr m)), some (.inl a), some (.inl 0)] [] g Q := by
  have lp : ∀ i : Int, ∀ g1 : am_H, 0 ≤ i → i ≤ 840 → (∀ q, q ≠ m + 5 → g1 q = g q) → (∀ j : Nat, (j : Int) < i → g1 (m + 5) (840 * a.toNat + j) = g (m + 2) j) → (∀ j, (j < 840 * a.toNat ∨ 840 * a.toNat + 840 ≤ j) → g1 (m + 5) j = g (m + 5) j) → aw_Md_image_22 d Y m a i g1 Q := by
    refine am_up (fun i => ∀ g1 : am_H, 0 ≤ i → i ≤ 840 → (∀ q, q ≠ m + 5 → g1 q = g q) → (∀ j : Nat, (j : Int) < i → g1 (m + 5) (840 * a.toNat + j) = g (m + 2) j) → (∀ j, (j < 840 * a.toNat ∨ 840 * a.toNat + 840 ≤ j) → g1 (m + 5) j = g (m + 5) j) → aw_Md_image_22 d Y m a i g1 Q) 840 ?_ ?_
    · intro i hi g1 h0 h8 e1 e2 e3
      exact ab_Md_image_22 hM ⟨fun _ => k g1 e1 (fun j hj => e2 j (by omega)) e3, fun w => by omega⟩
    · intro i hi ih g1 h0 h8 e1 e2 e3
      refine ab_Md_image_22 hM ⟨fun w => by omega, fun _ => ⟨by unfold am_ri; omega, by unfold am_ri; omega, by omega, by omega, fun g2 eg => ⟨by unfold am_ri; omega, ?_⟩⟩⟩
      rw [show (840 * a + i).toNat = 840 * a.toNat + i.toNat from by omega] at eg
      refine ih g2 (by omega) (by omega) (fun q hq => by rw [eg, am_u_n _ _ _ _ _ hq, e1 q hq]) (fun j hj => ?_) (fun j hj => by rw [eg, am_u_j (by omega), e3 j hj])
      by_cases ji : j = i.toNat
      · rw [ji, eg, am_u_s, e1 (m + 2) (by omega)]
      · rw [eg, am_u_j (by omega), e2 j (by omega)]
  exact lp 0 g (by omega) (by omega) (fun _ _ => rfl) (fun j hj => by omega) (fun _ _ => rfl)
theorem img_55 {g : am_H} {Q : Option am_V → am_H → Prop} (hM : am_at Y m am_L12) (ha : a = 0 ∨ a = 1) (k : ∀ g1, (∀ q, q ≠ m + 8 → q ≠ m + 9 → g1 q = g q) → (∀ i, i < 14 → g1 (m + 8) (14 * a.toNat + i) = g (m + 6) i) → (∀ j, (j < 14 * a.toNat ∨ 14 * a.toNat + 14 ≤ j) → g1 (m + 8) j = g (m + 8) j) → g1 (m + 9) a.toNat = 1 → (∀ j, j ≠ a.toNat → g1 (m + 9) j = g (m + 9) j) → Q (some (.inl 1)) g1) : am_wp am_Md_image d Y 55 [some (.inr (.inr m)), some (.inl a), some (.inl 0)] [] g Q := by
  have lp : ∀ i : Int, ∀ g1 : am_H, 0 ≤ i → i ≤ 14 → (∀ q, q ≠ m + 8 → g1 q = g q) → (∀ j : Nat, (j : Int) < i → g1 (m + 8) (14 * a.toNat + j) = g (m + 6) j) → (∀ j, (j < 14 * a.toNat ∨ 14 * a.toNat + 14 ≤ j) → g1 (m + 8) j = g (m + 8) j) → aw_Md_image_55 d Y m a i g1 Q := by
    refine am_up (fun i => ∀ g1 : am_H, 0 ≤ i → i ≤ 14 → (∀ q, q ≠ m + 8 → g1 q = g q) → (∀ j : Nat, (j : Int) < i → g1 (m + 8) (14 * a.toNat + j) = g (m + 6) j) → (∀ j, (j < 14 * a.toNat ∨ 14 * a.toNat + 14 ≤ j) → g1 (m + 8) j = g (m + 8) j) → aw_Md_image_55 d Y m a i g1 Q) 14 ?_ ?_
    · intro i hi g1 h0 h8 e1 e2 e3
      refine ab_Md_image_55 hM ⟨fun _ => ⟨by omega, fun g2 eg => ?_⟩, fun w => by omega⟩
      have n8 : g2 (m + 8) = g1 (m + 8) := by rw [eg, am_u_n _ _ _ _ _ (by omega)]
      refine k g2 (fun q p r => by rw [eg, am_u_n _ _ _ _ _ r, e1 q p]) (fun j hj => by rw [n8]; exact e2 j (by omega)) (fun j hj => by rw [n8]; exact e3 j hj) (by rw [eg, am_u_s]) (fun j hj => by rw [eg, am_u_j hj, e1 (m + 9) (by omega)])
    · intro i hi ih g1 h0 h8 e1 e2 e3
      refine ab_Md_image_55 hM ⟨fun w => by omega, fun _ => ⟨by unfold am_ri; omega, by unfold am_ri; omega, by omega, by omega, fun g2 eg => ⟨by unfold am_ri; omega, ?_⟩⟩⟩
      rw [show (14 * a + i).toNat = 14 * a.toNat + i.toNat from by omega] at eg
      refine ih g2 (by omega) (by omega) (fun q hq => by rw [eg, am_u_n _ _ _ _ _ hq, e1 q hq]) (fun j hj => ?_) (fun j hj => by rw [eg, am_u_j (by omega), e3 j hj])
      by_cases ji : j = i.toNat
      · rw [ji, eg, am_u_s, e1 (m + 6) (by omega)]
      · rw [eg, am_u_j (by omega), e2 j (by omega)]
  exact lp 0 g (by omega) (by omega) (fun _ _ => rfl) (fun j hj => by omega) (fun _ _ => rfl)
theorem rst_31 {g : am_H} {Q : Option am_V → am_H → Prop} (hM : am_at Y m am_L12) (ha : a = 0 ∨ a = 1) (k : ∀ g1, (∀ q, q ≠ m + 2 → g1 q = g q) → (∀ i, i < 840 → g1 (m + 2) i = g (m + 5) (840 * a.toNat + i)) → am_wp am_Md_restore d Y 64 [some (.inr (.inr m)), some (.inl a), some (.inl 0)] [] g1 Q) : am_wp am_Md_restore d Y 31 [some (.inr (.inr m)), some (.inl a), some (.inl 0)] [] g Q := by
  have lp : ∀ i : Int, ∀ g1 : am_H, 0 ≤ i → i ≤ 840 → (∀ q, q ≠ m + 2 → g1 q = g q) → (∀ j : Nat, (j : Int) < i → g1 (m + 2) j = g (m + 5) (840 * a.toNat + j)) → aw_Md_restore_31 d Y m a i g1 Q := by
    refine am_up (fun i => ∀ g1 : am_H, 0 ≤ i → i ≤ 840 → (∀ q, q ≠ m + 2 → g1 q = g q) → (∀ j : Nat, (j : Int) < i → g1 (m + 2) j = g (m + 5) (840 * a.toNat + j)) → aw_Md_restore_31 d Y m a i g1 Q) 840 ?_ ?_
    · intro i hi g1 h0 h8 e1 e2
      exact ab_Md_restore_31 hM ⟨fun _ => k g1 e1 (fun j hj => e2 j (by omega)), fun w => by omega⟩
    · intro i hi ih g1 h0 h8 e1 e2
      refine ab_Md_restore_31 hM ⟨fun w => by omega, fun _ => ⟨by unfold am_ri; omega, by unfold am_ri; omega, by omega, by omega, fun g2 eg => ⟨by unfold am_ri; omega, ?_⟩⟩⟩
      rw [show (840 * a + i).toNat = 840 * a.toNat + i.toNat from by omega] at eg
      refine ih g2 (by omega) (by omega) (fun q hq => by rw [eg, am_u_n _ _ _ _ _ hq, e1 q hq]) (fun j hj => ?_)
      by_cases ji : j = i.toNat
      · rw [ji, eg, am_u_s, e1 (m + 5) (by omega)]
      · rw [eg, am_u_j ji, e2 j (by omega)]
  exact lp 0 g (by omega) (by omega) (fun _ _ => rfl) (fun j hj => by omega)
theorem rst_64 {g : am_H} {Q : Option am_V → am_H → Prop} (hM : am_at Y m am_L12) (ha : a = 0 ∨ a = 1) (k : ∀ g1, (∀ q, q ≠ m + 6 → g1 q = g q) → (∀ i, i < 14 → g1 (m + 6) i = g (m + 8) (14 * a.toNat + i)) → Q (some (.inl 1)) g1) : am_wp am_Md_restore d Y 64 [some (.inr (.inr m)), some (.inl a), some (.inl 0)] [] g Q := by
  have lp : ∀ i : Int, ∀ g1 : am_H, 0 ≤ i → i ≤ 14 → (∀ q, q ≠ m + 6 → g1 q = g q) → (∀ j : Nat, (j : Int) < i → g1 (m + 6) j = g (m + 8) (14 * a.toNat + j)) → aw_Md_restore_64 d Y m a i g1 Q := by
    refine am_up (fun i => ∀ g1 : am_H, 0 ≤ i → i ≤ 14 → (∀ q, q ≠ m + 6 → g1 q = g q) → (∀ j : Nat, (j : Int) < i → g1 (m + 6) j = g (m + 8) (14 * a.toNat + j)) → aw_Md_restore_64 d Y m a i g1 Q) 14 ?_ ?_
    · intro i hi g1 h0 h8 e1 e2
      exact ab_Md_restore_64 hM ⟨fun _ => k g1 e1 (fun j hj => e2 j (by omega)), fun w => by omega⟩
    · intro i hi ih g1 h0 h8 e1 e2
      refine ab_Md_restore_64 hM ⟨fun w => by omega, fun _ => ⟨by unfold am_ri; omega, by unfold am_ri; omega, by omega, by omega, fun g2 eg => ⟨by unfold am_ri; omega, ?_⟩⟩⟩
      rw [show (14 * a + i).toNat = 14 * a.toNat + i.toNat from by omega] at eg
      refine ih g2 (by omega) (by omega) (fun q hq => by rw [eg, am_u_n _ _ _ _ _ hq, e1 q hq]) (fun j hj => ?_)
      by_cases ji : j = i.toNat
      · rw [ji, eg, am_u_s, e1 (m + 8) (by omega)]
      · rw [eg, am_u_j ji, e2 j (by omega)]
  exact lp 0 g (by omega) (by omega) (fun _ _ => rfl) (fun j hj => by omega)
theorem two_image (hY : am_at Y x am_L11) (hM : am_at Y m am_L12) (dis : x + 148 ≤ m) (c : RL h x m) : am_two am_Nh_image am_Md_image Y x m [.inl a] h := by
  have cs := c.2.1
  have ck := c.2.2.1
  refine am_Met.rg fun ok _ => ?_
  have hb := b22 ok hM
  by_cases z : a = 0 ∨ a = 1
  · have hK : am_at Y (x + 27 + 24 * a.toNat) am_L7 := by
      rcases z with rfl | rfl
      · exact hY.sub 27 rfl
      · exact hY.sub 51 rfl
    refine am_cI.mono (K := fun v h1 => v = 1 ∧ stR h1 (x + 27 + 24 * a.toNat) (lai h m) (h (m + 6)) ∧ (∀ r, (r < x + 27 + 24 * a.toNat ∨ x + 51 + 24 * a.toNat ≤ r) → h1 r = h r) ∧ h1 (x + 27 + 24 * a.toNat) 6 = 1) ?_ ?_
    · refine am_Met.of (by decide) rfl (Nat.le_of_ble_eq_true rfl) (ab_Nh_image_0 hY ⟨fun w => by omega, fun _ => ⟨fun _ => ⟨by omega, hK, ?_⟩, fun w => by omega⟩⟩)
      refine am_kV.of (ac_St_copy (d := 0) (o := x + 27 + 24 * a.toNat) (q := x + 2) hK (hY.sub 2 rfl) (by omega) cs) (by omega) ?_
      rintro h2 - ⟨s1, s2, -⟩
      refine ⟨by omega, hK, fun h4 e4 => ?_⟩
      have e4' : h4 = am_u h2 (x + 27 + 24 * a.toNat) 6 1 := e4
      rw [am_qI_s]
      refine ⟨rfl, s1.but5 (fun q p r => by rw [e4', am_u_n _ _ _ _ _ (by omega)]) (by rw [e4', am_u_j (by omega)]), fun r hr => by rw [e4', am_u_n _ _ _ _ _ (by omega), s2 r (by omega)], by rw [e4', am_u_s]⟩
    · rintro v h1 - - ⟨rfl, s1, f1, s6⟩
      have e1 : ∀ q, m ≤ q → h1 q = h q := fun q hq => f1 q (by omega)
      have la : lai h1 m = lai h m := lai_u (e1 _ (by omega)) (by rw [e1 m (by omega)])
      refine am_Met.of (by decide) rfl (Nat.le_of_ble_eq_true rfl) (ab_Md_image_0 hM (mL.lay hM (by rw [e1 m (by omega)]; exact hb) (by omega) fun h2 _ l => ?_))
      obtain ⟨l0, l2, l22, lq, lj⟩ := l
      rw [la] at l2
      refine eK (ac_m_isIn (d := 0)) (by omega) ?_
      rw [if_pos (by omega)]
      refine ⟨fun _ => img_22 hM z fun h3 a1 a2 a3 => img_55 hM z fun h4 b1 b2 b3 b4 b5 => ?_, fun w => absurd w (by decide)⟩
      rw [am_qI_s]
      have n4 : ∀ q, q ≠ m → q ≠ m + 2 → q ≠ m + 5 → q ≠ m + 8 → q ≠ m + 9 → h4 q = h1 q := fun q p1 p2 p3 p4 p5 => by rw [b1 q p4 p5, a1 q p3, lq q p1 p2]
      have n4m : h4 m = h2 m := by rw [b1 m (by omega) (by omega), a1 m (by omega)]
      have q2 : h4 (m + 2) = lai h m := by rw [b1 _ (by omega) (by omega), a1 _ (by omega), l2]
      have la4 : lai h4 m = lai h m := by rw [lai_1 (by rw [n4m]; exact l22), q2]
      have lo : ∀ q, q < m → h4 q = h1 q := fun q hq => n4 q (by omega) (by omega) (by omega) (by omega) (by omega)
      have q6 : h4 (m + 6) = h (m + 6) := by rw [n4 _ (by omega) (by omega) (by omega) (by omega) (by omega), e1 _ (by omega)]
      have r5 : ∀ i, i < 840 → h4 (m + 5) (840 * a.toNat + i) = lai h m i := fun i hi => by rw [b1 _ (by omega) (by omega), a2 i hi, l2]
      have r8 : ∀ i, i < 14 → h4 (m + 8) (14 * a.toNat + i) = h (m + 6) i := fun i hi => by rw [b2 i hi, a1 _ (by omega), lq _ (by omega) (by omega), e1 _ (by omega)]
      have o5 : ∀ j, (j < 840 * a.toNat ∨ 840 * a.toNat + 840 ≤ j) → h4 (m + 5) j = h (m + 5) j := fun j hj => by rw [b1 _ (by omega) (by omega), a3 j hj, lq _ (by omega) (by omega), e1 _ (by omega)]
      have o8 : ∀ j, (j < 14 * a.toNat ∨ 14 * a.toNat + 14 ≤ j) → h4 (m + 8) j = h (m + 8) j := fun j hj => by rw [b3 j hj, a1 _ (by omega), lq _ (by omega) (by omega), e1 _ (by omega)]
      have o9 : ∀ j, j ≠ a.toNat → h4 (m + 9) j = h (m + 9) j := fun j hj => by rw [b5 j hj, a1 _ (by omega), lq _ (by omega) (by omega), e1 _ (by omega)]
      refine ⟨rfl, c.stt (fun j _ => by rw [lo x (by omega), f1 x (by omega)]) (by rw [lo _ (by omega), f1 _ (by omega)]) (fun q p1 p2 => by rw [lo q (by omega), f1 q (by omega)]) (fun q p => by rw [n4 q (by omega) (by omega) (by omega) (by omega) (by omega), e1 q (by omega)]) (fun j p => by rw [n4m, lj j (by omega) (by omega), e1 m (by omega)]) ?_ ?_⟩
      · rw [la4, q6]
        exact cs.but fun q p1 p2 => by rw [lo q (by omega), f1 q (by omega)]
      · intro k hk
        by_cases ka : k = a.toNat
        · subst ka
          rw [b4, lo _ (by omega), s6]
          refine ⟨rfl, fun _ => ?_⟩
          have s4 : stR h4 (x + 27 + 24 * a.toNat) (lai h m) (h (m + 6)) := s1.but fun q p1 p2 => lo q (by omega)
          exact s4.row (fun i hi => r5 i (by omega)) (fun i p1 p2 => r5 i (by omega)) (fun i hi => r8 i hi) (fun _ _ _ _ _ => rfl) rfl fun p hp => by
            have w5 := s4.2.2.2.2.1 p hp
            rw [r5 _ (by omega), r5 _ (by omega)]
            exact w5
        · obtain ⟨k1, k2⟩ := ck k hk
          have fk : ∀ q, x + 27 + 24 * k ≤ q → q < x + 27 + 24 * k + 24 → h4 q = h q := fun q p1 p2 => by rw [lo q (by omega), f1 q (by omega)]
          rw [o9 k ka, fk _ (by omega) (by omega)]
          refine ⟨k1, fun zz => ?_⟩
          have s0 := k2 zz
          have s4 := s0.but fk
          have r5' : ∀ i, i < 840 → h4 (m + 5) (840 * k + i) = h (m + 5) (840 * k + i) := fun i hi => o5 _ (by omega)
          exact s4.row (fun i hi => r5' i (by omega)) (fun i p1 p2 => r5' i (by omega)) (fun i hi => o8 _ (by omega)) (fun _ _ _ _ _ => rfl) rfl fun p hp => by
            have w5 := s4.2.2.2.2.1 p hp
            dsimp only at w5 ⊢
            rw [r5' _ (by omega), r5' _ (by omega)]
            exact w5
  · refine two_e (F := 0) dis c ?_ ?_
    · refine am_Met.of (by decide) rfl (Nat.le_of_ble_eq_true rfl) (ab_Nh_image_0 hY ⟨fun w => ?_, fun w => ⟨fun w2 => by omega, fun w2 => ?_⟩⟩)
      · rw [am_qI_s]
        exact ⟨rfl, rfl⟩
      · rw [am_qI_s]
        exact ⟨rfl, rfl⟩
    · refine am_Met.of (by decide) rfl (Nat.le_of_ble_eq_true rfl) (ab_Md_image_0 hM (mL.lay hM hb (by omega) fun h2 _ l => ?_))
      refine eK (ac_m_isIn (d := 0)) (by omega) ?_
      rw [if_neg (by omega)]
      refine ⟨fun w => absurd rfl w, fun _ => ?_⟩
      rw [am_qI_s]
      exact ⟨rfl, l.y⟩
theorem two_restore (hY : am_at Y x am_L11) (hM : am_at Y m am_L12) (dis : x + 148 ≤ m) (c : RL h x m) : am_two am_Nh_restore am_Md_restore Y x m [.inl a] h := by
  have cs := c.2.1
  have ck := c.2.2.1
  refine am_Met.rg fun ok _ => ?_
  have hb := b22 ok hM
  have hK : (a = 0 ∨ a = 1) → am_at Y (x + 27 + 24 * a.toNat) am_L7 := by
    intro z
    rcases z with rfl | rfl
    · exact hY.sub 27 rfl
    · exact hY.sub 51 rfl
  by_cases z : (a = 0 ∨ a = 1) ∧ ¬ h (m + 9) a.toNat = 0
  · obtain ⟨za, zk⟩ := z
    obtain ⟨k1, k2⟩ := ck a.toNat (by omega)
    have s0 := k2 zk
    refine am_cI.mono (K := fun v h1 => v = 1 ∧ stR h1 (x + 2) (fun i => h (m + 5) (840 * a.toNat + i)) (fun i => h (m + 8) (14 * a.toNat + i)) ∧ (∀ r, (r < x + 2 ∨ x + 26 ≤ r) → h1 r = h r)) ?_ ?_
    · refine am_Met.of (by decide) rfl (Nat.le_of_ble_eq_true rfl) (ab_Nh_restore_0 hY ⟨fun w => by omega, fun _ => ⟨fun w => by omega, fun _ => ⟨by omega, hK za, ⟨fun _ => ⟨by omega, hK za, ?_⟩, fun w => ?_⟩⟩⟩⟩)
      · refine am_kV.of (ac_St_copy (d := 0) (o := x + 2) (q := x + 27 + 24 * a.toNat) (hY.sub 2 rfl) (hK za) (by omega) s0) (by omega) ?_
        rintro h3 - ⟨s1, s2, -⟩
        rw [am_qI_s]
        exact ⟨rfl, s1, fun r hr => s2 r (by omega)⟩
      · have w' : h (x + 27 + 24 * a.toNat) 6 = 0 := w
        exact absurd (k1.symm.trans w') zk
    · rintro v h1 - - ⟨rfl, s1, f1⟩
      have e1 : ∀ q, m ≤ q → h1 q = h q := fun q hq => f1 q (by omega)
      have la : lai h1 m = lai h m := lai_u (e1 _ (by omega)) (by rw [e1 m (by omega)])
      refine am_Met.of (by decide) rfl (Nat.le_of_ble_eq_true rfl) (ab_Md_restore_0 hM (mL.lay hM (by rw [e1 m (by omega)]; exact hb) (by omega) fun h2 _ l => ?_))
      obtain ⟨l0, l2, l22, lq, lj⟩ := l
      refine eK (ac_m_isIn (d := 0)) (by omega) ?_
      rw [if_pos (by omega)]
      have h29 : h2 (m + 9) = h (m + 9) := by rw [lq _ (by omega) (by omega), e1 _ (by omega)]
      refine ⟨fun w => absurd w (by decide), fun _ => ⟨by omega, ⟨fun _ => rst_31 hM za fun h3 a1 a2 => rst_64 hM za fun h4 b1 b2 => ?_, fun w => absurd (by rw [← h29]; exact w) zk⟩⟩⟩
      rw [am_qI_s]
      have n4 : ∀ q, q ≠ m → q ≠ m + 2 → q ≠ m + 6 → h4 q = h1 q := fun q p1 p2 p3 => by rw [b1 q p3, a1 q p2, lq q p1 p2]
      have n4m : h4 m = h2 m := by rw [b1 m (by omega), a1 m (by omega)]
      have q2 : ∀ i, i < 840 → h4 (m + 2) i = h (m + 5) (840 * a.toNat + i) := fun i hi => by rw [b1 _ (by omega), a2 i hi, lq _ (by omega) (by omega), e1 _ (by omega)]
      have q6 : ∀ i, i < 14 → h4 (m + 6) i = h (m + 8) (14 * a.toNat + i) := fun i hi => by rw [b2 i hi, a1 _ (by omega), lq _ (by omega) (by omega), e1 _ (by omega)]
      have la4 : lai h4 m = h4 (m + 2) := lai_1 (by rw [n4m]; exact l22)
      have lo : ∀ q, q < m → h4 q = h1 q := fun q hq => n4 q (by omega) (by omega) (by omega)
      refine ⟨rfl, c.stt (fun j _ => by rw [lo x (by omega), f1 x (by omega)]) (by rw [lo _ (by omega), f1 _ (by omega)]) (fun q p1 p2 => by rw [lo q (by omega), f1 q (by omega)]) (fun q p => by rw [n4 q (by omega) (by omega) (by omega), e1 q (by omega)]) (fun j p => by rw [n4m, lj j (by omega) (by omega), e1 m (by omega)]) ?_ ?_⟩
      · rw [la4]
        have s4 := s1.but (h1 := h4) fun q p1 p2 => lo q (by omega)
        exact s4.row (fun i hi => q2 i (by omega)) (fun i p1 p2 => q2 i (by omega)) (fun i hi => q6 i hi) (fun _ _ _ _ _ => rfl) rfl fun p hp => by
          have w5 := s4.2.2.2.2.1 p hp
          dsimp only at w5 ⊢
          rw [q2 _ (by omega), q2 _ (by omega)]
          exact w5
      · exact ck.but (fun q p1 p2 => by rw [lo q (by omega), f1 q (by omega)]) (by rw [n4 _ (by omega) (by omega) (by omega), e1 _ (by omega)]) (by rw [n4 _ (by omega) (by omega) (by omega), e1 _ (by omega)]) (by rw [n4 _ (by omega) (by omega) (by omega), e1 _ (by omega)])
  · refine two_e (F := 0) dis c ?_ ?_
    · refine am_Met.of (by decide) rfl (Nat.le_of_ble_eq_true rfl) (ab_Nh_restore_0 hY ⟨fun w => ?_, fun w => ⟨fun w2 => ?_, fun w2 => ⟨by omega, hK (by omega), ⟨fun w3 => ?_, fun w3 => ?_⟩⟩⟩⟩)
      · rw [am_qI_s]
        exact ⟨rfl, rfl⟩
      · rw [am_qI_s]
        exact ⟨rfl, rfl⟩
      · have w' : ¬ h (x + 27 + 24 * a.toNat) 6 = 0 := w3
        rw [(ck a.toNat (by omega)).1] at w'
        exact absurd ⟨by omega, w'⟩ z
      · rw [am_qI_s]
        exact ⟨rfl, rfl⟩
    · refine am_Met.of (by decide) rfl (Nat.le_of_ble_eq_true rfl) (ab_Md_restore_0 hM (mL.lay hM hb (by omega) fun h2 _ l => ?_))
      refine eK (ac_m_isIn (d := 0)) (by omega) ?_
      by_cases za : 0 ≤ a ∧ a ≤ 1
      · rw [if_pos za]
        have h29 : h2 (m + 9) = h (m + 9) := l.2.2.2.1 _ (by omega) (by omega)
        refine ⟨fun w => absurd w (by decide), fun _ => ⟨by omega, ⟨fun w => ?_, fun w => ?_⟩⟩⟩
        · rw [h29] at w
          exact absurd ⟨by omega, w⟩ z
        · rw [am_qI_s]
          exact ⟨rfl, l.y⟩
      · rw [if_neg za]
        refine ⟨fun _ => ?_, fun w => absurd rfl w⟩
        rw [am_qI_s]
        exact ⟨rfl, l.y⟩
end
