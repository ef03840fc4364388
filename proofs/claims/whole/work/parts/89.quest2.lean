/-! questions of the book: wrong, judge, bound -/
section
variable {Y : am_Y} {h : am_H} {x m q0 n d : Nat} {a b e : Int} {A N : Nat → Int}
/-- a question that judges the book -/
theorem two_b {Mc Mm : am_M} {av : List am_V} {F : Int} (dis : x + 148 ≤ m) (c : RL h x m) (kc : am_cI Mc 60 Y (.inr (.inr x) :: av) h fun v h1 => h1 = h ∧ v = F) (km : am_cI Mm 60 Y (.inr (.inr m) :: av) h fun w h2 => w = F ∧ mDs h h2 m) : am_two Mc Mm Y x m av h := by
  refine two_e dis c kc (am_cI.mono km ?_)
  rintro w h2 - - ⟨rfl, a⟩
  exact ⟨rfl, a.yy⟩
theorem two_wrong (hY : am_at Y x am_L11) (hM : am_at Y m am_L12) (dis : x + 148 ≤ m) (c : RL h x m) : am_two am_Nh_wrong am_Md_wrong Y x m [.inl a] h := by
  have cs := c.2.1
  obtain ⟨c1, c2, c3, c4, -⟩ := c.2.1
  have kb : fkR h (x + 14) (lai h m) (bkA (lai h m) (jOf h m)) (lai h m 341).toNat := cs.bk (jOf h m)
  have k1 := kb.1.1
  have k2 := c3.1
  have k3 := c3.2.1
  refine am_Met.rg fun ok _ => ?_
  have hb := b22 ok hM
  refine two_b (F := if 0 ≤ a ∧ a < lai h m 341 then bkA (lai h m) (jOf h m) 7 a.toNat else -1) dis c ?_ ?_
  · refine am_Met.of (by decide) rfl (Nat.le_of_ble_eq_true rfl) (ab_Nh_wrong_0 hY ⟨fun w => ?_, fun w => ⟨fun w2 => ?_, fun w2 => ⟨fun w3 => ⟨by omega, ?_⟩, fun w3 => by omega⟩⟩⟩)
    · rw [am_qI_s]
      exact ⟨rfl, (if_neg (by omega)).symm⟩
    · rw [am_qI_s]
      exact ⟨rfl, (if_neg (by omega)).symm⟩
    · rw [am_qI_s, if_pos (by omega)]
      exact ⟨rfl, kb.2.1 a.toNat (by omega)⟩
  · refine am_Met.of (by decide) rfl (Nat.le_of_ble_eq_true rfl) (ab_Md_wrong_0 hM (mDs.bk hM hb c2 c3 (by omega) fun h2 _ l r _ _ => ⟨fun w => ?_, fun w => ⟨fun w2 => ?_, fun w2 => ⟨?_, ?_⟩⟩⟩))
    · rw [am_qI_s]
      exact ⟨(if_neg (by omega)).symm, l⟩
    · rw [l.2.1] at w2
      rw [am_qI_s]
      exact ⟨(if_neg (by omega)).symm, l⟩
    · rw [l.2.1] at w2
      omega
    · rw [l.2.1] at w2
      rw [am_qI_s, if_pos (by omega)]
      have r7 := r.2 7 (by omega) (by omega)
      exact ⟨congrFun r7 a.toNat, l⟩
theorem ac_N_sumOf (hq : Y[q0]? = some (14, n)) (hn : n ≤ 8) : am_cI am_Nh_sumOf d Y [.inr (.inr q0)] h (fun v h1 => h1 = h ∧ v = wsm (h q0) n) := by
  refine am_Met.of (by decide) rfl (Nat.le_of_ble_eq_true rfl) (ab_Nh_sumOf_0 hq ⟨by omega, ?_⟩)
  have lp : ∀ k : Int, 0 ≤ k → k ≤ n → aw_Nh_sumOf_10 d Y q0 n (wsm (h q0) k.toNat) n k h (am_qI fun v h1 => h1 = h ∧ v = wsm (h q0) n) := by
    refine am_up (fun k => 0 ≤ k → k ≤ n → aw_Nh_sumOf_10 d Y q0 n (wsm (h q0) k.toNat) n k h (am_qI fun v h1 => h1 = h ∧ v = wsm (h q0) n)) n ?_ ?_
    · intro k hk _ hk2
      refine ab_Nh_sumOf_10 hq ⟨fun _ => ?_, fun w => by omega⟩
      rw [am_qI_s]
      refine ⟨rfl, ?_⟩
      congr 1
      omega
    · intro k hk ih h0 _
      refine ab_Nh_sumOf_10 hq ⟨fun w => by omega, fun _ => ⟨by omega, by unfold am_ri; omega, ?_⟩⟩
      have := ih (by omega) (by omega)
      rw [show (k + 1).toNat = k.toNat + 1 from by omega] at this
      exact this
  exact lp 0 (by omega) (by omega)
def qJdg (A : Nat → Int) (J : am_H) (a : Int) : Int := if a = 0 then J 0 0 else if a = 1 then J 0 1 else if a = 2 then J 0 2 else if a = 3 then wsm (J 4) (A 1).toNat else if a = 4 then wsm (J 5) (A 1).toNat else -1
theorem qJdg_s (A : Nat → Int) (J : am_H) : qJdg A J 0 = J 0 0 ∧ qJdg A J 1 = J 0 1 ∧ qJdg A J 2 = J 0 2 ∧ qJdg A J 3 = wsm (J 4) (A 1).toNat ∧ qJdg A J 4 = wsm (J 5) (A 1).toNat ∧ ∀ a, (a < 0 ∨ 4 < a) → qJdg A J a = -1 := by
  refine ⟨by simp [qJdg], by simp [qJdg], by simp [qJdg], by simp [qJdg], by simp [qJdg], fun a ha => ?_⟩
  unfold qJdg
  rw [if_neg (by omega), if_neg (by omega), if_neg (by omega), if_neg (by omega), if_neg (by omega)]
theorem ac_m_judge63 {g : am_H} {Q : Option am_V → am_H → Prop} (hM : am_at Y m am_L12) (h8 : 0 ≤ g (m + 2) 1 ∧ g (m + 2) 1 ≤ 8) (k : Q (some (.inl (wsm (g (m + 13)) (g (m + 2) 1).toNat))) g) (hd : 0 < d) : am_wp am_Md_judge d Y 63 [some (.inr (.inr m)), none, some (.inl 0), some (.inl 0)] [] g Q := by
  have lp : ∀ i : Int, 0 ≤ i → i ≤ g (m + 2) 1 → aw_Md_judge_63 d Y m (wsm (g (m + 13)) i.toNat) i g Q := by
    refine am_up (fun i => 0 ≤ i → i ≤ g (m + 2) 1 → aw_Md_judge_63 d Y m (wsm (g (m + 13)) i.toNat) i g Q) (g (m + 2) 1) ?_ ?_
    · intro i hi h0 hi2
      refine ab_Md_judge_63 hM (eK (ac_m_persons (d := 0) hM) hd ⟨fun _ => ?_, fun w => by omega⟩)
      have e : i = g (m + 2) 1 := by omega
      rw [e]
      exact k
    · intro i hi ih h0 _
      refine ab_Md_judge_63 hM (eK (ac_m_persons (d := 0) hM) hd ⟨fun w => by omega, fun _ => ⟨by omega, by unfold am_ri; omega, ?_⟩⟩)
      have := ih (by omega) (by omega)
      rw [show (i + 1).toNat = i.toNat + 1 from by omega] at this
      exact this
  exact lp 0 (by omega) (by omega)
theorem ac_m_judge92 {g : am_H} {Q : Option am_V → am_H → Prop} (hM : am_at Y m am_L12) (h8 : 0 ≤ g (m + 2) 1 ∧ g (m + 2) 1 ≤ 8) (k : Q (some (.inl (wsm (g (m + 14)) (g (m + 2) 1).toNat))) g) (hd : 0 < d) : am_wp am_Md_judge d Y 92 [some (.inr (.inr m)), none, some (.inl 0), some (.inl 0)] [] g Q := by
  have lp : ∀ i : Int, 0 ≤ i → i ≤ g (m + 2) 1 → aw_Md_judge_92 d Y m (wsm (g (m + 14)) i.toNat) i g Q := by
    refine am_up (fun i => 0 ≤ i → i ≤ g (m + 2) 1 → aw_Md_judge_92 d Y m (wsm (g (m + 14)) i.toNat) i g Q) (g (m + 2) 1) ?_ ?_
    · intro i hi h0 hi2
      refine ab_Md_judge_92 hM (eK (ac_m_persons (d := 0) hM) hd ⟨fun _ => ?_, fun w => by omega⟩)
      have e : i = g (m + 2) 1 := by omega
      rw [e]
      exact k
    · intro i hi ih h0 _
      refine ab_Md_judge_92 hM (eK (ac_m_persons (d := 0) hM) hd ⟨fun w => by omega, fun _ => ⟨by omega, by unfold am_ri; omega, ?_⟩⟩)
      have := ih (by omega) (by omega)
      rw [show (i + 1).toNat = i.toNat + 1 from by omega] at this
      exact this
  exact lp 0 (by omega) (by omega)
theorem two_judge (hY : am_at Y x am_L11) (hM : am_at Y m am_L12) (dis : x + 148 ≤ m) (c : RL h x m) : am_two am_Nh_judge am_Md_judge Y x m [.inl a] h := by
  have cs := c.2.1
  obtain ⟨c1, c2, c3, c4, -⟩ := c.2.1
  have hz := c2.1.z
  unfold rz at hz
  have kb : fkR h (x + 14) (lai h m) (bkA (lai h m) (jOf h m)) (lai h m 341).toNat := cs.bk (jOf h m)
  obtain ⟨⟨k0, k1, k2, k3⟩, -, k5, k6, k7, -, -, k8, -⟩ := kb
  obtain ⟨q0, q1, q2, q3, q4, q5⟩ := qJdg_s (lai h m) (bkA (lai h m) (jOf h m))
  have more : ∀ f g : Nat → Int, (∀ p, p < 8 → f p = g p) → (∀ p : Nat, p < 8 → lai h m 1 ≤ p → g p = 0) → wsm f 8 = wsm g (lai h m 1).toNat := by
    intro f g e z
    have w := wsm_more (f := g) (n := (lai h m 1).toNat) (8 - (lai h m 1).toNat) fun q a b => z q (by omega) (by omega)
    rw [show (lai h m 1).toNat + (8 - (lai h m 1).toNat) = 8 from by omega] at w
    rw [← w]
    exact wsm_congr 8 e
  refine am_Met.rg fun ok _ => ?_
  have hb := b22 ok hM
  refine two_b (F := qJdg (lai h m) (bkA (lai h m) (jOf h m)) a) dis c ?_ ?_
  · refine am_Met.of (by decide) rfl (Nat.le_of_ble_eq_true rfl) (ab_Nh_judge_0 hY ⟨fun w => ?_, fun w => ?_, fun w => ?_, fun w => ?_, fun w => ?_, fun w => ?_⟩)
    · rw [am_qI_s, q5 a w]
      exact ⟨rfl, rfl⟩
    · subst w
      rw [am_qI_s, q0]
      exact ⟨rfl, k2⟩
    · subst w
      rw [am_qI_s, q1]
      exact ⟨rfl, k3⟩
    · subst w
      refine eK (ac_N_sumOf (d := 0) (hY 18 _ rfl) (by omega)) (by omega) ?_
      rw [am_qI_s, q2]
      refine ⟨rfl, ?_⟩
      have e : wsm (h (x + 18)) 8 = wsm (bkA (lai h m) (jOf h m) 6) 8 := wsm_congr 8 fun p hp => (k5 p hp).2.2
      rw [e, (wsm_sm 8 (by omega) fun p hp => k8 p hp).1]
      exact k7
    · subst w
      refine eK (ac_N_sumOf (d := 0) (hY 16 _ rfl) (by omega)) (by omega) ?_
      rw [am_qI_s, q3]
      exact ⟨rfl, more _ _ (fun p hp => (k5 p hp).1) fun p hp hP => (k6 p hp hP).1⟩
    · subst w
      refine eK (ac_N_sumOf (d := 0) (hY 17 _ rfl) (by omega)) (by omega) ?_
      rw [am_qI_s, q4]
      exact ⟨rfl, more _ _ (fun p hp => (k5 p hp).2.1) fun p hp hP => (k6 p hp hP).2.1⟩
  · refine am_Met.of (by decide) rfl (Nat.le_of_ble_eq_true rfl) (ab_Md_judge_0 hM (mDs.bk hM hb c2 c3 (by omega) fun h2 _ l r _ _ => ⟨fun w => ?_, fun w => ?_, fun w => ?_, fun w => ?_, fun w => ?_, fun w => ?_⟩))
    · rw [am_qI_s, q5 a w]
      exact ⟨rfl, l⟩
    · subst w
      rw [am_qI_s, q0]
      exact ⟨r.1 0 (by omega), l⟩
    · subst w
      rw [am_qI_s, q1]
      exact ⟨r.1 1 (by omega), l⟩
    · subst w
      rw [am_qI_s, q2]
      exact ⟨r.1 2 (by omega), l⟩
    · subst w
      refine ac_m_judge63 hM (by rw [l.2.1]; omega) ?_ (by omega)
      have r4 : h2 (m + 13) = bkA (lai h m) (jOf h m) 4 := r.2 4 (by omega) (by omega)
      rw [am_qI_s, q3, l.2.1, r4]
      exact ⟨rfl, l⟩
    · subst w
      refine ac_m_judge92 hM (by rw [l.2.1]; omega) ?_ (by omega)
      have r5 : h2 (m + 14) = bkA (lai h m) (jOf h m) 5 := r.2 5 (by omega) (by omega)
      rw [am_qI_s, q4, l.2.1, r5]
      exact ⟨rfl, l⟩
def qBnd (A : Nat → Int) (J : am_H) (a b e : Int) : Int := if (0 ≤ a ∧ a < A 1) ∧ (0 ≤ b ∧ b < A 1) ∧ 0 ≤ e ∧ e < A 0 then max 0 (J 2 (jb a b e) - J 0 4 + 1) else -1
theorem two_bound (hY : am_at Y x am_L11) (hM : am_at Y m am_L12) (dis : x + 148 ≤ m) (c : RL h x m) : am_two am_Nh_bound am_Md_bound Y x m [.inl a, .inl b, .inl e] h := by
  have cs := c.2.1
  obtain ⟨c1, c2, c3, c4, -⟩ := c.2.1
  have c1' : vR h (x + 3) (lai h m 1) (lai h m) (h (m + 6)) := c1
  have hz := c2.1.z
  unfold rz at hz
  have w2 := wr_2 c2.1
  have w3 := wr_3 c2.1
  have kb : fkR h (x + 14) (lai h m) (bkA (lai h m) (jOf h m)) (lai h m 341).toNat := cs.bk (jOf h m)
  obtain ⟨⟨-, k1, -, -⟩, -, -, -, -, ⟨d1, -, d3, -⟩, ky, -⟩ := kb
  have vo1 := c1'.o1 c2.1 (by omega)
  have jl := jlo_book c2.1.z w3.1 (lnA (lai h m)) (lai h m 341).toNat (jOf h m)
  refine am_Met.rg fun ok _ => ?_
  have hb := b22 ok hM
  refine two_b (F := qBnd (lai h m) (bkA (lai h m) (jOf h m)) a b e) dis c ?_ ?_
  · refine am_Met.of (by decide) rfl (Nat.le_of_ble_eq_true rfl) (ab_Nh_bound_0 hY ?_)
    refine eK (ac_hasPerson (d := 0) (hY.sub 3 rfl)) (by omega) ?_
    rw [vin_2 c1']
    by_cases z : 0 ≤ a ∧ a < lai h m 1
    · rw [in1_t z]
      refine ⟨fun w => absurd w (by decide), fun _ => eK (ac_hasPerson (d := 0) (hY.sub 3 rfl)) (by omega) ?_⟩
      rw [vin_2 c1']
      by_cases z2 : 0 ≤ b ∧ b < lai h m 1
      · rw [in1_t z2]
        refine ⟨fun w => absurd w (by decide), fun _ => eK (ac_hasHelp (d := 0) (hY.sub 3 rfl)) (by omega) ?_⟩
        rw [vin_1 c1']
        by_cases z3 : 0 ≤ e ∧ e < lai h m 0
        · rw [in1_t z3]
          refine ⟨fun _ => am_kI.of (ac_needOf (d := 0) (hY.sub 3 rfl) vo1) (by omega) ?_, fun w => absurd w (by decide)⟩
          have jlt : jb a b e < 384 := by unfold jb; omega
          rintro v h1 - - ⟨rfl, lst⟩
          have e3 : h1 (x + 3) 3 = lai h1 m 2 := c1'.1.2.2.1
          rw [e3] at lst
          have cE := c1'.2.2.2.2.2.1
          rcases lst with ⟨rfl, no⟩ | ⟨n, rfl, hn, ⟨g1, g2⟩, -⟩
          · refine ⟨fun w => absurd w (by decide), fun _ => ?_⟩
            rw [am_qI_s]
            refine ⟨rfl, ?_⟩
            have d := (d3 a.toNat b.toNat e.toNat (by omega) (by omega) (by omega) fun n hn ⟨q1, q2⟩ => no n (by omega) ⟨by rw [(cE n hn).1, q1]; omega, by rw [(cE n hn).2, q2]; omega⟩).1
            rw [show jb (a.toNat : Int) (b.toNat : Int) (e.toNat : Int) = jb a b e from by unfold jb; omega] at d
            unfold qBnd
            rw [if_pos ⟨z, z2, z3⟩, d]
            omega
          · have hn' : (n : Int) < lai h1 m 2 := by omega
            have d := (d1 a.toNat n (by omega) hn').1
            have eN := cE n hn'
            have eb : jb (a.toNat : Int) (lai h1 m (225 + 2 * n)) (lai h1 m (226 + 2 * n)) = jb a b e := by
              rw [← eN.1, ← eN.2, g1, g2]
              unfold jb
              omega
            have d' : h1 (x + 21) (48 * a.toNat + n) = bkA (lai h1 m) (jOf h1 m) 2 (jb a b e) := by
              rw [← eb]
              exact d
            have k1' : h1 (x + 14) 1 + 1 = bkA (lai h1 m) (jOf h1 m) 0 4 := k1
            refine ⟨fun _ => ⟨2, by omega, am_Met.of (by decide) rfl (Nat.le_of_ble_eq_true rfl) (ab_Book_yearsBehind_0 (hY.sub 14 rfl) ⟨1, by omega, am_Met.of (by decide) rfl (Nat.le_of_ble_eq_true rfl) (ab_Bonds_lastYear_0 (hY.sub 19 rfl) (eK (ac_isBond (d := 0) (by omega) (by omega)) (by omega) ⟨fun w => absurd w (by decide), fun _ => ⟨by unfold am_ri; omega, by unfold am_ri; omega, by omega, ?_⟩⟩))⟩)⟩, fun w => by omega⟩
            have hi : am_ri (h1 (x + 21) (48 * a.toNat + n)) := (ok (x + 21) _ (hY 21 _ rfl) (48 * a.toNat + n)).1 rfl
            have lo := jl.1 (jb a b e) jlt
            have lo' : -1 ≤ bkA (lai h1 m) (jOf h1 m) 2 (jb a b e) := lo
            rw [am_qI_s, show (a * 48 + (n : Int)).toNat = 48 * a.toNat + n from by omega]
            show am_ri (h1 (x + 21) (48 * a.toNat + n) - h1 (x + 14) 1) ∧ _
            unfold am_ri at hi
            refine ⟨by unfold am_ri; omega, by omega, ?_⟩
            rw [am_qI_s, am_qI_s]
            refine ⟨rfl, ?_⟩
            unfold qBnd
            rw [if_pos ⟨z, z2, z3⟩]
            show max 0 (h1 (x + 21) (48 * a.toNat + n) - h1 (x + 14) 1) = _
            rw [d']
            omega
        · rw [in1_f z3]
          refine ⟨fun w => absurd rfl w, fun _ => ?_⟩
          rw [am_qI_s]
          exact ⟨rfl, (if_neg fun q => z3 q.2.2).symm⟩
      · rw [in1_f z2]
        refine ⟨fun _ => ?_, fun w => absurd rfl w⟩
        rw [am_qI_s]
        exact ⟨rfl, (if_neg fun q => z2 q.2.1).symm⟩
    · rw [in1_f z]
      refine ⟨fun _ => ?_, fun w => absurd rfl w⟩
      rw [am_qI_s]
      exact ⟨rfl, (if_neg fun q => z q.1).symm⟩
  · refine am_Met.of (by decide) rfl (Nat.le_of_ble_eq_true rfl) (ab_Md_bound_0 hM (mDs.bk hM hb c2 c3 (by omega) fun h2 ok2 l r _ ky2 => ?_))
    refine eK (ac_m_isPerson (d := 0) hM) (by omega) ?_
    rw [l.2.1]
    by_cases z : 0 ≤ a ∧ a < lai h m 1
    · rw [if_pos z]
      refine ⟨fun w => absurd w (by decide), fun _ => eK (ac_m_isPerson (d := 0) hM) (by omega) ?_⟩
      rw [l.2.1]
      by_cases z2 : 0 ≤ b ∧ b < lai h m 1
      · rw [if_pos z2]
        refine ⟨fun w => absurd w (by decide), fun _ => eK (ac_m_isHelp (d := 0) hM) (by omega) ?_⟩
        rw [l.2.1]
        by_cases z3 : 0 ≤ e ∧ e < lai h m 0
        · rw [if_pos z3]
          have jlt : jb a b e < 384 := by unfold jb; omega
          refine ⟨fun _ => am_kI.of (ac_m_bond (d := 0) (by omega) (by omega) (by omega)) (by omega) ?_, fun w => absurd w (by decide)⟩
          rintro v h3 - - ⟨rfl, rfl, -⟩
          have r2 : h3 (m + 11) = bkA (lai h m) (jOf h m) 2 := r.2 2 (by omega) (by omega)
          have r4 : h3 m 37 = bkA (lai h m) (jOf h m) 0 4 := r.1 4 (by omega)
          have hi : am_ri (h3 (m + 11) (jb a b e)) := (ok2 (m + 11) _ (hM 11 _ rfl) (jb a b e)).1 rfl
          have lo := jl.1 (jb a b e) jlt
          have lo' : -1 ≤ bkA (lai h m) (jOf h m) 2 (jb a b e) := lo
          have eq : ((jb a b e : Nat) : Int).toNat = jb a b e := Int.toNat_natCast _
          rw [eq, r4]
          have hv : h3 (m + 11) (jb a b e) = bkA (lai h m) (jOf h m) 2 (jb a b e) := by rw [r2]
          rw [hv] at hi ⊢
          unfold am_ri at hi
          refine ⟨by omega, by unfold am_ri; omega, by unfold am_ri; omega, fun w => ?_, fun w => ?_⟩
          · rw [am_qI_s]
            unfold qBnd
            rw [if_pos ⟨z, z2, z3⟩]
            exact ⟨by omega, l⟩
          · rw [am_qI_s]
            unfold qBnd
            rw [if_pos ⟨z, z2, z3⟩]
            exact ⟨by omega, l⟩
        · rw [if_neg z3]
          refine ⟨fun w => absurd rfl w, fun _ => ?_⟩
          rw [am_qI_s]
          exact ⟨(if_neg fun q => z3 q.2.2).symm, l⟩
      · rw [if_neg z2]
        refine ⟨fun _ => ?_, fun w => absurd rfl w⟩
        rw [am_qI_s]
        exact ⟨(if_neg fun q => z2 q.2.1).symm, l⟩
    · rw [if_neg z]
      refine ⟨fun _ => ?_, fun w => absurd rfl w⟩
      rw [am_qI_s]
      exact ⟨(if_neg fun q => z q.1).symm, l⟩
end
