/-! who is left: settle, solve, and both -/
section
variable {Y : am_Y} {h : am_H} {o d : Nat} {A N : Nat → Int} {mo M : Int} {n : Nat}
theorem ac_L_settle (hY : am_at Y o am_L4) (s : lcS h o A mo) (w : wV A) (ld : lcD h o A) (va : lVal A mo (h (o + 1))) (hmo : 0 ≤ mo ∧ mo ≤ 9) (mx : lMax A mo M) (hM : lMet (h (o + 1)) (A 2).toNat = M) (hn : (n : Int) < A 2) : am_cV am_Left_settle (d + 4) Y [.inr (.inr o), .inl (n : Int)] h (fun h1 => lcG h h1 o ∧ lcW h1 o A mo M (h (o + 1)) n ∧ lLx A mo M (h1 (o + 1)) n) := by
  have hz := w.1.z
  unfold rz at hz
  have w2 := wr_2 w.1
  have nN : n < (A 2).toNat := by omega
  generalize hfe : h (o + 1) = f at va hM
  have fn := va.rg w nN
  obtain ⟨a8, ab⟩ := s.2.2 n hn
  refine am_Met.of (by decide) rfl (Nat.le_of_ble_eq_true rfl) (ab_Left_settle_0 hY ?_)
  have lp : ∀ q : Int, ∀ g : am_H, 0 ≤ q → q ≤ 8 → lcG h g o → lcD g o A → (∀ i, i < 48 → g (o + 1) i = f i) → (∀ p : Nat, (p : Int) < q → ¬ lFeas A mo M f n (p : Int) ∧ ¬ f n = (p : Int)) → aw_Left_settle_2 (d + 4) Y o (n : Int) q g (am_qV fun h1 => lcG h h1 o ∧ lcW h1 o A mo M f n ∧ lLx A mo M (h1 (o + 1)) n) := by
    have keep : ∀ g : am_H, lcD g o A → (∀ i, i < 48 → g (o + 1) i = f i) → lcW g o A mo M f n := fun g dg e => ⟨dg, va.cong fun i hi => e i (by omega), by rw [lMet_c (g := f) fun i hi => e i (by omega)]; exact hM, fun i hi => e i (by omega)⟩
    refine am_up (fun q => ∀ g : am_H, 0 ≤ q → q ≤ 8 → lcG h g o → lcD g o A → (∀ i, i < 48 → g (o + 1) i = f i) → (∀ p : Nat, (p : Int) < q → ¬ lFeas A mo M f n (p : Int) ∧ ¬ f n = (p : Int)) → aw_Left_settle_2 (d + 4) Y o (n : Int) q g (am_qV fun h1 => lcG h h1 o ∧ lcW h1 o A mo M f n ∧ lLx A mo M (h1 (o + 1)) n)) 8 ?_ ?_
    · intro q hq g q0 q8 Gg dg e no
      refine ab_Left_settle_2 hY ⟨fun _ => ?_, fun z => by omega⟩
      rw [am_qV_s]
      refine ⟨Gg, keep g dg e, ?_⟩
      have fn1 : f n = -1 := by
        rcases fn with z | z
        · exact z
        · have := (no (f n).toNat (by omega)).2
          omega
      have lx : lLx A mo M f n := Or.inl ⟨fn1, fun p hp => (no p (by omega)).1⟩
      exact lLx_c (fun i hi => (e i (by omega)).symm) lx
    · intro q hq qh g q0 q8 Gg dg e no
      have qq : ((q.toNat : Nat) : Int) = q := by omega
      have en := e n (by omega)
      have next : ∀ g' : am_H, lcG h g' o → lcD g' o A → (∀ i, i < 48 → g' (o + 1) i = f i) → ¬ lFeas A mo M f n q → ¬ f n = q → (am_ri (q + 1)) ∧ aw_Left_settle_2 (d + 4) Y o (n : Int) (q + 1) g' (am_qV fun h1 => lcG h h1 o ∧ lcW h1 o A mo M f n ∧ lLx A mo M (h1 (o + 1)) n) := by
        intro g' G' d' e' nf nq
        refine ⟨by unfold am_ri; omega, qh g' (by omega) (by omega) G' d' e' fun p hp => ?_⟩
        by_cases pq : (p : Int) = q
        · rw [pq]
          exact ⟨nf, nq⟩
        · exact no p (by omega)
      have abq := ab q.toNat (by omega)
      rw [qq] at abq
      refine ab_Left_settle_2 hY ⟨fun z => by omega, fun _ => ⟨by omega, ?_⟩⟩
      rw [Int.toNat_natCast, en, Gg.1 (o + 2) (by omega) (by omega) (by omega) (by omega) (by omega) (by omega) (by omega)]
      refine ⟨fun z => ?_, fun nq => ⟨by omega, fun z => next g Gg dg e (fun fe => z (abq.mpr (fe.asked hn (by omega)))) nq, fun z => ?_⟩⟩
      · rw [am_qV_s]
        refine ⟨Gg, keep g dg e, ?_⟩
        have lx : lLx A mo M f n := Or.inr ⟨by omega, by omega, ⟨f, va, fun _ _ => rfl, rfl, hM⟩, fun p hp => (no p (by omega)).1⟩
        exact lLx_c (fun i hi => (e i (by omega)).symm) lx
      · have wg := keep g dg e
        refine am_kI.of (ac_L_force (d := d) hY (s.butG Gg) w dg wg.2.1 hmo mx wg.2.2.1 hn (abq.mp z) (by rw [en]; exact nq)) (by omega) ?_
        rintro v g2 - - ⟨G2, (⟨rfl, w2', gn⟩ | ⟨rfl, d2, e2, nf⟩)⟩
        · refine ⟨fun y => absurd y (by decide), fun _ => ?_⟩
          have below : ∀ i, i < n → g2 (o + 1) i = f i := fun i hi => by rw [w2'.2.2.2 i hi, e i (by omega)]
          rw [am_qV_s]
          refine ⟨Gg.trans G2, ⟨w2'.1, w2'.2.1, w2'.2.2.1, below⟩, Or.inr ⟨by omega, by omega, ⟨_, w2'.2.1, fun _ _ => rfl, rfl, w2'.2.2.1⟩, fun p hp fe => ?_⟩⟩
          exact (no p (by omega)).1 (lFeas_c below fe)
        · refine ⟨fun _ => next g2 (Gg.trans G2) d2 (fun i hi => by rw [e2 i hi, e i hi]) (fun fe => nf (lFeas_c (fun i hi => (e i (by omega)).symm) fe)) nq, fun y => absurd rfl y⟩
  exact lp 0 h (by omega) (by omega) lcG.refl ld (fun i _ => by rw [hfe]) fun p hp => by omega
theorem or_0 {a : Int} (h : by8 a) : am_or a 0 = a := by
  have t := (or_b h (b := 0) (by unfold by8; omega)).1
  unfold by8 at h
  rw [t, show (0 : Int).toNat = 0 from rfl, Nat.or_zero]
  omega
theorem ac_L_solve {v : Nat} (hY : am_at Y o am_L4) (hYv : am_at Y v am_L9) (dis : v + 11 ≤ o) (c : vR h v (A 1) A N) (w : wV A) (hmo : 0 ≤ mo ∧ mo ≤ 9) : am_cI am_Left_solve (d + 5) Y [.inr (.inr o), .inr (.inr v), .inl mo] h (fun r h1 => (∀ q, (q < o ∨ o + 8 ≤ q) → h1 q = h q) ∧ lMax A mo r ∧ h1 o 0 = A 2 ∧ ∀ n : Nat, (n : Int) < A 2 → lLx A mo r (h1 (o + 1)) n) := by
  have hz := w.1.z
  unfold rz at hz
  have w2 := wr_2 w.1
  refine am_Met.of (by decide) rfl (Nat.le_of_ble_eq_true rfl) (ab_Left_solve_0 hY hYv fun h1 e1 h2 e2 => ?_)
  have n2 : ∀ r, r ≠ o → h2 r = h r := fun r hr => by rw [e2, am_u_n _ _ _ _ _ hr, e1, am_u_n _ _ _ _ _ hr]
  have o0 : h2 o 0 = A 2 := by
    rw [e2, am_u_j (by omega), e1, am_u_s]
    exact c.1.2.2.1
  have o2 : h2 o 2 = mo := by rw [e2, am_u_s]
  refine am_kV.of (ac_fillI (d := 0) (hY 1 _ rfl) (by omega)) (by omega) fun h3 _ k3 => ?_
  refine am_kV.of (ac_fillI (d := 0) (hY 3 _ rfl) (by omega)) (by omega) fun h4 _ k4 => ?_
  -- what stands while the needs are looked through
  let B : am_H → Prop := fun g => (∀ r, r ≠ o + 2 → g r = h4 r)
  have Bo : ∀ g, B g → g o 0 = A 2 ∧ g o 2 = mo := fun g b => by
    rw [b o (by omega), k4.1 o (by omega), k3.1 o (by omega)]
    exact ⟨o0, o2⟩
  have Bv : ∀ g, B g → vR g v (A 1) A N := fun g b => c.but fun q p1 p2 => by rw [b q (by omega), k4.1 q (by omega), k3.1 q (by omega), n2 q (by omega)]
  have B1 : ∀ g, B g → ∀ i : Nat, i < 48 → g (o + 1) i = -1 := fun g b i hi => by rw [b _ (by omega), k4.1 _ (by omega), k3.2 i hi]
  have B3 : ∀ g, B g → ∀ p : Nat, p < 8 → g (o + 3) p = 0 := fun g b p hp => by rw [b _ (by omega), k4.2 p hp]
  let K : Int → am_H → Prop := fun r h1 => (∀ q, (q < o ∨ o + 8 ≤ q) → h1 q = h q) ∧ lMax A mo r ∧ h1 o 0 = A 2 ∧ ∀ n : Nat, (n : Int) < A 2 → lLx A mo r (h1 (o + 1)) n
  have Gout : ∀ g g1, B g → lcG g g1 o → ∀ q, (q < o ∨ o + 8 ≤ q) → g1 q = h q := fun g g1 b G q hq => by rw [G.1 q (by omega) (by omega) (by omega) (by omega) (by omega) (by omega) (by omega), b q (by omega), k4.1 q (by omega), k3.1 q (by omega), n2 q (by omega)]
  -- the last part: settle
  have fin : ∀ (M : Int) (g0 g : am_H), B g0 → lcG g0 g o → lcS g0 o A mo → lMax A mo M → lcD g o A → lVal A mo (g (o + 1)) → lMet (g (o + 1)) (A 2).toNat = M → aw_Left_solve_144 (d + 5) Y o v M 0 g (am_qI K) := by
    intro M g0 g b0 G0 s0 mx dg vg mg
    have lp : ∀ n : Int, ∀ g1 : am_H, 0 ≤ n → n ≤ A 2 → lcG g0 g1 o → lcD g1 o A → lVal A mo (g1 (o + 1)) → lMet (g1 (o + 1)) (A 2).toNat = M → (∀ i : Nat, (i : Int) < n → lLx A mo M (g1 (o + 1)) i) → aw_Left_solve_144 (d + 5) Y o v M n g1 (am_qI K) := by
      refine am_up (fun n => ∀ g1 : am_H, 0 ≤ n → n ≤ A 2 → lcG g0 g1 o → lcD g1 o A → lVal A mo (g1 (o + 1)) → lMet (g1 (o + 1)) (A 2).toNat = M → (∀ i : Nat, (i : Int) < n → lLx A mo M (g1 (o + 1)) i) → aw_Left_solve_144 (d + 5) Y o v M n g1 (am_qI K)) (A 2) ?_ ?_
      · intro n hn g1 n0 n8 G1 d1 v1 m1 lx
        have s1 := s0.butG G1
        refine ab_Left_solve_144 hY hYv ?_
        rw [s1.1]
        refine ⟨fun _ => ?_, fun z => by omega⟩
        rw [am_qI_s]
        exact ⟨Gout g0 g1 b0 G1, mx, s1.1, fun i hi => lx i (by omega)⟩
      · intro n hn nh g1 n0 n8 G1 d1 v1 m1 lx
        have nn : ((n.toNat : Nat) : Int) = n := by omega
        have s1 := s0.butG G1
        have st := ac_L_settle (d := d) (n := n.toNat) hY s1 w d1 v1 hmo mx m1 (by omega)
        rw [nn] at st
        refine ab_Left_solve_144 hY hYv ?_
        rw [s1.1]
        refine ⟨fun z => by omega, fun _ => am_kV.of st (by omega) ?_⟩
        rintro g2 - ⟨G2, w2', lx2⟩
        refine ⟨by unfold am_ri; omega, nh g2 (by omega) (by omega) (G1.trans G2) w2'.1 w2'.2.1 w2'.2.2.1 fun i hi => ?_⟩
        by_cases e : i = n.toNat
        · rw [e]; exact lx2
        · exact lLx_c (fun j hj => (w2'.2.2.2 j (by omega)).symm) (lx i (by omega))
    exact lp 0 g (by omega) (by omega) G0 dg vg mg fun i hi => by omega
  -- the middle part: improve
  have mid : ∀ g0 : am_H, B g0 → lcS g0 o A mo → aw_Left_solve_108 (d + 5) Y o v 0 0 g0 (am_qI K) := by
    intro g0 b0 s0
    have lp : ∀ n : Int, ∀ g : am_H, 0 ≤ n → n ≤ A 2 → lcF g0 g o → lcD g o A → lVal A mo (g (o + 1)) → (∀ i : Nat, (i : Int) < A 2 → n ≤ (i : Int) → g (o + 1) i = -1) → (∃ U, lCert A mo (fun i => (0 : Int) ≤ (i : Int)) (fun i => (i : Int) < n) (g (o + 1)) U) → aw_Left_solve_108 (d + 5) Y o v (lMet (g (o + 1)) (A 2).toNat) n g (am_qI K) := by
      refine am_up (fun n => ∀ g : am_H, 0 ≤ n → n ≤ A 2 → lcF g0 g o → lcD g o A → lVal A mo (g (o + 1)) → (∀ i : Nat, (i : Int) < A 2 → n ≤ (i : Int) → g (o + 1) i = -1) → (∃ U, lCert A mo (fun i => (0 : Int) ≤ (i : Int)) (fun i => (i : Int) < n) (g (o + 1)) U) → aw_Left_solve_108 (d + 5) Y o v (lMet (g (o + 1)) (A 2).toNat) n g (am_qI K)) (A 2) ?_ ?_
      · rintro n hn g n0 n8 f1 d1 v1 - ⟨U, cU⟩
        have s1 := s0.but f1
        refine ab_Left_solve_108 hY hYv ?_
        rw [s1.1]
        refine ⟨fun _ => fin _ g0 g b0 (lcG.of f1) s0 ⟨⟨_, v1, rfl⟩, fun G hG => ?_⟩ d1 v1 rfl, fun z => by omega⟩
        exact cert_max w v1 cU (fun i hi _ => by omega) hG fun i _ nf => absurd (Int.natCast_nonneg i) nf
      · rintro n hn nh g n0 n8 f1 d1 v1 un ⟨U, cU⟩
        have nn : ((n.toNat : Nat) : Int) = n := by omega
        have s1 := s0.but f1
        have mrg := lMet_rg (g (o + 1)) (A 2).toNat
        have fn := un n.toNat (by omega) (by omega)
        have im := ac_L_improve (d := 0) (n0 := n.toNat) (frm := 0) hY s1 w d1 v1 hmo (by omega) fn (Int.le_refl _)
        rw [nn] at im
        refine ab_Left_solve_108 hY hYv ?_
        rw [s1.1]
        refine ⟨fun z => by omega, fun _ => am_kI.of im (by omega) ?_⟩
        rintro r g2 - - ⟨f2, d2, q2⟩
        refine ⟨fun z => ⟨by unfold am_ri; omega, by unfold am_ri; omega, ?_⟩, fun z => ⟨by unfold am_ri; omega, by unfold am_ri; omega, ?_⟩⟩
        · rcases q2 with ⟨y, -⟩ | ⟨-, e2, T, t1, t2, t3⟩
          · omega
          have add := cert_add (T := T) (n := n.toNat) cU t1 (fun i hi fi f0 t q hq => t2 i hi fi f0 t q hq) t3
          have go := nh g2 (by omega) (by omega) (f1.trans f2) d2 (by rw [e2]; exact v1) (fun i hi ni => by rw [e2]; exact un i hi (by omega)) ⟨fun p => U p ∨ T p, by
            rw [e2]
            exact add.sub fun i hi _ _ di => by
              by_cases e : i = n.toNat
              · exact Or.inr e
              · exact Or.inl (by omega)⟩
          rw [e2] at go
          rw [Int.add_zero]
          exact go
        · rcases q2 with ⟨-, m2, v2⟩ | ⟨y, -⟩
          case inr => exact absurd y z
          have more := lMet_more (f := g (o + 1)) (g := g2 (o + 1)) (n := n.toNat) (N := (A 2).toNat) (by omega) fn m2.1 (fun j _ => m2.2.1 j) (fun j _ => m2.2.2.1 j) fun j hj => by
            have := v1.rg w hj
            omega
          have keep := cert_keep w v1 cU v2 (fun i _ nf => absurd (Int.natCast_nonneg i) nf) (fun i _ => m2.2.1 i)
          have go := nh g2 (by omega) (by omega) (f1.trans f2) d2 v2 (fun i hi ni => m2.2.2.1 i (by omega) (un i hi (by omega))) ⟨U, keep.sub fun i hi _ fi di => by
            by_cases e : i = n.toNat
            · have := m2.1
              rw [e] at fi
              omega
            · omega⟩
          rw [more] at go
          exact go
    have b1 : ∀ i : Nat, (i : Int) < A 2 → g0 (o + 1) i = -1 := fun i hi => B1 g0 b0 i (by omega)
    have c0 : ∀ p : Nat, lCnt (g0 (o + 1)) (p : Int) (A 2).toNat = 0 := fun p => sm_zero _ fun i hi => by rw [b1 i (by omega), if_neg (by omega)]
    have m0 : lMet (g0 (o + 1)) (A 2).toNat = 0 := sm_zero _ fun i hi => by rw [b1 i (by omega), if_neg (by omega)]
    have go := lp 0 g0 (by omega) (by omega) lcF.refl (fun p hp => by rw [c0, B3 g0 b0 p hp]) ⟨fun i hi => Or.inl (b1 i hi), fun p _ => by rw [c0]; omega⟩ (fun i hi _ => b1 i hi) ⟨fun _ => False, cert_0.sub fun i hi _ _ di => by omega⟩
    rw [m0] at go
    exact go
  -- the first part: who is able
  have lp : ∀ n : Int, ∀ g : am_H, 0 ≤ n → n ≤ A 2 → B g → (∀ i : Nat, (i : Int) < n → by8 (g (o + 2) i) ∧ ∀ q : Nat, q < 8 → (hb (g (o + 2) i) (q : Int) ↔ asked A (q : Int) (i : Int))) → aw_Left_solve_31 (d + 5) Y o v n g (am_qI K) := by
    refine am_up (fun n => ∀ g : am_H, 0 ≤ n → n ≤ A 2 → B g → (∀ i : Nat, (i : Int) < n → by8 (g (o + 2) i) ∧ ∀ q : Nat, q < 8 → (hb (g (o + 2) i) (q : Int) ↔ asked A (q : Int) (i : Int))) → aw_Left_solve_31 (d + 5) Y o v n g (am_qI K)) (A 2) ?_ ?_
    · intro n hn g n0 n8 b a
      refine ab_Left_solve_31 hY hYv ?_
      rw [(Bo g b).1]
      exact ⟨fun _ => mid g b ⟨(Bo g b).1, (Bo g b).2, fun i hi => a i (by omega)⟩, fun z => by omega⟩
    · intro n hn nh g n0 n8 b a
      have nn : ((n.toNat : Nat) : Int) = n := by omega
      refine ab_Left_solve_31 hY hYv ?_
      rw [(Bo g b).1]
      refine ⟨fun z => by omega, fun _ => ⟨fun z => by omega, fun _ => ⟨by omega, fun g1 eg => ?_⟩⟩⟩
      have lq : ∀ q : Int, ∀ g2 : am_H, 0 ≤ q → q ≤ A 1 → B g2 → (∀ i, i ≠ n.toNat → g2 (o + 2) i = g (o + 2) i) → by8 (g2 (o + 2) n.toNat) → (∀ p : Nat, p < 8 → (hb (g2 (o + 2) n.toNat) (p : Int) ↔ (p : Int) < q ∧ asked A (p : Int) n)) → aw_Left_solve_55 (d + 5) Y o v n q g2 (am_qI K) := by
        refine am_up (fun q => ∀ g2 : am_H, 0 ≤ q → q ≤ A 1 → B g2 → (∀ i, i ≠ n.toNat → g2 (o + 2) i = g (o + 2) i) → by8 (g2 (o + 2) n.toNat) → (∀ p : Nat, p < 8 → (hb (g2 (o + 2) n.toNat) (p : Int) ↔ (p : Int) < q ∧ asked A (p : Int) n)) → aw_Left_solve_55 (d + 5) Y o v n q g2 (am_qI K)) (A 1) ?_ ?_
        · intro q hq g2 q0 q8 b2 a2 y8 bits
          have v2 : g2 v 2 = A 1 := (Bv g2 b2).1.2.1
          refine ab_Left_solve_55 hY hYv ?_
          rw [v2]
          refine ⟨fun _ => ⟨by unfold am_ri; omega, nh g2 (by omega) (by omega) b2 fun i hi => ?_⟩, fun z => by omega⟩
          by_cases e : i = n.toNat
          · rw [e]
            refine ⟨y8, fun p hp => (bits p hp).trans ⟨fun z => by rw [nn]; exact z.2, fun z => ?_⟩⟩
            rw [nn] at z
            exact ⟨by have := z.1; omega, z⟩
          · rw [a2 i e]
            exact a i (by omega)
        · intro q hq qh g2 q0 q8 b2 a2 y8 bits
          have vv := Bv g2 b2
          have v2 : g2 v 2 = A 1 := vv.1.2.1
          refine ab_Left_solve_55 hY hYv ?_
          rw [v2]
          refine ⟨fun z => by omega, fun _ => ⟨by omega, eK (ac_canMeet (d := 0) hYv (vv.o1 w.1 (by omega))) (by omega) ?_⟩⟩
          rw [vcm_is vv w]
          by_cases ak : asked A q n
          · rw [if_pos ak]
            refine ⟨fun z => absurd z (by decide), fun _ => ⟨by omega, fun g4 e4 => ⟨by unfold am_ri; omega, ?_⟩⟩⟩
            have ev := ev_or (x := g2 (o + 2) n.toNat) (p := q) y8 ⟨q0, by omega⟩
            refine qh g4 (by omega) (by omega) (fun r hr => by rw [e4, am_u_n _ _ _ _ _ hr]; exact b2 r hr) (fun i hi => by rw [e4, am_u_j hi]; exact a2 i hi) (by rw [e4, am_u_s]; exact ⟨ev.1, ev.2.1⟩) fun p hp => ?_
            rw [e4, am_u_s, ev.2.2 p hp, bits p hp]
            constructor
            · rintro (z | z)
              · rw [z]
                exact ⟨by omega, ak⟩
              · exact ⟨by omega, z.2⟩
            · rintro ⟨z1, z2⟩
              by_cases e : (p : Int) = q
              · exact Or.inl e
              · exact Or.inr ⟨by omega, z2⟩
          · rw [if_neg ak]
            refine ⟨fun _ => ⟨by omega, fun g3 e3 => ⟨by unfold am_ri; omega, ?_⟩⟩, fun z => absurd rfl z⟩
            rw [or_0 y8] at e3
            have same : g3 = g2 := by rw [e3]; exact am_u_id rfl
            rw [same]
            refine qh g2 (by omega) (by omega) b2 a2 y8 fun p hp => ?_
            rw [bits p hp]
            constructor
            · rintro ⟨z1, z2⟩
              exact ⟨by omega, z2⟩
            · rintro ⟨z1, z2⟩
              by_cases e : (p : Int) = q
              · rw [e] at z2
                exact absurd z2 ak
              · exact ⟨by omega, z2⟩
      refine lq 0 g1 (by omega) (by omega) (fun r hr => by rw [eg, am_u_n _ _ _ _ _ hr]; exact b r hr) (fun i hi => by rw [eg, am_u_j hi]) (by rw [eg, am_u_s]; unfold by8; omega) fun p hp => ?_
      rw [eg, am_u_s]
      exact ⟨fun z => absurd z (sh_0 (by omega)), fun z => by omega⟩
  exact lp 0 h4 (by omega) (by omega) (fun _ _ => rfl) fun i hi => by omega
end
section
variable {Y : am_Y} {h h2 : am_H} {x m : Nat} {mo : Int}
theorem RL.lf (c : RL h x m) (fx : ∀ q, (q < x + 138 ∨ x + 146 ≤ q) → q < m → h2 q = h q) (dis : x + 148 ≤ m) (la : lai h2 m = lai h m) (gq : ∀ q, q = m + 1 ∨ q = m + 5 ∨ q = m + 6 ∨ q = m + 8 ∨ q = m + 9 ∨ q = m + 22 ∨ q = m + 23 ∨ q = m + 29 → h2 q = h q) (gj : ∀ j, j = 2 ∨ j = 10 ∨ j = 47 ∨ j = 48 ∨ j = 58 ∨ j = 59 → h2 m j = h m j) (t : lfR h2 x m) : RL h2 x m := by
  obtain ⟨ct, cs, ck, cr, cl, ch⟩ := c
  refine ⟨ct.but (fun j hj => by rw [fx x (by omega) (by omega)]) (fx _ (by omega) (by omega)) (gq _ (by omega)) (fun j hj => gj j (by omega)), ?_, ck.but (fun q a b => fx q (by omega) (by omega)) (gq _ (by omega)) (gq _ (by omega)) (gq _ (by omega)), cr.but (fun q a b => fx q (by omega) (by omega)) (gq _ (by omega)) (gq _ (by omega)) (fun j hj => gj j (by omega)), t, ch.but (fun j hj => by rw [fx x (by omega) (by omega)]) (fx _ (by omega) (by omega)) (gq _ (by omega)) (fun j hj => gj j (by omega))⟩
  rw [la, gq (m + 6) (by omega)]
  exact cs.but fun q a b => fx q (by omega) (by omega)
theorem two_left (hY : am_at Y x am_L11) (hM : am_at Y m am_L12) (dis : x + 148 ≤ m) (c : RL h x m) : am_two am_Nh_left am_Md_left Y x m [.inl mo] h := by
  obtain ⟨c1, c2, -⟩ := c.2.1
  have c1' : vR h (x + 3) (lai h m 1) (lai h m) (h (m + 6)) := c1
  have w2 := wr_2 c2.1
  refine am_Met.rg fun ok _ => ?_
  have hb := b22 ok hM
  by_cases z : 0 ≤ mo ∧ mo ≤ 9
  · refine am_cI.mono (K := fun r h1 => (∀ q, (q < x + 138 ∨ x + 146 ≤ q) → h1 q = h q) ∧ lMax (lai h m) mo r ∧ h1 (x + 138) 0 = lai h m 2 ∧ ∀ n : Nat, (n : Int) < lai h m 2 → lLx (lai h m) mo r (h1 (x + 139)) n) ?_ ?_
    · refine am_Met.of (by decide) rfl (Nat.le_of_ble_eq_true rfl) (ab_Nh_left_0 hY ⟨fun q => by omega, fun _ => ⟨fun _ => am_kI.of (ac_L_solve (d := 0) (o := x + 138) (v := x + 3) (hY.sub 138 rfl) (hY.sub 3 rfl) (by omega) c1' c2 z) (by omega) ?_, fun q => by omega⟩⟩)
      rintro r h1 - - ⟨f1, mx, e0, lx⟩
      rw [am_qI_s]
      exact ⟨fun q hq => f1 q (by omega), mx, e0, lx⟩
    · rintro r h1 ok1 - ⟨f1, mx, e0, lx⟩
      have e1 : ∀ q, m ≤ q → h1 q = h q := fun q hq => f1 q (by omega)
      have la : lai h1 m = lai h m := lai_u (e1 _ (by omega)) (by rw [e1 m (by omega)])
      have ml := ac_m_left (d := 48) (mo := mo) hM (b22 ok1 hM) (by rw [la]; exact c2) z
      rw [la] at ml
      refine am_cI.mono ml ?_
      rintro r2 h3 - - ⟨mx2, ⟨p1, p2, p3, p4⟩, e55, F, F1, F2⟩
      have er := lMax_u mx2 mx
      subst er
      refine ⟨rfl, c.lf (fun q a b => by rw [p1 q b, f1 q a]) dis (by rw [p2, la]) (fun q a => by rw [p3 q a, e1 q (by omega)]) (fun j a => by rw [p4 j a, e1 m (by omega)]) ⟨⟨?_, by omega, by omega⟩, fun n hn => ?_⟩⟩
      · rw [p1 _ (by omega), e0, e55]
      · rw [e55] at hn
        rw [p1 _ (by omega), F1 n hn]
        exact lLx_u lx F2 (n + 1) n (by omega) hn
  · refine two_e (F := -1) dis c ?_ ?_
    · refine am_Met.of (by decide) rfl (Nat.le_of_ble_eq_true rfl) (ab_Nh_left_0 hY ⟨fun q => ?_, fun q => ⟨fun q2 => absurd ⟨q, q2⟩ z, fun q2 => ?_⟩⟩)
      · rw [am_qI_s]
        exact ⟨rfl, rfl⟩
      · rw [am_qI_s]
        exact ⟨rfl, rfl⟩
    · refine am_Met.of (by decide) rfl (Nat.le_of_ble_eq_true rfl) (ab_Md_left_0 hM (mL.lay hM hb (by omega) fun h2 _ l => eK (ac_m_isIn (d := 0)) (by omega) ?_))
      rw [if_neg z]
      refine ⟨fun q => absurd rfl q, fun _ => ?_⟩
      rw [am_qI_s]
      exact ⟨rfl, l.y⟩
end
