/-! the class: who is left: improve -/
/-- a search's outcome -/
def lcQ (h1 : am_H) (o : Nat) (A : Nat → Int) (mo : Int) (f : Nat → Int) (n0 : Nat) (frm v : Int) : Prop :=
  v = 1 ∧ lcM A f (h1 (o + 1)) n0 frm ∧ lVal A mo (h1 (o + 1)) ∨
  v = 0 ∧ h1 (o + 1) = f ∧ ∃ T : Nat → Prop, (∀ p : Nat, T p → p < 8 ∧ lCnt f (p : Int) (A 2).toNat = mo) ∧ (∀ i : Nat, (i : Int) < A 2 → frm ≤ (i : Int) → 0 ≤ f i → T (f i).toNat → ∀ q : Nat, asked A (q : Int) (i : Int) → T q) ∧ ∀ q : Nat, asked A (q : Int) (n0 : Int) → T q
section
variable {Y : am_Y} {h : am_H} {o d : Nat} {A : Nat → Int} {mo frm : Int} {n0 : Nat}
theorem ac_L_improve (hY : am_at Y o am_L4) (s : lcS h o A mo) (w : wV A) (ld : lcD h o A) (va : lVal A mo (h (o + 1))) (hmo : 0 ≤ mo ∧ mo ≤ 9) (hn : (n0 : Int) < A 2) (hf : h (o + 1) n0 = -1) (hfr : 0 ≤ frm) : am_cI am_Left_improve (d + 1) Y [.inr (.inr o), .inl (n0 : Int), .inl frm] h (fun v h1 => lcF h h1 o ∧ lcD h1 o A ∧ lcQ h1 o A mo (h (o + 1)) n0 frm v) := by
  have hz := w.1.z
  unfold rz at hz
  have w2 := wr_2 w.1
  generalize hfe : h (o + 1) = f at va hf
  -- what has been searched
  let B : am_H → Prop := fun g => lcB g o A f n0 frm ∧ g (o + 1) = f ∧ lcD g o A ∧ lcF h g o ∧ ∀ q : Nat, asked A (q : Int) (n0 : Int) → hb (g o 9) (q : Int)
  let C : am_H → Nat → Prop := fun g j => lCnt f (g (o + 6) j) (A 2).toNat = mo ∧ ∀ r : Nat, (r : Int) < A 2 → frm ≤ (r : Int) → f r = g (o + 6) j → ∀ q : Nat, asked A (q : Int) (r : Int) → hb (g o 9) (q : Int)
  have grow : ∀ g g', B g → lcR g g' o A f n0 frm → B g' ∧ ∀ j : Nat, (j : Int) < g o 8 → C g j → C g' j := by
    rintro g g' ⟨c1, c2, c3, c4, c5⟩ ⟨k1, k2, k3, k4, k5, k6⟩
    have e1 : g' (o + 1) = f := by rw [k5 _ (by omega) (by omega) (by omega), c2]
    refine ⟨⟨k1, e1, fun p hp => ?_, c4.trans ⟨fun q p1 p2 p3 p4 p5 => k5 q p1 p4 p5, k6⟩, fun q hq => ?_⟩, fun j hj ⟨d1, d2⟩ => ?_⟩
    · have := c3 p hp
      rw [c2] at this
      rw [e1, k5 (o + 3) (by omega) (by omega) (by omega)]
      exact this
    · exact k2 q (by have := hq.1; omega) (c5 q hq)
    · show lCnt f (g' (o + 6) j) (A 2).toNat = mo ∧ ∀ r : Nat, (r : Int) < A 2 → frm ≤ (r : Int) → f r = g' (o + 6) j → ∀ q : Nat, asked A (q : Int) (r : Int) → hb (g' o 9) (q : Int)
      rw [k4 j hj]
      exact ⟨d1, fun r hr hr2 fr q hq => k2 q (by have := hq.1; omega) (d2 r hr hr2 fr q hq)⟩
  refine am_Met.of (by decide) rfl (Nat.le_of_ble_eq_true rfl) (ab_Left_improve_0 hY fun h1 e1 h2 e2 => ?_)
  have n2 : ∀ r, r ≠ o → h2 r = h r := fun r hr => by rw [e2, am_u_n _ _ _ _ _ hr, e1, am_u_n _ _ _ _ _ hr]
  have t8 : h2 o 8 = 0 := by rw [e2, am_u_j (by omega), e1, am_u_s]
  have t9 : h2 o 9 = 0 := by rw [e2, am_u_s]
  have f2 : lcF h h2 o := (lcF.u e1 (by omega)).trans (lcF.u e2 (by omega))
  have s2 := s.but f2
  have nb : ∀ p : Nat, p < 8 → ¬ hb (h2 o 9) (p : Int) := fun p hp => by rw [t9]; exact sh_0 (by omega)
  have b2 : lcB h2 o A f n0 frm := by
    refine ⟨by rw [t9]; unfold by8; omega, ?_, fun j hj => by omega, fun p hp z => absurd z (nb p hp), fun j j' hj => by omega, fun j hj => by omega⟩
    rw [t8]
    exact (sm_zero 8 fun p hp => if_neg (nb p hp)).symm
  refine am_kV.of (ac_L_reach (d := 0) (r := n0) hY s2 w b2 hn (Or.inl rfl)) (by omega) ?_
  rintro h3 - ⟨r3, k3⟩
  have e31 : h3 (o + 1) = f := by rw [r3.2.2.2.2.1 _ (by omega) (by omega) (by omega), n2 _ (by omega), hfe]
  have B3 : B h3 := by
    refine ⟨r3.1, e31, fun p hp => ?_, f2.trans ⟨fun q p1 p2 p3 p4 p5 => r3.2.2.2.2.1 q p1 p4 p5, r3.2.2.2.2.2⟩, k3⟩
    have := ld p hp
    rw [hfe] at this
    rw [e31, r3.2.2.2.2.1 (o + 3) (by omega) (by omega) (by omega), n2 _ (by omega)]
    exact this
  have lp : ∀ i : Int, ∀ g : am_H, 0 ≤ i → i ≤ 8 → B g → (∀ j : Nat, (j : Int) < i → (j : Int) < g o 8 → C g j) → aw_Left_improve_17 (d + 1) Y o frm i g (am_qI fun v h1 => lcF h h1 o ∧ lcD h1 o A ∧ lcQ h1 o A mo f n0 frm v) := by
    have stop : ∀ (i : Int) (g : am_H), B g → g o 8 ≤ i → (∀ j : Nat, (j : Int) < i → (j : Int) < g o 8 → C g j) → am_qI (fun v h1 => lcF h h1 o ∧ lcD h1 o A ∧ lcQ h1 o A mo f n0 frm v) (some (.inl 0)) g := by
      rintro i g ⟨c1, c2, c3, c4, c5⟩ hi cl
      rw [am_qI_s]
      refine ⟨c4, c3, Or.inr ⟨rfl, c2, fun p => p < 8 ∧ hb (g o 9) (p : Int), fun p t => ⟨t.1, ?_⟩, fun r hr hr2 f0 t q hq => ⟨by have := hq.1; omega, ?_⟩, fun q hq => ⟨by have := hq.1; omega, c5 q hq⟩⟩⟩
      · obtain ⟨j, j1, j2⟩ := c1.2.2.2.1 p t.1 t.2
        have := (cl j (by omega) j1).1
        rw [j2] at this
        exact this
      · obtain ⟨j, j1, j2⟩ := c1.2.2.2.1 _ t.1 t.2
        exact (cl j (by omega) j1).2 r hr hr2 (by rw [j2]; omega) q hq
    refine am_up (fun i => ∀ g : am_H, 0 ≤ i → i ≤ 8 → B g → (∀ j : Nat, (j : Int) < i → (j : Int) < g o 8 → C g j) → aw_Left_improve_17 (d + 1) Y o frm i g (am_qI fun v h1 => lcF h h1 o ∧ lcD h1 o A ∧ lcQ h1 o A mo f n0 frm v)) 8 ?_ ?_
    · intro i hi g i0 i8 Bg cl
      have Q8 : g o 8 ≤ 8 := by
        have := sm_le (f := fun p : Nat => if hb (g o 9) (p : Int) then (1 : Int) else 0) (c := 1) 8 fun p _ => by split <;> omega
        have := Bg.1.2.1
        omega
      exact ab_Left_improve_17 hY ⟨fun _ => stop i g Bg (by omega) cl, fun z => by omega⟩
    · intro i hi ih g i0 i8 Bg cl
      have ii : ((i.toNat : Nat) : Int) = i := by omega
      have Bg' := Bg
      obtain ⟨c1, c2, c3, c4, c5⟩ := Bg'
      refine ab_Left_improve_17 hY ⟨fun z => stop i g Bg z cl, fun hiQ => ⟨fun z => by omega, fun _ => ⟨by omega, ?_⟩⟩⟩
      obtain ⟨q0, q8, qb⟩ := c1.2.2.1 i.toNat (by omega)
      generalize hq : g (o + 6) i.toNat = q at q0 q8 qb
      have qq : ((q.toNat : Nat) : Int) = q := by omega
      have lq := c3 q.toNat (by omega)
      rw [c2, qq] at lq
      have lm := va.2 q.toNat (by omega)
      rw [qq] at lm
      rw [lq, c4.2 2 (by omega) (by omega), s.2.1]
      refine ⟨⟨q0, q8⟩, fun full => ?_, fun room => ?_⟩
      · have lq2 : ∀ k : Int, ∀ g2 : am_H, frm ≤ k → B g2 → i < g2 o 8 → g2 (o + 6) i.toNat = q → (∀ j : Nat, (j : Int) < i → (j : Int) < g2 o 8 → C g2 j) → (∀ r : Nat, (r : Int) < A 2 → frm ≤ (r : Int) → (r : Int) < k → f r = q → ∀ q' : Nat, asked A (q' : Int) (r : Int) → hb (g2 o 9) (q' : Int)) → aw_Left_improve_64 (d + 1) Y o frm i q k g2 (am_qI fun v h1 => lcF h h1 o ∧ lcD h1 o A ∧ lcQ h1 o A mo f n0 frm v) := by
          refine am_up (fun k => ∀ g2 : am_H, frm ≤ k → B g2 → i < g2 o 8 → g2 (o + 6) i.toNat = q → (∀ j : Nat, (j : Int) < i → (j : Int) < g2 o 8 → C g2 j) → (∀ r : Nat, (r : Int) < A 2 → frm ≤ (r : Int) → (r : Int) < k → f r = q → ∀ q' : Nat, asked A (q' : Int) (r : Int) → hb (g2 o 9) (q' : Int)) → aw_Left_improve_64 (d + 1) Y o frm i q k g2 (am_qI fun v h1 => lcF h h1 o ∧ lcD h1 o A ∧ lcQ h1 o A mo f n0 frm v)) (A 2) ?_ ?_
          · intro k hk g2 k0 B2 iQ eq cl2 own
            refine ab_Left_improve_64 hY ?_
            rw [B2.2.2.2.1.2 0 (by omega) (by omega), s.1]
            refine ⟨fun _ => ⟨by unfold am_ri; omega, ih g2 (by omega) (by omega) B2 fun j hj hjQ => ?_⟩, fun z => by omega⟩
            by_cases e : (j : Int) = i
            · have ej : j = i.toNat := by omega
              rw [ej]
              show lCnt f (g2 (o + 6) i.toNat) (A 2).toNat = mo ∧ ∀ r : Nat, (r : Int) < A 2 → frm ≤ (r : Int) → f r = g2 (o + 6) i.toNat → ∀ q : Nat, asked A (q : Int) (r : Int) → hb (g2 o 9) (q : Int)
              rw [eq]
              exact ⟨by omega, fun r hr hr2 fr q' hq' => own r hr hr2 (by omega) fr q' hq'⟩
            · exact cl2 j (by omega) hjQ
          · intro k hk kh g2 k0 B2 iQ eq cl2 own
            have kk : ((k.toNat : Nat) : Int) = k := by omega
            refine ab_Left_improve_64 hY ?_
            rw [B2.2.2.2.1.2 0 (by omega) (by omega), s.1, B2.2.1]
            refine ⟨fun z => by omega, fun _ => ⟨by omega, fun fk => ⟨by unfold am_ri; omega, kh g2 (by omega) B2 iQ eq cl2 fun r hr hr2 hr3 fr q' hq' => ?_⟩, fun fk => ?_⟩⟩
            · by_cases e : (r : Int) = k
              · exact absurd (by rw [show k.toNat = r from by omega]; exact fr) fk
              · exact own r hr hr2 (by omega) fr q' hq'
            · have rc := ac_L_reach (d := 0) (r := k.toNat) hY (s.but B2.2.2.2.1) w B2.1 (by omega) (Or.inr ⟨by omega, i.toNat, by omega, by rw [eq]; exact fk⟩)
              rw [kk] at rc
              refine am_kV.of rc (by omega) ?_
              rintro g3 - ⟨r3, own3⟩
              obtain ⟨B3, up3⟩ := grow g2 g3 B2 r3
              refine ⟨by unfold am_ri; omega, kh g3 (by omega) B3 (by have := r3.2.2.1; omega) (by rw [r3.2.2.2.1 i.toNat (by omega)]; exact eq) (fun j hj hjQ => up3 j (by omega) (cl2 j hj (by omega))) fun r hr hr2 hr3 fr q' hq' => ?_⟩
              by_cases e : (r : Int) = k
              · rw [e] at hq'
                exact own3 q' hq'
              · exact r3.2.1 q' (by have := hq'.1; omega) (own r hr hr2 (by omega) fr q' hq')
        exact lq2 frm g (Int.le_refl _) Bg hiQ hq cl fun r hr hr2 hr3 => by omega
      · have sh := ac_L_shift (d := 0) (i0 := i.toNat) hY w c3 (by rw [c2]; exact c1) (by rw [c2]; exact hf) hn (by omega)
        rw [hq, c2] at sh
        refine am_kV.of sh (by omega) ?_
        rintro g3 - ⟨m3, d3, f3, l3⟩
        rw [am_qI_s]
        refine ⟨c4.trans f3, d3, Or.inl ⟨rfl, m3, fun x hx => ?_, fun p hp => ?_⟩⟩
        · rcases m3.2.2.2.2 x with e | e
          · rw [e]
            exact va.1 x hx
          · exact Or.inr e
        · rw [← d3 p hp, l3 p hp, c3 p hp, c2]
          have := va.2 p hp
          by_cases e : (p : Int) = q
          · rw [if_pos e, e]
            omega
          · rw [if_neg e]
            omega
  exact lp 0 h3 (by omega) (by omega) B3 fun j hj => by omega
theorem ac_L_improveAny (hY : am_at Y o am_L4) (s : lcS h o A mo) (w : wV A) (ld : lcD h o A) (va : lVal A mo (h (o + 1))) (hmo : 0 ≤ mo ∧ mo ≤ 9) (hfr : 0 ≤ frm) : am_cI am_Left_improveAny (d + 2) Y [.inr (.inr o), .inl frm] h (fun v h1 => lcF h h1 o ∧ lcD h1 o A ∧ ((v = 1 ∧ lVal A mo (h1 (o + 1)) ∧ (∃ n0 : Nat, frm ≤ (n0 : Int) ∧ (n0 : Int) < A 2 ∧ h (o + 1) n0 = -1 ∧ lcM A (h (o + 1)) (h1 (o + 1)) n0 frm)) ∨ (v = 0 ∧ h1 (o + 1) = h (o + 1) ∧ ∃ U, lCert A mo (fun i => frm ≤ (i : Int)) (fun _ => True) (h (o + 1)) U))) := by
  have w2 := wr_2 w.1
  generalize hfe : h (o + 1) = f at va
  refine am_Met.of (by decide) rfl (Nat.le_of_ble_eq_true rfl) (ab_Left_improveAny_0 hY ?_)
  have lp : ∀ n : Int, ∀ g : am_H, frm ≤ n → lcF h g o → lcD g o A → g (o + 1) = f → (∃ U, lCert A mo (fun i => frm ≤ (i : Int)) (fun i => (i : Int) < n) f U) → aw_Left_improveAny_2 (d + 2) Y o frm n g (am_qI fun v h1 => lcF h h1 o ∧ lcD h1 o A ∧ ((v = 1 ∧ lVal A mo (h1 (o + 1)) ∧ (∃ n0 : Nat, frm ≤ (n0 : Int) ∧ (n0 : Int) < A 2 ∧ f n0 = -1 ∧ lcM A f (h1 (o + 1)) n0 frm)) ∨ (v = 0 ∧ h1 (o + 1) = f ∧ ∃ U, lCert A mo (fun i => frm ≤ (i : Int)) (fun _ => True) f U))) := by
    refine am_up (fun n => ∀ g : am_H, frm ≤ n → lcF h g o → lcD g o A → g (o + 1) = f → (∃ U, lCert A mo (fun i => frm ≤ (i : Int)) (fun i => (i : Int) < n) f U) → aw_Left_improveAny_2 (d + 2) Y o frm n g (am_qI fun v h1 => lcF h h1 o ∧ lcD h1 o A ∧ ((v = 1 ∧ lVal A mo (h1 (o + 1)) ∧ (∃ n0 : Nat, frm ≤ (n0 : Int) ∧ (n0 : Int) < A 2 ∧ f n0 = -1 ∧ lcM A f (h1 (o + 1)) n0 frm)) ∨ (v = 0 ∧ h1 (o + 1) = f ∧ ∃ U, lCert A mo (fun i => frm ≤ (i : Int)) (fun _ => True) f U)))) (A 2) ?_ ?_
    · rintro n hn g n0 f1 d1 e1 ⟨U, cU⟩
      refine ab_Left_improveAny_2 hY ?_
      rw [f1.2 0 (by omega) (by omega), s.1]
      refine ⟨fun _ => ?_, fun z => by omega⟩
      rw [am_qI_s]
      exact ⟨f1, d1, Or.inr ⟨rfl, e1, U, cU.sub fun i hi _ _ _ => by omega⟩⟩
    · rintro n hn nh g n0 f1 d1 e1 ⟨U, cU⟩
      have nn : ((n.toNat : Nat) : Int) = n := by omega
      refine ab_Left_improveAny_2 hY ?_
      rw [f1.2 0 (by omega) (by omega), s.1, e1]
      refine ⟨fun z => by omega, fun _ => ⟨by omega, fun fn => ⟨by unfold am_ri; omega, nh g (by omega) f1 d1 e1 ⟨U, cU.sub fun i hi _ fi di => ?_⟩⟩, fun fn => ?_⟩⟩
      · by_cases e : i = n.toNat
        · rw [e] at fi
          omega
        · omega
      · have fn1 : f n.toNat = -1 := by
          rcases va.rg w (i := n.toNat) (by omega) with q | q
          · exact q
          · omega
        have im := ac_L_improve (d := 0) (n0 := n.toNat) (frm := frm) hY (s.but f1) w d1 (by rw [e1]; exact va) hmo (by omega) (by rw [e1]; exact fn1) hfr
        rw [nn, e1] at im
        refine am_kI.of im (by omega) ?_
        rintro v g2 - - ⟨f2, d2, q2⟩
        refine ⟨fun v0 => ⟨by unfold am_ri; omega, ?_⟩, fun v1 => ?_⟩
        · rcases q2 with ⟨z, -⟩ | ⟨-, e2, T, t1, t2, t3⟩
          · omega
          refine nh g2 (by omega) (f1.trans f2) d2 e2 ⟨fun p => U p ∨ T p, ?_⟩
          have add := cert_add (T := T) (n := n.toNat) cU t1 (fun i hi fi f0 t q hq => t2 i hi fi f0 t q hq) t3
          exact add.sub fun i hi _ _ di => by
            by_cases e : i = n.toNat
            · exact Or.inr e
            · exact Or.inl (by omega)
        · rcases q2 with ⟨-, m2, v2⟩ | ⟨z, -⟩
          case inr => exact absurd z v1
          rw [am_qI_s]
          exact ⟨f1.trans f2, d2, Or.inl ⟨rfl, v2, n.toNat, by omega, by omega, fn1, m2⟩⟩
  exact lp frm h (Int.le_refl _) lcF.refl ld hfe ⟨fun _ => False, cert_0.sub fun i hi fi _ di => by omega⟩
end
