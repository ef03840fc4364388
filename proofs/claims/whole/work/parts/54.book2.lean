/-! contracts: the class's book: thanks, leaving, lines, years -/
section
variable {d : Nat} {Y : am_Y} {h : am_H} {b v : Nat} {R N : Nat → Int} {J : am_H} {i : Nat} {y : Int} {Q : Option am_V → am_H → Prop}
theorem jThk_c (R : Nat → Int) (J : am_H) (p q k : Int) : (∀ z, z ≠ 0 → z ≠ 1 → z ≠ 2 → z ≠ 8 → jThk R J p q k z = J z) ∧ jThk R J p q k 8 = up (J 8) (jb q p k) (if ¬ J 8 (jb q p k) = 0 ∨ J 1 (jb q p k) ≤ J 0 4 ∧ J 0 4 ≤ J 2 (jb q p k) then 1 else 0) ∧ jThk R J p q k 1 = up (J 1) (jb q p k) (J 0 4 + 1) ∧ jThk R J p q k 2 = up (J 2) (jb q p k) (J 0 4 + R 3) ∧ jThk R J p q k 0 3 = am_or (J 0 3) (am_shl 1 q) ∧ jThk R J p q k 0 1 = (if hb (J 3 (6 * p + k).toNat) q then J 0 1 else am_w (J 0 1 + 1)) ∧ ∀ z, z ≠ 1 → z ≠ 3 → jThk R J p q k 0 z = J 0 z := by
  have hA : (∀ z, z ≠ 0 → jAst J (6 * p + k).toNat q z = J z) ∧ jAst J (6 * p + k).toNat q 0 1 = (if hb (J 3 (6 * p + k).toNat) q then J 0 1 else am_w (J 0 1 + 1)) ∧ ∀ z, z ≠ 1 → jAst J (6 * p + k).toNat q 0 z = J 0 z := by
    unfold jAst
    split
    · exact ⟨fun _ _ => rfl, rfl, fun _ _ => rfl⟩
    · exact ⟨fun z hz => am_u_n _ _ _ _ _ hz, am_u_s _ _ _ _, fun z hz => am_u_j hz⟩
  obtain ⟨a1, a2, a3⟩ := hA
  unfold jThk jDu
  generalize jAst J (6 * p + k).toNat q = J1 at a1 a2 a3
  unfold jThk2
  rw [a1 8 (by omega), a1 1 (by omega), a1 2 (by omega), a3 4 (by omega)]
  refine ⟨fun z z0 z1 z2 z8 => ?_, ?_, ?_, ?_, ?_, ?_, fun z z1 z3 => ?_⟩
  · rw [am_u_n _ _ _ _ _ z0, am_u_n _ _ _ _ _ z2, am_u_n _ _ _ _ _ z1, am_u_n _ _ _ _ _ z8, a1 z z0]
  · rw [am_u_n _ _ _ _ _ (by omega), am_u_n _ _ _ _ _ (by omega), am_u_n _ _ _ _ _ (by omega), am_u_up, a1 8 (by omega)]
  · rw [am_u_n _ _ _ _ _ (by omega), am_u_n _ _ _ _ _ (by omega), am_u_up, am_u_n _ _ _ _ _ (by omega), a1 1 (by omega)]
  · rw [am_u_n _ _ _ _ _ (by omega), am_u_up, am_u_n _ _ _ _ _ (by omega), am_u_n _ _ _ _ _ (by omega), a1 2 (by omega)]
  · rw [am_u_s, a3 3 (by omega)]
  · rw [am_u_j (by omega), am_u_n _ _ _ _ _ (by omega), am_u_n _ _ _ _ _ (by omega), am_u_n _ _ _ _ _ (by omega), a2]
  · rw [am_u_j z3, am_u_n _ _ _ _ _ (by omega), am_u_n _ _ _ _ _ (by omega), am_u_n _ _ _ _ _ (by omega), a3 z z1]
theorem ac_tellThanks {p q k : Int} (hY : am_at Y b am_L2) (hYv : am_at Y v am_L9) (hd : v + 11 ≤ b ∨ b + 9 ≤ v) (cv : vR h v (R 1) R N) (hV : wV R) (c : bkR h b R J i y) (hyr : h b 1 = y) (hp : 0 ≤ p ∧ p < R 1) (hq : 0 ≤ q ∧ q < R 1) (hk : 0 ≤ k ∧ k < R 0) :
    am_cI am_Book_tellThanks (d + 4) Y [.inr (.inr b), .inr (.inr v), .inl p, .inl q, .inl k] h (fun x h1 => x = (jL R J 3 p q k).1 ∧ bkR h1 b R (jL R J 3 p q k).2 i y ∧ bkF h h1 b) := by
  have hz := hV.1.z
  have hz' := hz
  unfold rz at hz'
  have hco := hV.2
  have h2 := wr_2 hV.1
  have h3 := wr_3 hV.1
  have hYb : am_at Y (b + 5) am_L1 := hY.sub 5 rfl
  have eL : jL R J 3 p q k = if J 3 (6 * p + k).toNat = 0 then (4, J) else if R (35 + 6 * q + k).toNat = 0 then (5, J) else if J 2 (jb q p k) < J 0 4 ∧ R (25 + q).toNat ≤ jCnt R J q (J 0 4) then (7, J) else (0, jThk R J p q k) := by
    unfold jL
    rw [if_neg (by omega), if_pos rfl]
  refine am_Met.rg fun hok _ => ?_
  refine am_Met.of (by decide) rfl (Nat.le_of_ble_eq_true rfl) (ab_Book_tellThanks_0 hY hYv (nofK hYv cv hV hp hk (by omega) fun r hr => ⟨fun r0 => ?_, fun r0 => ?_⟩))
  · -- no such need
    rcases hr with ⟨-, hno, -⟩ | ⟨n, e, -⟩
    · have z3 : J 3 (6 * p + k).toNat = 0 := by
        have := c.2.2.2.2.2.1.2 p.toNat k.toNat (by omega) (by omega) (fun n hn z => hno n hn ⟨by omega, by omega⟩)
        rw [show 6 * p.toNat + k.toNat = (6 * p + k).toNat by omega] at this
        exact this
      rw [am_qI_s, eL, if_pos z3]
      exact ⟨rfl, c, bkF.refl⟩
    · omega
  · obtain ⟨n, rfl, hn, nA', nB', hh⟩ : ∃ n : Nat, r = n ∧ (n : Int) < R 2 ∧ R (225 + 2 * n) = p ∧ R (226 + 2 * n) = k ∧ hb (R (85 + p).toNat) k := by
      rcases hr with ⟨e, -⟩ | e
      · omega
      · exact e
    clear hr
    have eO : nO R n = (6 * p + k).toNat := by unfold nO; rw [nA', nB']
    have eb : jb q p k = nb R q.toNat n := by
      unfold nb
      rw [nA', nB', show ((q.toNat : Nat) : Int) = q by omega]
    have ei : (q * 48 + (n : Int)).toNat = 48 * q.toNat + n := by omega
    have c' := c
    obtain ⟨⟨k1, k2, k3⟩, k4, k5, k6, k7, k8, k9, kA, kB, kC, kD⟩ := c'
    subst kB
    refine ⟨⟨by omega, by omega⟩, ?_⟩
    rw [Int.toNat_natCast]
    refine ⟨fun c4 => canK hYv cv hV hq hk (by omega) ?_, fun c4 => ?_⟩
    · have n4 : ¬ J 3 (6 * p + k).toNat = 0 := by
        rcases k8.1 n hn with w | w
        · exact absurd w.1 c4
        · rw [← eO, w.2.2]
          exact sh_ne ⟨w.1, w.2.1⟩
      have w8 : 0 ≤ h (b + 8) n ∧ h (b + 8) n < 8 ∧ J 3 (6 * p + k).toNat = am_shl 1 (h (b + 8) n) := by
        rw [← eO]
        rcases k8.1 n hn with w | w
        · exact absurd w.1 c4
        · exact w
      by_cases c5 : R (35 + 6 * q + k).toNat = 0
      · rw [if_pos c5]
        refine ⟨fun z => absurd rfl z, fun _ => ?_⟩
        rw [am_qI_s, eL, if_neg n4, if_pos c5]
        exact ⟨rfl, c, bkF.refl⟩
      · rw [if_neg c5]
        refine ⟨fun _ => isAboveK hYb hYv ⟨hq.1, by omega⟩ (by rw [cv.1.2.1]; exact hq.2) ⟨by omega, by omega⟩ (by omega) ?_, fun z => absurd z (by decide)⟩
        rw [hyr, ei]
        have el : h (v + 5) q.toNat = R (25 + q).toNat := by
          have := (cv.2.2.1 q.toNat (by omega)).2
          rw [this]
          congr 1
          omega
        have e2 : h (b + 5 + 2) (48 * q.toNat + n) = J 2 (jb q p k) := by rw [eb]; exact (k9.1 q.toNat n (by omega) hn).1
        have es : bdS h (b + 5) q.toNat (J 0 4) = jCnt R J q (J 0 4) := by
          rw [k9.standing hco hz h2 (by omega) kD.1, show ((q.toNat : Nat) : Int) = q by omega]
        rw [e2, el, es]
        by_cases c7 : J 2 (jb q p k) < J 0 4 ∧ R (25 + q).toNat ≤ jCnt R J q (J 0 4)
        · rw [if_pos c7]
          refine ⟨fun z => absurd z (by decide), fun _ => ?_⟩
          rw [am_qI_s, eL, if_neg n4, if_neg c5, if_pos c7]
          exact ⟨rfl, c, bkF.refl⟩
        · rw [if_neg c7]
          have eg : h v 4 = R 3 := cv.1.2.2.2.1
          rw [eg]
          refine ⟨fun _ => bindK hYb ⟨hq.1, by omega⟩ ⟨by omega, by omega⟩ ⟨kD.1, by omega, by omega, by omega⟩ (by rw [ei]; exact k9.made (by omega) (by omega)) (by omega) ?_, fun z => absurd rfl z⟩
          intro h7 B
          rw [ei] at B
          have F7 : ∀ z, z ≠ b + 5 → z ≠ b + 6 → z ≠ b + 7 → h7 z = h z := fun z z5 z6 z7 => B.2.2.2 z z5 z6 z7
          have E8 : h7 (b + 8) = h (b + 8) := F7 _ (by omega) (by omega) (by omega)
          have E0 : h7 b = h b := F7 _ (by omega) (by omega) (by omega)
          rw [E8, E0]
          obtain ⟨t1, t2, t3, t4, t5, t6, t7⟩ := jThk_c R J p q k
          have due := k9.due (p := q.toNat) (n := n) (by omega) hn rfl
          -- the end, for both ways
          have fin : ∀ (a : Int) (h8 : am_H), a = (if hb (J 3 (6 * p + k).toNat) q then J 0 1 else am_w (J 0 1 + 1)) → h8 = am_u h7 b 3 a → am_qI (fun x h1 => x = (jL R J 3 p q k).1 ∧ bkR h1 b R (jL R J 3 p q k).2 i (J 0 4) ∧ bkF h h1 b) (some (.inl 0)) h8 := by
            intro a h8 ea e8
            rw [am_qI_s, eL, if_neg n4, if_neg c5, if_neg c7]
            dsimp only
            have s8 : ∀ z, z ≠ b → h8 z = h7 z := fun z hz => by rw [e8, am_u_n _ _ _ _ z hz]
            have g8 : ∀ z, z ≠ 3 → h8 b z = h b z := fun z hz => by rw [e8, am_u_j hz, E0]
            refine ⟨rfl, ⟨⟨?_, ?_, ?_⟩, fun j hj => ?_, fun z hz => ?_, ?_, ?_, ⟨fun n' hn' => ?_, fun q' k' hq' hk' hno => ?_⟩, ?_, fun p' n' hp' h1p hn' => ?_, ?_, ?_, kD⟩, fun z hz => ?_, g8 1 (by omega)⟩
            · rw [g8 0 (by omega)]; exact k1
            · rw [g8 2 (by omega), t7 0 (by omega) (by omega)]; exact k2
            · rw [e8, am_u_s, t6, ea]
            · rw [s8 _ (by omega), F7 _ (by omega) (by omega) (by omega), t1 7 (by omega) (by omega) (by omega) (by omega)]
              exact k4 j hj
            · rw [s8 _ (by omega), s8 _ (by omega), s8 _ (by omega), F7 _ (by omega) (by omega) (by omega), F7 _ (by omega) (by omega) (by omega), F7 _ (by omega) (by omega) (by omega), t1 4 (by omega) (by omega) (by omega) (by omega), t1 5 (by omega) (by omega) (by omega) (by omega), t1 6 (by omega) (by omega) (by omega) (by omega)]
              exact k5 z hz
            · rw [t1 4 (by omega) (by omega) (by omega) (by omega), t1 5 (by omega) (by omega) (by omega) (by omega), t1 6 (by omega) (by omega) (by omega) (by omega)]
              exact k6
            · rw [t1 6 (by omega) (by omega) (by omega) (by omega), t7 2 (by omega) (by omega)]
              exact k7
            · rw [s8 _ (by omega), E8, t1 3 (by omega) (by omega) (by omega) (by omega)]
              exact k8.1 n' hn'
            · rw [t1 3 (by omega) (by omega) (by omega) (by omega)]
              exact k8.2 q' k' hq' hk' hno
            · have eq' : ((q.toNat : Nat) : Int) = q := by omega
              have B' : bdB h h7 (b + 5) (48 * q.toNat + n) ((q.toNat : Nat) : Int) (J 0 4) (R 3) := by rw [eq']; exact B
              refine (k9.bind (J' := jThk R J p q k) hco hz h2.2 (by omega) hn kD.1 h3.1 B' ?_ ?_ ?_ ?_).but (fun z a b => s8 z (by omega))
              · rw [t2, eb]
                simp only [due]
              · rw [t3, eb]
              · rw [t4, eb]
              · rw [t5, eq']
            · rw [s8 _ (by omega)]
              have : h7 (b + 5 + 2) = up (h (b + 5 + 2)) (48 * q.toNat + n) (J 0 4 + R 3) := B.2.1
              rw [show h7 (b + 7) = up (h (b + 7)) (48 * q.toNat + n) (J 0 4 + R 3) from this, up_n (by omega)]
              exact kA p' n' hp' h1p hn'
            · rw [t7 4 (by omega) (by omega)]
            · unfold jBd
              rw [t1 6 (by omega) (by omega) (by omega) (by omega), t7 2 (by omega) (by omega)]
              exact kC
            · rw [s8 z (by omega), F7 z (by omega) (by omega) (by omega)]
          refine ⟨⟨by omega, by omega⟩, ?_⟩
          have hbq : hb (J 3 (6 * p + k).toNat) q ↔ q = h (b + 8) n := by
            rw [w8.2.2]
            exact sh_hb ⟨w8.1, w8.2.1⟩ ⟨hq.1, by omega⟩
          rw [k3]
          have r3 : am_ri (J 0 1) := by
            rw [← k3]
            exact (hok b _ (hY 0 _ rfl) 3).1 (by decide)
          refine ⟨fun w h8 e8 => fin _ h8 ?_ e8, fun w h8 e8 => fin _ h8 ?_ e8⟩
          · rw [if_pos (hbq.mpr w.symm), Int.add_zero, am_w_of r3]
          · rw [if_neg (fun z => w (hbq.mp z).symm)]
    · rw [am_qI_s, eL, if_pos]
      · exact ⟨rfl, c, bkF.refl⟩
      · rw [← eO]
        rcases k8.1 n hn with w | w
        · exact w.2
        · omega
theorem jLv_c (R : Nat → Int) (J : am_H) (p q k : Int) : (∀ z, z ≠ 1 → z ≠ 2 → z ≠ 4 → z ≠ 8 → jLv R J p q k z = J z) ∧ jLv R J p q k 8 = up (J 8) (jb p q k) 0 ∧ jLv R J p q k 1 = up (J 1) (jb p q k) 0 ∧ jLv R J p q k 2 = up (J 2) (jb p q k) (-1) ∧ jLv R J p q k 4 = up (J 4) p.toNat (am_w (J 4 p.toNat - R 4)) := by
  simp only [jLv]
  refine ⟨fun z z1 z2 z4 z8 => ?_, ?_, ?_, ?_, ?_⟩
  · rw [am_u_n _ _ _ _ _ z4, am_u_n _ _ _ _ _ z8, am_u_n _ _ _ _ _ z1, am_u_n _ _ _ _ _ z2]
  · rw [am_u_n _ _ _ _ _ (by omega), am_u_up, am_u_n _ _ _ _ _ (by omega), am_u_n _ _ _ _ _ (by omega)]
  · rw [am_u_n _ _ _ _ _ (by omega), am_u_n _ _ _ _ _ (by omega), am_u_up, am_u_n _ _ _ _ _ (by omega)]
  · rw [am_u_n _ _ _ _ _ (by omega), am_u_n _ _ _ _ _ (by omega), am_u_n _ _ _ _ _ (by omega), am_u_up]
  · rw [am_u_up, am_u_n _ _ _ _ _ (by omega), am_u_n _ _ _ _ _ (by omega), am_u_n _ _ _ _ _ (by omega)]
theorem ac_tellLeaving {p q k : Int} (hY : am_at Y b am_L2) (hYv : am_at Y v am_L9) (hd : v + 11 ≤ b ∨ b + 9 ≤ v) (cv : vR h v (R 1) R N) (hV : wV R) (c : bkR h b R J i y) (hyr : h b 1 = y) (hp : 0 ≤ p ∧ p < R 1) (hq : 0 ≤ q ∧ q < R 1) (hk : 0 ≤ k ∧ k < R 0) :
    am_cI am_Book_tellLeaving (d + 4) Y [.inr (.inr b), .inr (.inr v), .inl p, .inl q, .inl k] h (fun x h1 => x = (jL R J 4 p q k).1 ∧ bkR h1 b R (jL R J 4 p q k).2 i y ∧ bkF h h1 b) := by
  have hz := hV.1.z
  have hz' := hz
  unfold rz at hz'
  have hco := hV.2
  have h2 := wr_2 hV.1
  have hYb : am_at Y (b + 5) am_L1 := hY.sub 5 rfl
  have eL : jL R J 4 p q k = if J 2 (jb p q k) < J 0 4 then (6, J) else (0, jLv R J p q k) := by
    unfold jL
    rw [if_neg (by omega), if_neg (by omega)]
  have c' := c
  obtain ⟨⟨k1, k2, k3⟩, k4, k5, k6, k7, k8, k9, kA, kB, kC, kD⟩ := c'
  subst kB
  refine am_Met.of (by decide) rfl (Nat.le_of_ble_eq_true rfl) (ab_Book_tellLeaving_0 hY hYv (nofK hYv cv hV hq hk (by omega) fun r hr => ⟨fun r0 => ?_, fun r0 => ?_⟩))
  · rcases hr with ⟨-, hno, -⟩ | ⟨n, e, -⟩
    · have z3 : J 2 (jb p q k) = -1 := by
        have := (k9.2.2.1 p.toNat q.toNat k.toNat (by omega) (by omega) (by omega) (fun n hn z => hno n hn ⟨by omega, by omega⟩)).1
        rw [show ((p.toNat : Nat) : Int) = p by omega, show ((q.toNat : Nat) : Int) = q by omega, show ((k.toNat : Nat) : Int) = k by omega] at this
        exact this
      rw [am_qI_s, eL, if_pos (by omega)]
      exact ⟨rfl, c, bkF.refl⟩
    · omega
  · obtain ⟨n, rfl, hn, nA', nB', hh⟩ : ∃ n : Nat, r = n ∧ (n : Int) < R 2 ∧ R (225 + 2 * n) = q ∧ R (226 + 2 * n) = k ∧ hb (R (85 + q).toNat) k := by
      rcases hr with ⟨e, -⟩ | e
      · omega
      · exact e
    clear hr
    have eb : jb p q k = nb R p.toNat n := by
      unfold nb
      rw [nA', nB', show ((p.toNat : Nat) : Int) = p by omega]
    have ei : (p * 48 + (n : Int)).toNat = 48 * p.toNat + n := by omega
    have e2 : h (b + 5 + 2) (48 * p.toNat + n) = J 2 (jb p q k) := by rw [eb]; exact (k9.1 p.toNat n (by omega) hn).1
    refine lastYearK hYb ⟨hp.1, by omega⟩ ⟨by omega, by omega⟩ (by omega) ?_
    rw [ei, e2, hyr]
    refine ⟨fun w => dropK hYb ⟨hp.1, by omega⟩ ⟨by omega, by omega⟩ (by omega) ?_, fun w => ?_⟩
    · intro h5 e5
      rw [ei] at e5
      refine ⟨⟨hp.1, by omega⟩, ⟨hp.1, by omega⟩, fun h6 e6 => ?_⟩
      rw [am_qI_s, eL, if_neg (by omega)]
      dsimp only
      obtain ⟨t1, t2, t3, t4, t5⟩ := jLv_c R J p q k
      have s5 : ∀ z, z ≠ b + 7 → h5 z = h z := fun z hz => by rw [e5, am_u_n _ _ _ _ z hz]
      have s6 : ∀ z, z ≠ b + 2 → h6 z = h5 z := fun z hz => by rw [e6, am_u_n _ _ _ _ z hz]
      have eo : h5 v 5 = R 4 := by rw [s5 _ (by omega)]; exact cv.1.2.2.2.2.1
      have g2 : h6 (b + 2) = up (h (b + 2)) p.toNat (am_w (h (b + 2) p.toNat - R 4)) := by rw [e6, am_u_up, eo, s5 _ (by omega)]
      refine ⟨rfl, ⟨⟨?_, ?_, ?_⟩, fun j hj => ?_, fun z hz => ?_, fun z hz hz2 => ?_, ?_, ⟨fun n' hn' => ?_, fun q' k' hq' hk' hno => ?_⟩, ?_, fun p' n' hp' h1p hn' => ?_, ?_, ?_, kD⟩, (bkF.u e5 (by omega) (by omega)).trans (bkF.u e6 (by omega) (by omega))⟩
      · rw [s6 _ (by omega), s5 _ (by omega)]; exact k1
      · rw [s6 _ (by omega), s5 _ (by omega), t1 0 (by omega) (by omega) (by omega) (by omega)]; exact k2
      · rw [s6 _ (by omega), s5 _ (by omega), t1 0 (by omega) (by omega) (by omega) (by omega)]; exact k3
      · rw [s6 _ (by omega), s5 _ (by omega), t1 7 (by omega) (by omega) (by omega) (by omega)]
        exact k4 j hj
      · rw [g2, t5, s6 _ (by omega), s5 _ (by omega), s6 _ (by omega), s5 _ (by omega), t1 5 (by omega) (by omega) (by omega) (by omega), t1 6 (by omega) (by omega) (by omega) (by omega)]
        refine ⟨?_, (k5 z hz).2⟩
        unfold up
        rw [(k5 z hz).1, (k5 p.toNat (by omega)).1]
      · rw [t5, t1 5 (by omega) (by omega) (by omega) (by omega), t1 6 (by omega) (by omega) (by omega) (by omega), up_n (by omega)]
        exact k6 z hz hz2
      · rw [t1 6 (by omega) (by omega) (by omega) (by omega), t1 0 (by omega) (by omega) (by omega) (by omega)]
        exact k7
      · rw [s6 _ (by omega), s5 _ (by omega), t1 3 (by omega) (by omega) (by omega) (by omega)]
        exact k8.1 n' hn'
      · rw [t1 3 (by omega) (by omega) (by omega) (by omega)]
        exact k8.2 q' k' hq' hk' hno
      · refine (k9.drop (h1 := h5) (J' := jLv R J p q k) hco hz h2.2 (by omega) hn kD.1 e5 ?_ ?_ ?_ ?_).but (fun z a b => s6 z (by omega))
        · rw [t2, eb]
        · rw [t3, eb]
        · rw [t4, eb]
        · rw [t1 0 (by omega) (by omega) (by omega) (by omega)]
      · rw [s6 _ (by omega), e5, am_u_up, up_n (by omega)]
        exact kA p' n' hp' h1p hn'
      · rw [t1 0 (by omega) (by omega) (by omega) (by omega)]
      · unfold jBd
        rw [t1 6 (by omega) (by omega) (by omega) (by omega), t1 0 (by omega) (by omega) (by omega) (by omega)]
        exact kC
    · rw [am_qI_s, eL, if_pos w]
      exact ⟨rfl, c, bkF.refl⟩
end
