/-! contracts: the class's book, as it is judged line by line, beside the reference's -/
def nO (R : Nat → Int) (n : Nat) : Nat := (6 * R (225 + 2 * n) + R (226 + 2 * n)).toNat
def bkR (h : am_H) (b : Nat) (R : Nat → Int) (J : am_H) (i : Nat) (y : Int) : Prop :=
  (h b 0 = i ∧ h b 2 = J 0 0 ∧ h b 3 = J 0 1) ∧ (∀ j, j < i → h (b + 1) j = J 7 j) ∧
  (∀ p, p < 8 → h (b + 2) p = J 4 p ∧ h (b + 3) p = J 5 p ∧ h (b + 4) p = J 6 p) ∧
  (∀ p : Nat, p < 8 → R 1 ≤ p → J 4 p = 0 ∧ J 5 p = 0 ∧ J 6 p = 0) ∧ sm (J 6) 8 = J 0 2 ∧
  ((∀ n : Nat, (n : Int) < R 2 → (h (b + 8) n = -1 ∧ J 3 (nO R n) = 0) ∨ (0 ≤ h (b + 8) n ∧ h (b + 8) n < 8 ∧ J 3 (nO R n) = am_shl 1 (h (b + 8) n))) ∧
    ∀ q k : Nat, q < 8 → k < 6 → (∀ n : Nat, (n : Int) < R 2 → ¬ (R (225 + 2 * n) = q ∧ R (226 + 2 * n) = k)) → J 3 (6 * q + k) = 0) ∧
  bdR h (b + 5) R J y ∧ (∀ p n : Nat, p < 8 → R 1 ≤ p → n < 48 → h (b + 7) (48 * p + n) = -1) ∧ J 0 4 = y ∧ jBd J (384 * y) ∧ 0 ≤ y ∧ y ≤ 99
def bkF (h h1 : am_H) (b : Nat) : Prop := (∀ q, (q < b ∨ b + 9 ≤ q) → h1 q = h q) ∧ h1 b 1 = h b 1
theorem bkF.trans {h h1 h2 : am_H} {b : Nat} (a : bkF h h1 b) (c : bkF h1 h2 b) : bkF h h2 b := ⟨fun q hq => (c.1 q hq).trans (a.1 q hq), c.2.trans a.2⟩
theorem bkF.refl {h : am_H} {b : Nat} : bkF h h b := ⟨fun _ _ => rfl, rfl⟩
theorem bkF.u {h h1 : am_H} {b q j : Nat} {x : Int} (e : h1 = am_u h q j x) (hq : b ≤ q ∧ q < b + 9) (hj : q = b → j ≠ 1) : bkF h h1 b := by
  subst e
  refine ⟨fun z hz => am_u_n _ _ _ _ z (by omega), ?_⟩
  by_cases e : q = b
  · subst e; exact am_u_j (Ne.symm (hj rfl))
  · exact am_u_o (Ne.symm e)
theorem sh_t : ∀ p : Fin 8, am_shl 1 (p.val : Int) ≠ 0 ∧ (∀ q : Fin 8, (hb (am_shl 1 (p.val : Int)) (q.val : Int) ↔ q = p)) ∧ ∀ q : Fin 8, ¬ hb 0 (q.val : Int) := by decide +kernel
theorem sh_ne {p : Int} (hp : 0 ≤ p ∧ p < 8) : am_shl 1 p ≠ 0 := by
  have := (sh_t ⟨p.toNat, by omega⟩).1
  simp only [show ((p.toNat : Nat) : Int) = p by omega] at this
  exact this
theorem sh_hb {p q : Int} (hp : 0 ≤ p ∧ p < 8) (hq : 0 ≤ q ∧ q < 8) : hb (am_shl 1 p) q ↔ q = p := by
  have := (sh_t ⟨p.toNat, by omega⟩).2.1 ⟨q.toNat, by omega⟩
  simp only [show ((p.toNat : Nat) : Int) = p by omega, show ((q.toNat : Nat) : Int) = q by omega, Fin.mk.injEq] at this
  rw [this]
  omega
theorem sh_0 {q : Int} (hq : 0 ≤ q ∧ q < 8) : ¬ hb 0 q := by
  have := (sh_t 0).2.2 ⟨q.toNat, by omega⟩
  simp only [show ((q.toNat : Nat) : Int) = q by omega] at this
  exact this
theorem wr_35 {R : Nat → Int} (w : wr R) {i : Nat} (hi : i < 48) : 0 ≤ R (35 + i) ∧ R (35 + i) ≤ 99 := by
  have := w (35 + i) (by omega)
  rw [(w_99 (by omega)).1, (w_99 (by omega)).2] at this
  exact this
theorem wr_2 {R : Nat → Int} (w : wr R) : 0 ≤ R 2 ∧ R 2 ≤ 48 := w 2 (by omega)
theorem wr_3 {R : Nat → Int} (w : wr R) : 1 ≤ R 3 ∧ R 3 ≤ 9 := w 3 (by omega)
theorem nO_n {R : Nat → Int} (c : co R (R 1)) (hz : rz R) {n : Nat} (hn : (n : Int) < R 2) : nO R n = 6 * (nA R n).toNat + (nB R n).toNat ∧ nO R n < 48 := by
  have := need_rg c hz hn
  simp only [nA, nB] at this ⊢
  unfold nO
  omega
theorem nO_inj {R : Nat → Int} (c : co R (R 1)) (hz : rz R) {n n' : Nat} (hn : (n : Int) < R 2) (hn' : (n' : Int) < R 2) (e : nO R n = nO R n') : n = n' := by
  refine (nb_inj (p := 0) (p' := 0) c hz hn hn' ?_).2
  rw [nb_n c hz hn, nb_n c hz hn']
  have := nO_n c hz hn
  have := nO_n c hz hn'
  omega
section
variable {d : Nat} {Y : am_Y} {h : am_H} {b v : Nat} {R N : Nat → Int} {J : am_H} {i : Nat} {y : Int} {Q : Option am_V → am_H → Prop}
/-- is this a need? -/
theorem nofK {p k : Int} {K : Int → am_H → Prop} (hYv : am_at Y v am_L9) (c : vR h v (R 1) R N) (hV : wV R) (hp : 0 ≤ p ∧ p < R 1) (hk : 0 ≤ k ∧ k < R 0) (hd : 0 < d) (hK : ∀ r : Int, (r = -1 ∧ (∀ n : Nat, (n : Int) < R 2 → ¬ (R (225 + 2 * n) = p ∧ R (226 + 2 * n) = k)) ∧ ¬ hb (R (85 + p).toNat) k) ∨ (∃ n : Nat, r = n ∧ (n : Int) < R 2 ∧ R (225 + 2 * n) = p ∧ R (226 + 2 * n) = k ∧ hb (R (85 + p).toNat) k) → K r h) : am_kI am_Village_needOf d Y [.inr (.inr v), .inl p, .inl k] h K := by
  have hz := hV.1.z
  unfold rz at hz
  refine am_kI.of (ac_needOf (d := 0) hYv (c.o1 hV.1 ⟨by omega, by omega⟩)) hd ?_
  rintro r h1 - - ⟨rfl, hl⟩
  have hh := c.nof hV.2 ⟨hp.1, by omega⟩ ⟨hk.1, by omega⟩ hl
  refine hK r ?_
  obtain ⟨⟨-, -, c3, -⟩, -, -, -, -, cE, -⟩ := c
  rw [c3] at hl
  rcases hl with ⟨e, hn⟩ | ⟨n, e, hn, hP, -⟩
  · refine Or.inl ⟨e, fun n a z => ?_, fun z => by have := hh.mpr z; omega⟩
    have := cE n a
    exact hn n (by omega) ⟨by omega, by omega⟩
  · have := cE n (by omega)
    exact Or.inr ⟨n, e, by omega, by omega, by omega, hh.mp (by omega)⟩
theorem canK {p k : Int} {K : Int → am_H → Prop} (hYv : am_at Y v am_L9) (c : vR h v (R 1) R N) (hV : wV R) (hp : 0 ≤ p ∧ p < R 1) (hk : 0 ≤ k ∧ k < R 0) (hd : 1 < d) (hK : K (if R (35 + 6 * p + k).toNat = 0 then 0 else 1) h) : am_kI am_Village_can d Y [.inr (.inr v), .inl p, .inl k] h K := by
  have hz := hV.1.z
  unfold rz at hz
  refine am_kI.of (ac_can (d := 0) hYv (c.o1 hV.1 ⟨by omega, by omega⟩)) hd ?_
  rintro r h1 - - ⟨rfl, rfl⟩
  rw [c.p1 hp (by omega) hk (by omega)]
  have := wr_35 hV.1 (i := (6 * p + k).toNat) (by omega)
  rw [show 35 + (6 * p + k).toNat = (35 + 6 * p + k).toNat by omega] at this
  by_cases e : R (35 + 6 * p + k).toNat = 0
  · rw [if_pos e] at hK
    rw [if_neg (by omega)]
    exact hK
  · rw [if_neg e] at hK
    rw [if_pos (by omega)]
    exact hK
theorem painsOfK {p k : Int} {K : Int → am_H → Prop} (hYv : am_at Y v am_L9) (c : vR h v (R 1) R N) (hV : wV R) (hp : 0 ≤ p ∧ p < R 1) (hk : 0 ≤ k ∧ k < R 0) (hd : 0 < d) (hK : K (R (35 + 6 * p + k).toNat) h) : am_kI am_Village_painsOf d Y [.inr (.inr v), .inl p, .inl k] h K := by
  have hz := hV.1.z
  unfold rz at hz
  refine am_kI.of (ac_painsOf (d := 0) hYv (c.o1 hV.1 ⟨by omega, by omega⟩)) hd ?_
  rintro r h1 - - ⟨rfl, rfl⟩
  rw [c.p1 hp (by omega) hk (by omega)]
  exact hK
/-- a cell of those who helped and what they gained, both sides -/
theorem bkR.lines (c : bkR h b R J i y) : bkR h b R (am_u J 7 i 0) i y := by
  obtain ⟨⟨c1, c2, c3⟩, c4, c5, c6, c7, c8, c9, cA, cB, cC, cD⟩ := c
  have e : ∀ z, z ≠ 7 → (am_u J 7 i 0) z = J z := fun z hz => am_u_n _ _ _ _ _ hz
  refine ⟨⟨c1, by rw [e 0 (by omega)]; exact c2, by rw [e 0 (by omega)]; exact c3⟩, fun j hj => ?_, ?_, ?_, ?_, ?_, c9.sameJ (e 1 (by omega)) (e 2 (by omega)) (e 8 (by omega)) (by rw [e 0 (by omega)]), cA, by rw [e 0 (by omega)]; exact cB, ?_, cD⟩
  · rw [am_u_j (by omega)]; exact c4 j hj
  · rw [e 4 (by omega), e 5 (by omega), e 6 (by omega)]; exact c5
  · rw [e 4 (by omega), e 5 (by omega), e 6 (by omega)]; exact c6
  · rw [e 6 (by omega), e 0 (by omega)]; exact c7
  · rw [e 3 (by omega)]; exact c8
  · unfold jBd
    rw [e 6 (by omega), e 0 (by omega)]; exact cC
theorem ac_tellHelp {w p q k g : Int} (hY : am_at Y b am_L2) (hYv : am_at Y v am_L9) (hd : v + 11 ≤ b ∨ b + 9 ≤ v) (cv : vR h v (R 1) R N) (hV : wV R) (c : bkR h b R J i y) (hw : w = 1 ∨ w = 2) (hp : 0 ≤ p ∧ p < R 1) (hq : 0 ≤ q ∧ q < R 1) (hk : 0 ≤ k ∧ k < R 0) (hg : g = 0 ∧ w = 1 ∨ g = 1 ∧ w = 2) :
    am_cI am_Book_tellHelp (d + 2) Y [.inr (.inr b), .inr (.inr v), .inl p, .inl q, .inl k, .inl g] h (fun x h1 => x = (jL R J w p q k).1 ∧ bkR h1 b R (jL R J w p q k).2 i y ∧ bkF h h1 b) := by
  have hz := hV.1.z
  have hz' := hz
  unfold rz at hz'
  have hco := hV.2
  have eL : jL R J w p q k = if R (35 + 6 * p + k).toNat = 0 then (1, J) else if ¬ hb (R (85 + q).toNat) k then (2, J) else if ¬ J 3 (6 * q + k).toNat = 0 then (3, J) else (0, jHelp R J (if w = 2 then R (11 + 2 * k).toNat else 0) p q k) := by
    unfold jL
    rw [if_pos (by omega)]
  have hG : (w = 1 → (if w = 2 then R (11 + 2 * k).toNat else 0) = 0) ∧ (w = 2 → (if w = 2 then R (11 + 2 * k).toNat else 0) = R (11 + 2 * k).toNat) := ⟨fun e => if_neg (by omega), fun e => if_pos e⟩
  generalize (if w = 2 then R (11 + 2 * k).toNat else 0) = G at eL hG
  refine am_Met.of (by decide) rfl (Nat.le_of_ble_eq_true rfl) (ab_Book_tellHelp_0 hY hYv (nofK hYv cv hV hq hk (by omega) fun r hr => canK hYv cv hV hp hk (by omega) ?_))
  by_cases c1 : R (35 + 6 * p + k).toNat = 0
  · rw [if_pos c1]
    refine ⟨fun z => absurd rfl z, fun _ => ?_⟩
    rw [am_qI_s, eL, if_pos c1]
    exact ⟨rfl, c, bkF.refl⟩
  · rw [if_neg c1]
    refine ⟨fun _ => ⟨fun r0 => ?_, fun r0 => ?_⟩, fun z => absurd z (by decide)⟩
    · obtain ⟨n, rfl, hn, nA', nB', hh⟩ : ∃ n : Nat, r = n ∧ (n : Int) < R 2 ∧ R (225 + 2 * n) = q ∧ R (226 + 2 * n) = k ∧ hb (R (85 + q).toNat) k := by
        rcases hr with ⟨e, -⟩ | e
        · omega
        · exact e
      clear hr
      have h2 := wr_2 hV.1
      have eO : nO R n = (6 * q + k).toNat := by unfold nO; rw [nA', nB']
      obtain ⟨⟨k1, k2, k3⟩, k4, k5, k6, k7, k8, k9, kA, kB, kC, kD⟩ := c
      refine ⟨⟨by omega, by omega⟩, ?_⟩
      rw [Int.toNat_natCast]
      refine ⟨fun c2 => ⟨⟨by omega, by omega⟩, fun h5 e5 => ⟨by omega, by omega, fun h6 e6 => ⟨by omega, ?_⟩⟩⟩, fun c2 => ?_⟩
      · have d3 : J 3 (6 * q + k).toNat = 0 := by
          rcases k8.1 n hn with w | w
          · rw [← eO]; exact w.2
          · omega
        have s6 : ∀ z, z ≠ b + 8 → z ≠ b + 3 → h6 z = h z := fun z z8 z3 => by rw [e6, am_u_n _ _ _ _ z z3, e5, am_u_n _ _ _ _ z z8]
        have v6 : vR h6 v (R 1) R N := cv.but fun z a b => s6 z (by omega) (by omega)
        refine painsOfK hYv v6 hV hp hk (by omega) ?_
        have F6 : bkF h h6 b := (bkF.u e5 (by omega) (by omega)).trans (bkF.u e6 (by omega) (by omega))
        -- the end, for both ways
        have fin : ∀ (a : Int) (h9 : am_H), a = G → h9 = am_u h6 (b + 2) p.toNat (am_w (h6 (b + 2) p.toNat - am_w (R (35 + 6 * p + k).toNat + a))) → ((0 : Int) ≤ q ∧ q < 8) ∧ (((0 : Int) ≤ k ∧ k < 6) ∧ (((0 : Int) ≤ q ∧ q < 8) ∧ (∀ h10 : am_H, h10 = am_u h9 (b + 2) q.toNat (am_w (h9 (b + 2) q.toNat + h9 (v + 2) k.toNat)) → am_qI (fun x h1 => x = (jL R J w p q k).1 ∧ bkR h1 b R (jL R J w p q k).2 i y ∧ bkF h h1 b) (some (.inl 0)) h10))) := by
          intro a h9 ea e9
          refine ⟨by omega, by omega, by omega, fun h10 e10 => ?_⟩
          have s9 : ∀ z, z ≠ b + 2 → h9 z = h6 z := fun z hz => by rw [e9, am_u_n _ _ _ _ z hz]
          have ew : h9 (v + 2) k.toNat = R (10 + 2 * k).toNat := by
            rw [s9 _ (by omega)]
            have := (v6.2.1 k.toNat (by omega)).2.1
            rw [this]
            congr 1
            omega
          rw [ew] at e10
          rw [am_qI_s, eL, if_neg c1, if_neg (fun z => z hh), if_neg (fun z => z d3), ← ea]
          dsimp only
          refine ⟨rfl, ?_, F6.trans ((bkF.u e9 (by omega) (by omega)).trans (bkF.u e10 (by omega) (by omega)))⟩
          -- cell by cell
          have g2 : h6 (b + 2) = h (b + 2) := s6 _ (by omega) (by omega)
          have g3 : h6 (b + 3) = up (h (b + 3)) p.toNat (am_w (h (b + 3) p.toNat + 1)) := by rw [e6, am_u_up, e5, am_u_n _ _ _ _ _ (by omega)]
          have g8 : h6 (b + 8) = up (h (b + 8)) n p := by rw [e6, am_u_n _ _ _ _ _ (by omega), e5, am_u_up]
          have gg2 : h10 (b + 2) = up (up (h (b + 2)) p.toNat (am_w (h (b + 2) p.toNat - am_w (R (35 + 6 * p + k).toNat + a)))) q.toNat (am_w (up (h (b + 2)) p.toNat (am_w (h (b + 2) p.toNat - am_w (R (35 + 6 * p + k).toNat + a))) q.toNat + R (10 + 2 * k).toNat)) := by
            rw [e10, am_u_up, e9, am_u_up, g2]
          have gz : ∀ z, z ≠ b + 2 → h10 z = h6 z := fun z hz => by rw [e10, am_u_n _ _ _ _ z hz, s9 z hz]
          have j4 : (jHelp R J a p q k) 4 = up (up (J 4) p.toNat (am_w (J 4 p.toNat - am_w (R (35 + 6 * p + k).toNat + a)))) q.toNat (am_w (up (J 4) p.toNat (am_w (J 4 p.toNat - am_w (R (35 + 6 * p + k).toNat + a))) q.toNat + R (10 + 2 * k).toNat)) := by
            simp only [jHelp]
            rw [am_u_up, am_u_up, am_u_n _ _ _ _ _ (by omega), am_u_n _ _ _ _ _ (by omega)]
          have j5 : (jHelp R J a p q k) 5 = up (J 5) p.toNat (am_w (J 5 p.toNat + 1)) := by
            simp only [jHelp]
            rw [am_u_n _ _ _ _ _ (by omega), am_u_n _ _ _ _ _ (by omega), am_u_up, am_u_n _ _ _ _ _ (by omega)]
          have j3 : (jHelp R J a p q k) 3 = up (J 3) (6 * q + k).toNat (am_shl 1 p) := by
            simp only [jHelp]
            rw [am_u_n _ _ _ _ _ (by omega), am_u_n _ _ _ _ _ (by omega), am_u_n _ _ _ _ _ (by omega), am_u_up]
          have jz : ∀ z, z ≠ 3 → z ≠ 4 → z ≠ 5 → (jHelp R J a p q k) z = J z := fun z z3 z4 z5 => by
            simp only [jHelp]
            rw [am_u_n _ _ _ _ _ z4, am_u_n _ _ _ _ _ z4, am_u_n _ _ _ _ _ z5, am_u_n _ _ _ _ _ z3]
          have x4 : ∀ z, z < 8 → h (b + 2) z = J 4 z := fun z hz => (k5 z hz).1
          refine ⟨by rw [gz b (by omega), s6 b (by omega) (by omega), jz 0 (by omega) (by omega) (by omega)]; exact ⟨k1, k2, k3⟩, fun j hj => ?_, fun z hz => ?_, fun z hz hz2 => ?_, ?_, ⟨fun n' hn' => ?_, fun q' k' hq' hk' hno => ?_⟩, ?_, fun p' n' hp' h1p hn' => ?_, by rw [jz 0 (by omega) (by omega) (by omega)]; exact kB, ?_, kD⟩
          · rw [gz _ (by omega), s6 _ (by omega) (by omega), jz 7 (by omega) (by omega) (by omega)]
            exact k4 j hj
          · rw [gg2, j4, gz _ (by omega), g3, j5, gz _ (by omega), s6 _ (by omega) (by omega), jz 6 (by omega) (by omega) (by omega)]
            refine ⟨?_, ?_, (k5 z hz).2.2⟩
            · unfold up
              rw [x4 z hz, x4 p.toNat (by omega), x4 q.toNat (by omega)]
            · unfold up
              rw [(k5 z hz).2.1, (k5 p.toNat (by omega)).2.1]
          · rw [j4, j5, jz 6 (by omega) (by omega) (by omega), up_n (by omega), up_n (by omega), up_n (by omega)]
            exact k6 z hz hz2
          · rw [jz 6 (by omega) (by omega) (by omega), jz 0 (by omega) (by omega) (by omega)]
            exact k7
          · rw [gz _ (by omega), g8, j3, ← eO]
            by_cases e : n' = n
            · subst e
              rw [up_s, up_s]
              exact Or.inr ⟨by omega, by omega, rfl⟩
            · rw [up_n e, up_n (fun z => e (nO_inj hco hz hn' hn z))]
              exact k8.1 n' hn'
          · rw [j3, up_n, k8.2 q' k' hq' hk' hno]
            intro z
            exact hno n hn ⟨by omega, by omega⟩
          · refine (k9.but fun z a b => ?_).sameJ (jz 1 (by omega) (by omega) (by omega)) (jz 2 (by omega) (by omega) (by omega)) (jz 8 (by omega) (by omega) (by omega)) (by rw [jz 0 (by omega) (by omega) (by omega)])
            rw [gz z (by omega), s6 z (by omega) (by omega)]
          · rw [gz _ (by omega), s6 _ (by omega) (by omega)]
            exact kA p' n' hp' h1p hn'
          · unfold jBd
            rw [jz 6 (by omega) (by omega) (by omega), jz 0 (by omega) (by omega) (by omega)]
            exact kC
        refine ⟨fun cg => ⟨by omega, fun h9 e9 => fin 0 h9 (hG.1 (by omega)).symm e9⟩, fun cg => ⟨by omega, by omega, fun h9 e9 => ?_⟩⟩
        have eh : h6 (v + 3) k.toNat = R (11 + 2 * k).toNat := by
          have := (v6.2.1 k.toNat (by omega)).2.2
          rw [this]
          congr 1
          omega
        rw [eh] at e9
        exact fin _ h9 (hG.2 (by omega)).symm e9
      · rw [am_qI_s, eL, if_neg c1, if_neg (fun z => z hh), if_pos]
        · exact ⟨rfl, ⟨⟨k1, k2, k3⟩, k4, k5, k6, k7, k8, k9, kA, kB, kC, kD⟩, bkF.refl⟩
        · rcases k8.1 n hn with w | w
          · exact absurd w.1 c2
          · rw [← eO, w.2.2]
            exact sh_ne ⟨w.1, w.2.1⟩
    · rw [am_qI_s, eL, if_neg c1, if_pos]
      · exact ⟨rfl, c, bkF.refl⟩
      · rcases hr with e | ⟨n, e, -⟩
        · exact e.2.2
        · omega
end
