/-! contracts: the class's reader of a person, of a line -/
theorem vR.up1 {h : am_H} {v : Nat} {P x : Int} {R N : Nat → Int} (c : vR h v P R N) : vR h v P (up R 1 x) N := by
  obtain ⟨⟨c1, c2, c3, c4, c5, c6⟩, cA, cB, cC, cD, cE, cZ, cN⟩ := c
  refine ⟨by rw [up_n (by omega), up_n (by omega), up_n (by omega), up_n (by omega), up_n (by omega)]; exact ⟨c1, c2, c3, c4, c5, c6⟩, fun k hk => ?_, fun p hp => ?_, fun i hi => ?_, fun i hi => ?_, fun n hn => ?_, ⟨fun p k hp hk hh => ?_, fun p q hp hq hh => ?_⟩, fun k p hk hp => ?_⟩
  · rw [up_n (by omega)] at hk
    rw [up_n (by omega), up_n (by omega)]
    exact cA k hk
  · rw [up_n (by omega)]
    exact cB p hp
  · rw [up_n (by omega)]
    exact cC i hi
  · rw [up_n (by omega), up_n (by omega)]
    exact cD i hi
  · rw [up_n (by omega)] at hn
    rw [up_n (by omega), up_n (by omega)]
    exact cE n hn
  · rw [up_n (by omega)] at hh
    rw [up_n (by omega)]
    exact cZ.1 p k hp hk hh
  · rw [up_n (by omega), up_n (by omega)]
    exact cZ.2 p q hp hq hh
  · rw [up_n (by omega)] at hk
    exact cN k p hk hp
theorem zer_in {R : Nat → Int} {a k i : Nat} (h : a ≤ i ∧ i < a + k) : zer R a k i = 0 := if_pos h
theorem zer_out {R : Nat → Int} {a k i : Nat} (h : ¬ (a ≤ i ∧ i < a + k)) : zer R a k i = R i := if_neg h
/-- a person is told -/
theorem vR.person {h h1 : am_H} {v : Nat} {P x w : Int} {R N : Nat → Int} (c : vR h v P R N) (hP : 0 ≤ P ∧ P < 8) (h0 : R 0 ≤ 6 ∧ R 2 ≤ 48) (hn : ∀ k : Nat, (k : Int) < R 0 → N k ≠ w) (f : ∀ j, j ≠ 0 → j ≠ 2 → h1 v j = h v j) (f2 : h1 v 2 = P + 1) (g4 : h1 (v + 4) = up (h (v + 4)) P.toNat w) (g5 : h1 (v + 5) = up (h (v + 5)) P.toNat x) (g : ∀ q, v + 1 ≤ q → q < v + 11 → q ≠ v + 4 → q ≠ v + 5 → h1 q = h q) :
    vR h1 v (P + 1) (zer (up (up R (25 + P).toNat x) (85 + P).toNat 0) (35 + 6 * P).toNat 6) (up N (6 + P).toNat w) := by
  obtain ⟨⟨c1, c2, c3, c4, c5, c6⟩, cA, cB, cC, cD, cE, cZ, cN⟩ := c
  generalize hR' : zer (up (up R (25 + P).toNat x) (85 + P).toNat 0) (35 + 6 * P).toNat 6 = R'
  have eR : ∀ i : Nat, (i : Int) ≠ 25 + P → (i : Int) ≠ 85 + P → ¬ (35 + 6 * P ≤ i ∧ (i : Int) < 35 + 6 * P + 6) → R' i = R i := fun i a b c => by rw [← hR', zer_out (by omega), up_n (by omega), up_n (by omega)]
  have e25 : R' (25 + P.toNat) = x := by rw [← hR', zer_out (by omega), up_n (by omega), show 25 + P.toNat = (25 + P).toNat by omega, up_s]
  have eZ : ∀ i : Nat, 35 + 6 * P ≤ i → (i : Int) < 35 + 6 * P + 6 → R' i = 0 := fun i a b => by rw [← hR', zer_in (by omega)]
  have e0 : R' 0 = R 0 := eR 0 (by omega) (by omega) (by omega)
  have e2 : R' 2 = R 2 := eR 2 (by omega) (by omega) (by omega)
  refine ⟨⟨by rw [f 1 (by omega) (by omega), c1, e0], f2, by rw [f 3 (by omega) (by omega), c3, e2], by rw [f 4 (by omega) (by omega), c4, eR 3 (by omega) (by omega) (by omega)], by rw [f 5 (by omega) (by omega), c5, eR 4 (by omega) (by omega) (by omega)], by rw [f 6 (by omega) (by omega), c6, eR 5 (by omega) (by omega) (by omega)]⟩, fun k hk => ?_, fun p hp => ?_, fun i hi => ?_, fun i hi => ?_, fun n hn => ?_, ⟨fun p k hp hk hh => ?_, fun p q hp hq hh => ?_⟩, fun k p hk hp => ?_⟩
  · rw [e0] at hk
    rw [g _ (by omega) (by omega) (by omega) (by omega), g _ (by omega) (by omega) (by omega) (by omega), g _ (by omega) (by omega) (by omega) (by omega), eR _ (by omega) (by omega) (by omega), eR _ (by omega) (by omega) (by omega), up_n (by omega)]
    exact cA k hk
  · rw [g4, g5]
    by_cases e : p = P.toNat
    · subst e
      rw [up_s, up_s, show 6 + P.toNat = (6 + P).toNat by omega, up_s, e25]
      exact ⟨rfl, rfl⟩
    · rw [up_n e, up_n e, up_n (by omega), eR _ (by omega) (by omega) (by omega)]
      exact cB p (by omega)
  · rw [g _ (by omega) (by omega) (by omega) (by omega)]
    by_cases e : 6 * P ≤ i ∧ (i : Int) < 6 * P + 6
    · rw [eZ _ (by omega) (by omega), cC i hi]
      have := cZ.1 P.toNat (i - 6 * P.toNat) (by omega) (by omega) (Or.inl (by omega))
      rw [show 35 + 6 * P.toNat + (i - 6 * P.toNat) = 35 + i by omega] at this
      exact this
    · rw [eR _ (by omega) (by omega) (by omega)]
      exact cC i hi
  · rw [g _ (by omega) (by omega) (by omega) (by omega), g _ (by omega) (by omega) (by omega) (by omega), eR _ (by omega) (by omega) (by omega), eR _ (by omega) (by omega) (by omega)]
    exact cD i hi
  · rw [e2] at hn
    rw [g _ (by omega) (by omega) (by omega) (by omega), g _ (by omega) (by omega) (by omega) (by omega), eR _ (by omega) (by omega) (by omega), eR _ (by omega) (by omega) (by omega)]
    exact cE n hn
  · rw [e0] at hh
    by_cases e : (p : Int) = P
    · exact eZ _ (by omega) (by omega)
    · rw [eR _ (by omega) (by omega) (by omega)]
      exact cZ.1 p k hp hk (by omega)
  · rw [eR _ (by omega) (by omega) (by omega), eR _ (by omega) (by omega) (by omega)]
    exact cZ.2 p q hp hq (by omega)
  · rw [e0] at hk
    rw [up_n (show k ≠ (6 + P).toNat by omega)]
    by_cases e : p = P.toNat
    · subst e
      rw [show 6 + P.toNat = (6 + P).toNat by omega, up_s]
      exact hn k hk
    · rw [up_n (by omega)]
      exact cN k p hk (by omega)
theorem pbd_sw {e : PE VS} {g : VS → VS} (hg : ∀ C, (g C).2 = C.2) : pbd (pbd e fun C => .inr (g C)) pSm = pbd (pbd e pSm) fun C => .inr (g C) := by
  cases e with
  | inl q => rfl
  | inr C =>
    show pSm (g C) = pbd (pSm C) _
    unfold pSm
    rw [hg]
    split <;> rfl
section
variable {d : Nat} {Y : am_Y} {h : am_H} {o : Nat} {S : VS} {p : Int}
theorem ac_readPerson (hY : am_at Y o am_L10) (hS : cS h o (S.1 1) S) (hV : wV S.1) (hk : (hd S.2.2).1 < 32) (hl : S.2.2.length ≤ 1000) : am_cI am_VillageText_readPerson (d + 6) Y [.inr (.inr o)] h (fun x h1 => cF h h1 o ∧ h1 o = h o ∧ tro h1 (o + 1) x (pbd (pPerson S) pSm) (fun S1 => cS h1 o (S1.1 1) S1)) := by
  have hYT : am_at Y (o + 1) am_L8 := hY.sub 1 rfl
  obtain ⟨ht, h4, hv, te⟩ := hS
  obtain ⟨w, hco⟩ := hV
  have hz := w.z
  have hz' := hz
  unfold rz at hz'
  have hv2 : h (o + 5) 2 = S.1 1 := hv.1.2.1
  refine am_Met.of (by decide) rfl (Nat.le_of_ble_eq_true rfl) (ab_VillageText_readPerson_0 hY ?_)
  rw [hv2]
  refine ⟨fun c => advK hYT ht (by omega) ?_, fun c => failK (k := 4) hYT ht h4 (by omega) (by rw [if_neg (by omega)]) ?_⟩
  · intro h1 t1 f1 j1
    have v1 := hv.but f1.v
    refine newNameK hY v1 hz t1 ((j1 4 (by omega) (by omega) (by omega) (by omega)).trans h4) (by omega) ?_
    intro x h2 f2 o2
    have ep : pPerson S = pbd (pNew (S.1, S.2.1, nx S.2.2) (6 + S.1 1)) fun A => pbd (pNum A 0 9 (25 + S.1 1)) fun B => pbd (pLoop 1000 (S.1 1) (zer (up B.1 (85 + S.1 1).toNat 0) (35 + 6 * S.1 1).toNat 6, B.2)) fun C => .inr (up C.1 1 (C.1 1 + 1), C.2) := by
      unfold pPerson
      rw [if_neg (by omega)]
    rw [pNew_w] at ep
    cases hA : pNw S.1 S.2.1 (nx S.2.2) with
    | inl q =>
      rw [hA] at o2 ep
      obtain ⟨rfl, e4, e5⟩ := o2
      refine ⟨fun z => absurd rfl z, fun _ => ?_⟩
      rw [am_qI_s, ep]
      exact ⟨f1.c.trans f2.c, by rw [f2 o (by omega), f1 o (by omega)], rfl, e4, e5⟩
    | inr u =>
      rw [hA] at o2 ep
      obtain ⟨rfl, e2⟩ := o2
      rw [e2]
      have nn := pNw_no hA
      refine ⟨fun _ => ⟨⟨by omega, by omega⟩, fun h5 e5 => ?_⟩, fun z => absurd z (by decide)⟩
      have v51 : h5 (o + 5) 2 = S.1 1 := by rw [e5, am_u_o (by omega)]; exact v1.1.2.1
      rw [v51]
      refine ⟨⟨by omega, by omega⟩, fun h6 e6 => ?_⟩
      have s6 : ∀ q, q ≠ o + 5 → q ≠ o + 9 → h6 q = h1 q := fun q a b => by rw [e6, am_u_n _ _ _ _ q a, e5, am_u_n _ _ _ _ q b]
      refine advK hYT (t1.of4 fun q a b => s6 q (by omega) (by omega)) (by omega) ?_
      intro h7 t7 f7 j7
      have h74 : h7 (o + 1) 4 = 0 := by rw [j7 4 (by omega) (by omega) (by omega) (by omega), s6 (o + 1) (by omega) (by omega), j1 4 (by omega) (by omega) (by omega) (by omega), h4]
      have F6 : cF h h6 o := f1.c.trans ((cF.u (h := h1) (o := o) (q := o + 9) (by omega) (by omega)).trans (e5 ▸ e6 ▸ cF.u (by omega) (by omega)))
      have F7 := F6.trans f7.c
      refine cnumK hYT t7 h74 (by omega) ?_
      intro x8 h8 f8 o8
      have F8 := F7.trans f8.c
      have O8 : h8 o = h o := by rw [f8 o (by omega), f7 o (by omega), s6 o (by omega) (by omega), f1 o (by omega)]
      cases hB : pN (nx (nx S.2.2)) 0 9 with
      | inl q =>
        rw [hB] at o8
        obtain ⟨rfl, e84, e85⟩ := o8
        refine ⟨fun z => absurd rfl z, fun _ => ?_⟩
        have ep2 : pPerson S = .inl q := by
          rw [ep]
          show pbd (pNum (S.1, up S.2.1 (6 + S.1 1).toNat (hd (nx S.2.2)).2.2, nx (nx S.2.2)) 0 9 (25 + S.1 1)) _ = _
          rw [pNum_l hB]
          rfl
        rw [am_qI_s, ep2]
        exact ⟨F8, O8, rfl, e84, e85⟩
      | inr B =>
        rw [hB] at o8
        obtain ⟨rfl, b3, t8, b4⟩ := o8
        refine ⟨fun _ => ⟨⟨by omega, by omega⟩, fun h9 e9 => ?_⟩, fun z => absurd z (by decide)⟩
        have pn := pN_r hB
        have s9 : ∀ q, q ≠ o + 10 → h9 q = h8 q := fun q a => by rw [e9, am_u_n _ _ _ _ q a]
        have F9 : cF h h9 o := F8.trans (e9 ▸ cF.u (by omega) (by omega))
        have G9 : h9 o = h o := by rw [s9 o (by omega), O8]
        have q2 : h1 (o + 1) 2 = (hd (nx S.2.2)).2.2 := t1.hd.2.2
        have e8 : ∀ q, o + 5 ≤ q → h8 q = h6 q := fun q a => by rw [f8 q (by omega), f7 q (by omega)]
        have e1 : ∀ q, o + 5 ≤ q → h1 q = h q := fun q a => f1 q (by omega)
        have bw := beg_w (v := B.1) hco w ⟨hz'.2.2.1, c⟩ ⟨pn.2.1, pn.2.2⟩
        have ep2 : pPerson S = pbd (pLoop 1000 (S.1 1) (zer (up (up S.1 (25 + S.1 1).toNat B.1) (85 + S.1 1).toNat 0) (35 + 6 * S.1 1).toNat 6, up S.2.1 (6 + S.1 1).toNat (hd (nx S.2.2)).2.2, B.2)) fun C => .inr (up C.1 1 (C.1 1 + 1), C.2) := by
          rw [ep]
          show pbd (pNum (S.1, up S.2.1 (6 + S.1 1).toNat (hd (nx S.2.2)).2.2, nx (nx S.2.2)) 0 9 (25 + S.1 1)) _ = _
          rw [pNum_r hB]
          rfl
        have l2 := nx_le (nx (nx S.2.2))
        have l1 := nx_le (nx S.2.2)
        have l0 := nx_le S.2.2
        have V9 : vR h9 (o + 5) (S.1 1 + 1) (zer (up (up S.1 (25 + S.1 1).toNat B.1) (85 + S.1 1).toNat 0) (35 + 6 * S.1 1).toNat 6) (up S.2.1 (6 + S.1 1).toNat (hd (nx S.2.2)).2.2) := by
          have h48 := (w 2 (by omega)).2
          refine vR.person (h := h) hv ⟨hz'.2.2.1, c⟩ ⟨hz'.2.1, h48⟩ (fun k hk => ?_) (fun j j0 j2 => ?_) ?_ ?_ ?_ (fun q a b a4 a5 => ?_)
          · have := (fnd_no S.2.1 (hd (nx S.2.2)).2.2 0 (S.1 0).toNat).mp nn.1 k (by omega)
            rw [Nat.zero_add] at this
            exact this
          · rw [s9 _ (by omega), e8 _ (by omega), e6, am_u_j j2, e5, am_u_n _ _ _ _ _ (by omega), e1 _ (by omega)]
          · rw [s9 _ (by omega), e8 _ (by omega), e6, am_u_s]
          · rw [s9 _ (by omega), e8 _ (by omega), e6, am_u_n _ _ _ _ _ (by omega), e5, am_u_up, e1 _ (by omega), q2]
          · rw [e9, am_u_up, e8 _ (by omega), s6 _ (by omega) (by omega), e1 _ (by omega), b3]
          · rw [s9 _ (by omega), e8 _ (by omega), s6 _ (by omega) (by omega), e1 _ (by omega)]
        have lp := loop110 (d := d) (h0 := h9) hY 1000 h9 (zer (up (up S.1 (25 + S.1 1).toNat B.1) (85 + S.1 1).toNat 0) (35 + 6 * S.1 1).toNat 6, up S.2.1 (6 + S.1 1).toNat (hd (nx S.2.2)).2.2, B.2) 0 (by simp only [pn.1]; omega) (by omega) (by omega) ⟨t8.of4 fun q a b => s9 q (by omega), by rw [s9 _ (by omega)]; exact b4, V9, by simp only [pn.1]; exact te.n1.n1.n1⟩ ⟨bw.1, bw.2.1, bw.2.2, hz'.2.2.1, c⟩ ⟨fun _ _ => rfl, rfl⟩ rfl
        refine am_wp.mono lp ?_
        rintro r h10 - - ⟨x, rfl, f10, g10, o10⟩
        rw [am_qI_s]
        refine ⟨F9.trans f10, g10.trans G9, ?_⟩
        rw [ep2, pbd_sw (g := fun C => (up C.1 1 (C.1 1 + 1), C.2)) (fun C => rfl)]
        cases hL : pbd (pLoop 1000 (S.1 1) (zer (up (up S.1 (25 + S.1 1).toNat B.1) (85 + S.1 1).toNat 0) (35 + 6 * S.1 1).toNat 6, up S.2.1 (6 + S.1 1).toNat (hd (nx S.2.2)).2.2, B.2)) pSm with
        | inl q =>
          rw [hL] at o10
          exact o10
        | inr C =>
          rw [hL] at o10
          obtain ⟨rfl, a1, a2, a3, a4⟩ := o10
          refine ⟨rfl, a1, a2, ?_, a4⟩
          have eC : C.1 1 = S.1 1 := by
            cases hL2 : pLoop 1000 (S.1 1) (zer (up (up S.1 (25 + S.1 1).toNat B.1) (85 + S.1 1).toNat 0) (35 + 6 * S.1 1).toNat 6, up S.2.1 (6 + S.1 1).toNat (hd (nx S.2.2)).2.2, B.2) with
            | inl q => rw [hL2] at hL; cases hL
            | inr D =>
              rw [hL2] at hL
              have inv := (pLoop_i 1000 _ _ ⟨bw.1, bw.2.1, bw.2.2, hz'.2.2.1, c⟩ hL2).1.2.2.1
              have hD : pSm D = .inr C := hL
              unfold pSm at hD
              split at hD
              · cases hD; exact inv
              · cases hD
          show vR h10 (o + 5) (up C.1 1 (C.1 1 + 1) 1) (up C.1 1 (C.1 1 + 1)) C.2.1
          rw [up_s, eC]
          exact a3.up1
  · intro h1 f1 e4 e5 _
    rw [am_qI_s]
    refine ⟨Or.inl rfl, f1.c, by rw [f1 o (by omega)], ?_⟩
    have : pPerson S = pb S.2.2 4 := by
      unfold pPerson
      rw [if_pos (by omega)]
    rw [this]
    exact ⟨rfl, e4, e5⟩
end
