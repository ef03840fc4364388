/-! contracts: the class's reader of a person -/
theorem vR.o1 {h : am_H} {v : Nat} {P : Int} {R N : Nat → Int} (c : vR h v P R N) (w : wr R) (hP : 0 ≤ P ∧ P ≤ 8) : vo h v := by
  obtain ⟨⟨c1, c2, c3, -⟩, -⟩ := c
  have w0 := w 0 (by omega)
  have w2 := w 2 (by omega)
  have e0 : wlo 0 = 0 ∧ whi 0 = 6 := by decide
  have e2 : wlo 2 = 0 ∧ whi 2 = 48 := by decide
  unfold vo
  rw [c1, c2, c3]
  omega
theorem vR.p1 {h : am_H} {v : Nat} {P p k : Int} {R N : Nat → Int} (c : vR h v P R N) (hp : 0 ≤ p ∧ p < P) (hP : P ≤ 8) (hk : 0 ≤ k ∧ k < R 0) (h0 : R 0 ≤ 6) : vp h v p k = R (35 + 6 * p + k).toNat := by
  obtain ⟨⟨c1, c2, -⟩, -, -, cC, -⟩ := c
  unfold vp
  rw [if_pos ⟨hp.1, by omega, hk.1, by omega⟩, cC _ (by omega)]
  congr 1
  omega
/-- a need is told -/
theorem vR.need {h h1 : am_H} {v : Nat} {P p k : Int} {R N : Nat → Int} (c : vR h v P R N) (h2 : 0 ≤ R 2 ∧ R 2 < 48) (h0 : R 0 ≤ 6 ∧ P ≤ 8) (hp : 0 ≤ p ∧ p < 8) (f : ∀ j, j ≠ 0 → j ≠ 3 → h1 v j = h v j) (f3 : h1 v 3 = R 2 + 1) (g9 : h1 (v + 9) = up (h (v + 9)) (R 2).toNat p) (g10 : h1 (v + 10) = up (h (v + 10)) (R 2).toNat k) (g : ∀ q, v + 1 ≤ q → q < v + 9 → h1 q = h q) : vR h1 v P (pNeed R p k) N := by
  obtain ⟨⟨c1, c2, c3, c4, c5, c6⟩, cA, cB, cC, cD, cE, cZ, cN⟩ := c
  have eR : ∀ i : Nat, i ≠ 2 → i < 85 ∨ 93 ≤ i → i < 225 → pNeed R p k i = R i := fun i i2 a b => pNeed_n h2 hp i2 (by omega) (by omega) (by omega)
  have eN : ∀ n : Nat, (n : Int) < R 2 → pNeed R p k (225 + 2 * n) = R (225 + 2 * n) ∧ pNeed R p k (226 + 2 * n) = R (226 + 2 * n) := fun n hn => ⟨pNeed_n h2 hp (by omega) (by omega) (by omega) (by omega), pNeed_n h2 hp (by omega) (by omega) (by omega) (by omega)⟩
  refine ⟨⟨by rw [f 1 (by omega) (by omega), c1, eR 0 (by omega) (by omega) (by omega)], by rw [f 2 (by omega) (by omega), c2], by rw [f3, pNeed_2], by rw [f 4 (by omega) (by omega), c4, eR 3 (by omega) (by omega) (by omega)], by rw [f 5 (by omega) (by omega), c5, eR 4 (by omega) (by omega) (by omega)], by rw [f 6 (by omega) (by omega), c6, eR 5 (by omega) (by omega) (by omega)]⟩, fun k hk => ?_, fun p hp => ?_, fun i hi => ?_, fun i hi => ?_, fun n hn => ?_, ⟨fun p k hp hk hh => ?_, fun p q hp hq hh => ?_⟩, fun k p hk hp => ?_⟩
  · rw [eR 0 (by omega) (by omega) (by omega)] at hk
    rw [g _ (by omega) (by omega), g _ (by omega) (by omega), g _ (by omega) (by omega), eR _ (by omega) (by omega) (by omega), eR _ (by omega) (by omega) (by omega)]
    exact cA k hk
  · rw [g _ (by omega) (by omega), g _ (by omega) (by omega), eR _ (by omega) (by omega) (by omega)]
    exact cB p hp
  · rw [g _ (by omega) (by omega), eR _ (by omega) (by omega) (by omega)]
    exact cC i hi
  · rw [g _ (by omega) (by omega), g _ (by omega) (by omega), eR _ (by omega) (by omega) (by omega), eR _ (by omega) (by omega) (by omega)]
    exact cD i hi
  · rw [pNeed_2] at hn
    rw [g9, g10]
    by_cases e : n = (R 2).toNat
    · subst e
      rw [up_s, up_s, pNeed_a h2, pNeed_b h2]
      exact ⟨rfl, rfl⟩
    · rw [up_n e, up_n e, (eN n (by omega)).1, (eN n (by omega)).2]
      exact cE n (by omega)
  · rw [eR 0 (by omega) (by omega) (by omega)] at hh
    rw [eR _ (by omega) (by omega) (by omega)]
    exact cZ.1 p k hp hk hh
  · rw [eR _ (by omega) (by omega) (by omega), eR _ (by omega) (by omega) (by omega)]
    exact cZ.2 p q hp hq hh
  · rw [eR 0 (by omega) (by omega) (by omega)] at hk
    exact cN k p hk hp
/-- is this need told? -/
theorem vR.nof {h : am_H} {v : Nat} {P p k r : Int} {R N : Nat → Int} (c : vR h v P R N) (hco : co R P) (hp : 0 ≤ p ∧ p < 8) (hk : 0 ≤ k ∧ k < 6) (hl : am_least (fun j => h (v + 9) j = p ∧ h (v + 10) j = k) (h v 3).toNat r) : (0 ≤ r ↔ hb (R (85 + p).toNat) k) := by
  obtain ⟨⟨-, -, c3, -⟩, -, -, -, -, cE, -⟩ := c
  have h3 := hco.2.2.1 p.toNat k.toNat (by omega) (by omega)
  rw [show 85 + p.toNat = (85 + p).toNat by omega, show ((k.toNat : Nat) : Int) = k by omega] at h3
  rw [h3]
  rw [c3] at hl
  rcases hl with ⟨e, hn⟩ | ⟨n, e, hn, hP, -⟩
  · refine ⟨fun z => by omega, fun ⟨n, a, b, b'⟩ => ?_⟩
    have := cE n a
    exact absurd ⟨by omega, by omega⟩ (hn n (by omega))
  · have := cE n (by omega)
    exact ⟨fun _ => ⟨n, by omega, by omega, by omega⟩, fun _ => by omega⟩
section
variable {d : Nat} {Y : am_Y} {h : am_H} {o : Nat} {S : VS} {p : Int}
def cB (h : am_H) (o : Nat) (p : Int) (e : PE VS) (x : Int) (h1 : am_H) : Prop := cF h h1 o ∧ h1 o = h o ∧ tro h1 (o + 1) x e (fun S => cS h1 o (p + 1) S)
theorem cB.bad {h1 : am_H} {e : PE VS} {r : List TK} {k : Int} (f : cF h h1 o) (g : h1 o = h o) (e4 : h1 (o + 1) 4 = (pq r k).1) (e5 : h1 (o + 1) 5 = (pq r k).2) (he : e = pb r k) : cB h o p e 0 h1 := by
  subst he
  exact ⟨f, g, rfl, e4, e5⟩
theorem ac_readCan (hY : am_at Y o am_L10) (hS : cS h o (p + 1) S) (hV : wP S.1 p) (hk : (hd S.2.2).1 = 2) : am_cI am_VillageText_readCan (d + 5) Y [.inr (.inr o), .inl p] h (cB h o p (pBody p S)) := by
  have hYT : am_at Y (o + 1) am_L8 := hY.sub 1 rfl
  have hYv : am_at Y (o + 5) am_L9 := hY.sub 5 rfl
  obtain ⟨ht, h4, hv, te⟩ := hS
  obtain ⟨w, hco, e1, hp⟩ := hV
  have hz := w.z
  have hz' := hz
  unfold rz at hz'
  refine am_Met.of (by decide) rfl (Nat.le_of_ble_eq_true rfl) (ab_VillageText_readCan_0 hY (advK hYT ht (by omega) ?_))
  intro h1 t1 f1 j1
  have v1 := hv.but f1.v
  have h14 := (j1 4 (by omega) (by omega) (by omega) (by omega)).trans h4
  refine helpAtK hYv hYT v1 hz t1 h14 (by omega) ?_
  intro x h2 f2 o2
  rw [← pHT_at hz] at o2
  have ep : pBody p S = pbd (pHT (S.1, S.2.1, nx S.2.2)) fun k => if 0 < S.1 (35 + 6 * p + k).toNat then pb (nx S.2.2) 3 else pNum (S.1, S.2.1, nx (nx S.2.2)) 1 99 (35 + 6 * p + k) := by
    unfold pBody
    congr 1
    funext k
    rw [if_pos hk]
  cases hT : pHT (S.1, S.2.1, nx S.2.2) with
  | inl q =>
    rw [hT] at o2 ep
    obtain ⟨rfl, e4, e5⟩ := o2
    refine ⟨fun z => absurd z (by decide), fun _ => ?_⟩
    rw [am_qI_s, ep]
    exact ⟨f1.c.trans f2.c, by rw [f2 o (by omega), f1 o (by omega)], rfl, e4, e5⟩
  | inr k =>
    rw [hT] at o2 ep
    obtain ⟨rfl, k0, e2⟩ := o2
    rw [e2]
    have hpr := pAt_r ((pHT_at (r := nx S.2.2) (N := S.2.1) hz).symm.trans hT)
    have hk6 := pHT_r (S := (S.1, S.2.1, nx S.2.2)) w hT
    simp only at hk6
    have ep' : pBody p S = if 0 < S.1 (35 + 6 * p + x).toNat then pb (nx S.2.2) 3 else pNum (S.1, S.2.1, nx (nx S.2.2)) 1 99 (35 + 6 * p + x) := ep
    refine ⟨fun _ => am_kI.of (ac_can (d := 0) hYv (v1.o1 w ⟨by omega, by omega⟩)) (by omega) ?_, fun z => by omega⟩
    rintro y h3 - - ⟨rfl, rfl⟩
    rw [v1.p1 ⟨hp.1, by omega⟩ (by omega) ⟨by omega, by omega⟩ (by omega)]
    by_cases c : 0 < S.1 (35 + 6 * p + x).toNat
    · rw [if_pos c]
      refine ⟨fun z => absurd z (by decide), fun _ => failK (k := 3) hYT t1 h14 (by omega) (by rw [if_neg (by omega)]) ?_⟩
      intro h6 f6 e4 e5 _
      rw [am_qI_s]
      refine ⟨Or.inl rfl, cB.bad (f1.c.trans f6.c) (by rw [f6 o (by omega), f1 o (by omega)]) e4 e5 ?_⟩
      rw [ep', if_pos c]
    · rw [if_neg c]
      rw [if_neg c] at ep'
      refine ⟨fun _ => advK hYT t1 (by omega) ?_, fun z => absurd rfl z⟩
      intro h6 t6 f6 j6
      refine cnumK hYT t6 ((j6 4 (by omega) (by omega) (by omega) (by omega)).trans h14) (by omega) ?_
      intro x7 h7 f7 o7
      have F7 := (f1.c.trans f6.c).trans f7.c
      have O7 : h7 o = h o := by rw [f7 o (by omega), f6 o (by omega), f1 o (by omega)]
      cases hB : pN (nx (nx S.2.2)) 1 99 with
      | inl q =>
        rw [hB] at o7
        obtain ⟨rfl, e84, e85⟩ := o7
        refine ⟨fun z => absurd rfl z, fun _ => ?_⟩
        rw [am_qI_s, ep', pNum_l (by exact hB)]
        exact ⟨F7, O7, rfl, e84, e85⟩
      | inr B =>
        rw [hB] at o7
        obtain ⟨rfl, b3, t7, b4⟩ := o7
        refine ⟨fun _ => ⟨⟨by omega, by omega⟩, ⟨by omega, by omega⟩, ⟨by omega, by omega⟩, fun h8 e8 => ?_⟩, fun z => absurd z (by decide)⟩
        have v7 := (v1.but f6.v).but f7.v
        have s8 : ∀ q, q ≠ o + 11 → h8 q = h7 q := fun q a => by rw [e8, am_u_n _ _ _ _ q a]
        have ei : (35 + 6 * p + x).toNat = 35 + (p * 6 + x).toNat := by omega
        rw [am_qI_s, ep', pNum_r (by exact hB)]
        refine ⟨F7.trans (e8 ▸ cF.u (by omega) (by omega)), by rw [s8 o (by omega)]; exact O7, rfl, t7.of4 fun q a b => s8 q (by omega), by rw [s8 _ (by omega)]; exact b4, ?_, by rw [(pN_r hB).1]; exact te.n1.n1.n1⟩
        show vR h8 (o + 5) (p + 1) (up S.1 (35 + 6 * p + x).toNat B.1) S.2.1
        rw [ei]
        have h48 := (w 2 (by omega)).2
        refine v7.cell (q := o + 11) ⟨hz'.2.1, by omega, h48⟩ (by omega) ⟨fun p k hp hk hh => ?_, fun p q hp hq hh => ?_⟩ (by rw [e8, b3])
        · rw [up_n (by omega)] at hh
          rw [up_n (by omega)]
          exact v7.2.2.2.2.2.2.1.1 p k hp hk hh
        · have := v7.2.2.2.2.2.2.1.2 p q hp hq hh
          rw [up_n (by omega), up_n (by omega)]
          exact this
theorem ac_readNeed (hY : am_at Y o am_L10) (hS : cS h o (p + 1) S) (hV : wP S.1 p) (hk : (hd S.2.2).1 = 3) : am_cI am_VillageText_readNeed (d + 5) Y [.inr (.inr o), .inl p] h (cB h o p (pBody p S)) := by
  have hYT : am_at Y (o + 1) am_L8 := hY.sub 1 rfl
  have hYv : am_at Y (o + 5) am_L9 := hY.sub 5 rfl
  obtain ⟨ht, h4, hv, te⟩ := hS
  obtain ⟨w, hco, e1, hp⟩ := hV
  have hz := w.z
  have hz' := hz
  unfold rz at hz'
  refine am_Met.of (by decide) rfl (Nat.le_of_ble_eq_true rfl) (ab_VillageText_readNeed_0 hY (advK hYT ht (by omega) ?_))
  intro h1 t1 f1 j1
  have v1 := hv.but f1.v
  have h14 := (j1 4 (by omega) (by omega) (by omega) (by omega)).trans h4
  refine helpAtK hYv hYT v1 hz t1 h14 (by omega) ?_
  intro x h2 f2 o2
  rw [← pHT_at hz] at o2
  have ep : pBody p S = pbd (pHT (S.1, S.2.1, nx S.2.2)) fun k => if hb (S.1 (85 + p).toNat) k then pb (nx S.2.2) 3 else .inr (pNeed S.1 p k, S.2.1, nx (nx S.2.2)) := by
    unfold pBody
    congr 1
    funext k
    rw [if_neg (by omega)]
  cases hT : pHT (S.1, S.2.1, nx S.2.2) with
  | inl q =>
    rw [hT] at o2 ep
    obtain ⟨rfl, e4, e5⟩ := o2
    refine ⟨fun z => absurd z (by decide), fun _ => ?_⟩
    rw [am_qI_s, ep]
    exact ⟨f1.c.trans f2.c, by rw [f2 o (by omega), f1 o (by omega)], rfl, e4, e5⟩
  | inr k =>
    rw [hT] at o2 ep
    obtain ⟨rfl, k0, e2⟩ := o2
    rw [e2]
    have hpr := pAt_r ((pHT_at (r := nx S.2.2) (N := S.2.1) hz).symm.trans hT)
    have hk6 := pHT_r (S := (S.1, S.2.1, nx S.2.2)) w hT
    simp only at hk6
    have ep' : pBody p S = if hb (S.1 (85 + p).toNat) x then pb (nx S.2.2) 3 else .inr (pNeed S.1 p x, S.2.1, nx (nx S.2.2)) := ep
    refine ⟨fun _ => am_kI.of (ac_needOf (d := 0) hYv (v1.o1 w ⟨by omega, by omega⟩)) (by omega) ?_, fun z => by omega⟩
    rintro y h3 - - ⟨rfl, hl⟩
    have hn := v1.nof hco ⟨hp.1, hp.2⟩ ⟨by omega, by omega⟩ hl
    by_cases c : hb (S.1 (85 + p).toNat) x
    · refine ⟨fun _ => failK (k := 3) hYT t1 h14 (by omega) (by rw [if_neg (by omega)]) ?_, fun z => by have := hn.mpr c; omega⟩
      intro h6 f6 e4 e5 _
      rw [am_qI_s]
      refine ⟨Or.inl rfl, cB.bad (f1.c.trans f6.c) (by rw [f6 o (by omega), f1 o (by omega)]) e4 e5 ?_⟩
      rw [ep', if_pos c]
    · rw [if_neg c] at ep'
      have h2 := hco.lt w hp ⟨by omega, by omega⟩ c
      rw [v1.1.2.2.1]
      refine ⟨fun z => absurd (hn.mp z) c, fun _ => ⟨fun _ => ⟨⟨by omega, by omega⟩, fun h6 x6 => ?_⟩, fun z => by omega⟩⟩
      have g6 : h6 (o + 5) 3 = S.1 2 := by rw [x6, am_u_n _ _ _ _ _ (by omega)]; exact v1.1.2.2.1
      rw [g6]
      refine ⟨⟨by omega, by omega⟩, fun h7 x7 => ?_⟩
      have g7 : h7 (o + 5) 3 = S.1 2 := by rw [x7, am_u_n _ _ _ _ _ (by omega)]; exact g6
      rw [g7]
      refine ⟨⟨by omega, by omega⟩, fun h8 x8 => ?_⟩
      have s8 : ∀ q, q ≠ o + 5 → q ≠ o + 14 → q ≠ o + 15 → h8 q = h3 q := fun q a b c => by rw [x8, am_u_n _ _ _ _ q a, x7, am_u_n _ _ _ _ q c, x6, am_u_n _ _ _ _ q b]
      refine advK hYT (t1.of4 fun q a b => s8 q (by omega) (by omega) (by omega)) (by omega) ?_
      intro h9 t9 f9 j9
      have F8 : cF h3 h8 o := ((x6 ▸ cF.u (by omega) (by omega) : cF h3 h6 o).trans (x7 ▸ cF.u (by omega) (by omega))).trans (x8 ▸ cF.u (by omega) (by omega))
      rw [am_qI_s, ep']
      refine ⟨(f1.c.trans F8).trans f9.c, by rw [f9 o (by omega), s8 o (by omega) (by omega) (by omega), f1 o (by omega)], rfl, t9, by rw [j9 4 (by omega) (by omega) (by omega) (by omega), s8 _ (by omega) (by omega) (by omega)]; exact h14, ?_, te.n1.n1⟩
      refine (vR.need (h := h3) (h1 := h8) v1 h2 ⟨hz'.2.1, by omega⟩ hp (fun j j0 j3 => ?_) ?_ ?_ ?_ fun q a b => s8 q (by omega) (by omega) (by omega)).but f9.v
      · rw [x8, am_u_j j3, x7, am_u_n _ _ _ _ _ (by omega), x6, am_u_n _ _ _ _ _ (by omega)]
      · rw [x8, am_u_s]
      · rw [x8, am_u_n _ _ _ _ _ (by omega), x7, am_u_n _ _ _ _ _ (by omega), x6, am_u_up]
      · rw [x8, am_u_n _ _ _ _ _ (by omega), x7, am_u_up, x6, am_u_n _ _ _ _ _ (by omega)]
/-- behind a person's cans and needs -/
def pSm (S : VS) : PE VS := if (hd S.2.2).1 = 26 then .inr S else pb S.2.2 1
theorem loop110 {h0 : am_H} (hY : am_at Y o am_L10) : ∀ (f : Nat) (h : am_H) (S : VS) (i : Int), S.2.2.length ≤ f → 0 ≤ i → i + f ≤ 1000 → cS h o (p + 1) S → wP S.1 p → cF h0 h o → h o = h0 o → aw_VillageText_readPerson_110 (d + 6) Y o p 1 i h (am_qI (cB h0 o p (pbd (pLoop f p S) pSm)))
  | 0, h, S, i, hl, _, _, hS, _, _, _ => by
    have := hS.1.ne
    omega
  | f + 1, h, S, i, hl, i0, hi, hS, hV, F, G => by
    have hYT : am_at Y (o + 1) am_L8 := hY.sub 1 rfl
    have hS' := hS
    obtain ⟨ht, h4, hv, te⟩ := hS'
    refine ab_VillageText_readPerson_110 hY ?_
    rw [ht.hd.1]
    refine ⟨fun z => by omega, fun _ => ⟨fun z => absurd z (by decide), fun _ => ⟨fun c26 => ⟨Or.inr rfl, ?_⟩, fun c26 => ⟨fun c2 => ⟨fun c3 => ?_, fun c3 => ?_⟩, fun c2 => ?_⟩⟩⟩⟩
    · rw [am_qI_s]
      have e : pbd (pLoop (f + 1) p S) pSm = .inr S := by
        unfold pLoop
        rw [if_neg (by omega)]
        show pSm S = _
        unfold pSm
        rw [if_pos c26]
      rw [e]
      exact ⟨F, G, rfl, hS⟩
    · refine failK (k := 1) hYT ht h4 (by omega) (by split <;> rfl) ?_
      intro h1 f1 e4 e5 _
      refine ⟨⟨by omega, by omega⟩, ab_VillageText_readPerson_110 hY ?_⟩
      have e : pbd (pLoop (f + 1) p S) pSm = pb S.2.2 1 := by
        unfold pLoop
        rw [if_neg (by omega)]
        show pSm S = _
        unfold pSm
        rw [if_neg c26]
      have fin : am_qI (cB h0 o p (pbd (pLoop (f + 1) p S) pSm)) (some (.inl 0)) h1 := by
        rw [am_qI_s]
        exact cB.bad (F.trans f1.c) (by rw [f1 o (by omega), G]) e4 e5 e
      exact ⟨fun _ => ⟨Or.inl rfl, fin⟩, fun _ => ⟨fun _ => ⟨Or.inl rfl, fin⟩, fun z => absurd rfl z⟩⟩
    · have e : pLoop (f + 1) p S = pbd (pBody p S) (pLoop f p) := by
        rw [pLoop]
        rw [if_pos (Or.inr c3)]
      rw [e]
      have len := te.len (by omega)
      refine am_kI.of (ac_readNeed (d := d) hY hS hV c3) (by omega) ?_
      rintro x h1 - - ⟨f1, g1, o1⟩
      refine ⟨⟨by omega, by omega⟩, ?_⟩
      cases hB : pBody p S with
      | inl q =>
        rw [hB] at o1
        obtain ⟨rfl, e4, e5⟩ := o1
        refine ab_VillageText_readPerson_110 hY ?_
        have fin : am_qI (cB h0 o p (pbd (pbd (Sum.inl q : PE VS) (pLoop f p)) pSm)) (some (.inl 0)) h1 := by
          rw [am_qI_s]
          exact ⟨F.trans f1, by rw [g1, G], rfl, e4, e5⟩
        exact ⟨fun _ => ⟨Or.inl rfl, fin⟩, fun _ => ⟨fun _ => ⟨Or.inl rfl, fin⟩, fun z => absurd rfl z⟩⟩
      | inr B =>
        rw [hB] at o1
        obtain ⟨rfl, s1⟩ := o1
        have inv := pBody_i hV hB
        exact loop110 hY f h1 B (i + 1) (by omega) (by omega) (by omega) s1 inv.1 (F.trans f1) (by rw [g1, G])
    · have e : pLoop (f + 1) p S = pbd (pBody p S) (pLoop f p) := by
        rw [pLoop]
        rw [if_pos (Or.inl c2)]
      rw [e]
      have len := te.len (by omega)
      refine am_kI.of (ac_readCan (d := d) hY hS hV c2) (by omega) ?_
      rintro x h1 - - ⟨f1, g1, o1⟩
      refine ⟨⟨by omega, by omega⟩, ?_⟩
      cases hB : pBody p S with
      | inl q =>
        rw [hB] at o1
        obtain ⟨rfl, e4, e5⟩ := o1
        refine ab_VillageText_readPerson_110 hY ?_
        have fin : am_qI (cB h0 o p (pbd (pbd (Sum.inl q : PE VS) (pLoop f p)) pSm)) (some (.inl 0)) h1 := by
          rw [am_qI_s]
          exact ⟨F.trans f1, by rw [g1, G], rfl, e4, e5⟩
        exact ⟨fun _ => ⟨Or.inl rfl, fin⟩, fun _ => ⟨fun _ => ⟨Or.inl rfl, fin⟩, fun z => absurd rfl z⟩⟩
      | inr B =>
        rw [hB] at o1
        obtain ⟨rfl, s1⟩ := o1
        have inv := pBody_i hV hB
        exact loop110 hY f h1 B (i + 1) (by omega) (by omega) (by omega) s1 inv.1 (F.trans f1) (by rw [g1, G])
end
