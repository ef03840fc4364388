/-! contracts: the class's readers of a village's lines: ties, what is told once -/
theorem fnd_at (f : Nat → Int) (w : Int) (b : Nat) : ∀ k, fnd f w b k ≠ -1 → f (b + (fnd f w b k).toNat) = w
  | 0 => by simp [fnd]
  | k + 1 => by
    have ih := fnd_at f w b k
    unfold fnd
    intro h
    by_cases c : fnd f w b k = -1
    · rw [if_pos c] at h ⊢
      by_cases c2 : f (b + k) = w
      · rw [if_pos c2]
        rw [Int.toNat_natCast]
        exact c2
      · rw [if_neg c2] at h
        exact absurd rfl h
    · rw [if_neg c] at h ⊢
      exact ih c
theorem pHT_at {R N : Nat → Int} {r : List TK} (hz : rz R) : pHT (R, N, r) = pAt r (fnd N (hd r).2.2 0 (R 0).toNat) := by
  have f0 := fnd_rg N (hd r).2.2 0 (R 0).toNat
  have f1 := fnd_rg N (hd r).2.2 6 (R 1).toNat
  unfold rz at hz
  unfold pHT pAt pF
  simp only
  by_cases c : (hd r).1 = 24
  · rw [if_pos c, if_pos c]
    by_cases c0 : fnd N (hd r).2.2 0 (R 0).toNat = -1
    · rw [if_pos c0, if_pos (show fnd N (hd r).2.2 0 (R 0).toNat < 0 by omega)]
      by_cases c1 : fnd N (hd r).2.2 6 (R 1).toNat = -1
      · rw [if_pos c1, if_pos (Or.inl rfl)]
      · rw [if_neg c1, if_pos (Or.inr (by omega))]
    · rw [if_neg c0, if_neg (by omega), if_neg (by omega)]
  · rw [if_neg c, if_neg c]
theorem pWho_at {R N : Nat → Int} {r : List TK} (hz : rz R) (hN : nV R N (R 1)) : pWho (R, N, r) = pAt r (fnd N (hd r).2.2 6 (R 1).toNat) := by
  have f0 := fnd_rg N (hd r).2.2 0 (R 0).toNat
  have f1 := fnd_rg N (hd r).2.2 6 (R 1).toNat
  unfold rz at hz
  unfold pWho pAt pF
  simp only
  by_cases c : (hd r).1 = 24
  · rw [if_pos c, if_pos c]
    by_cases c0 : fnd N (hd r).2.2 0 (R 0).toNat = -1
    · rw [if_pos c0]
      by_cases c1 : fnd N (hd r).2.2 6 (R 1).toNat = -1
      · rw [if_pos c1, if_pos (by omega), if_pos (by omega)]
      · rw [if_neg c1, if_neg (by omega), if_neg (by omega), show 6 + fnd N (hd r).2.2 6 (R 1).toNat - 6 = fnd N (hd r).2.2 6 (R 1).toNat by omega]
    · rw [if_neg c0, if_pos (by omega)]
      by_cases c1 : fnd N (hd r).2.2 6 (R 1).toNat = -1
      · rw [if_pos (by omega)]
      · exfalso
        have a0 := fnd_at N (hd r).2.2 0 (R 0).toNat c0
        have a1 := fnd_at N (hd r).2.2 6 (R 1).toNat c1
        rw [Nat.zero_add] at a0
        exact hN (fnd N (hd r).2.2 0 (R 0).toNat).toNat (fnd N (hd r).2.2 6 (R 1).toNat).toNat (by omega) (by omega) (a0.trans a1.symm)
  · rw [if_neg c, if_neg c]
theorem pAt_r {r : List TK} {i a : Int} (e : pAt r i = .inr a) : (hd r).1 = 24 ∧ a = i ∧ 0 ≤ i := by
  unfold pAt at e
  split at e
  · next c =>
    split at e
    · cases e
    · cases e
      exact ⟨c, rfl, by omega⟩
  · cases e
section
variable {d : Nat} {Y : am_Y} {h : am_H} {o : Nat} {S : VS}
theorem ac_readTie {q1 : Nat} {base : Int} (hY : am_at Y o am_L10) (hS : cS h o (S.1 1) S) (hV : wV S.1) (hb : base = 95 ∧ q1 = o + 12 ∨ base = 160 ∧ q1 = o + 13) : am_cI am_VillageText_readTie (d + 5) Y [.inr (.inr o), .inr (.inr q1)] h (cL h o (pTie S base)) := by
  have hYT : am_at Y (o + 1) am_L8 := hY.sub 1 rfl
  have hYv : am_at Y (o + 5) am_L9 := hY.sub 5 rfl
  have hq1 : Y[q1]? = some (14, 64) := by
    rcases hb with ⟨-, rfl⟩ | ⟨-, rfl⟩
    · exact hY 12 _ rfl
    · exact hY 13 _ rfl
  obtain ⟨ht, h4, hv, te⟩ := hS
  have hz := hV.1.z
  have hz' := hz
  unfold rz at hz'
  have eN := hv.2.2.2.2.2.2.2
  refine am_Met.of (by decide) rfl (Nat.le_of_ble_eq_true rfl) (ab_VillageText_readTie_0 hY hq1 (advK hYT ht (by omega) ?_))
  intro h1 t1 f1 j1
  have v1 := hv.but f1.v
  have h14 := (j1 4 (by omega) (by omega) (by omega) (by omega)).trans h4
  refine personAtK hYv hYT v1 ⟨hz'.2.2.1, hz'.2.2.2⟩ t1 h14 (by omega) ?_
  intro x h2 f2 o2
  rw [← pWho_at hz eN] at o2
  cases hp : pWho (S.1, S.2.1, nx S.2.2) with
  | inl q =>
    rw [hp] at o2
    obtain ⟨rfl, e4, e5⟩ := o2
    refine ⟨fun z => absurd z (by decide), fun _ => ?_⟩
    rw [am_qI_s, pTie_bad hp]
    exact ⟨f1.c.trans f2.c, by rw [f2 o (by omega), f1 o (by omega)], rfl, e4, e5⟩
  | inr p =>
    rw [hp] at o2
    obtain ⟨rfl, p0, e2⟩ := o2
    rw [e2]
    have hpr := pAt_r ((pWho_at (r := nx S.2.2) hz eN).symm.trans hp)
    have hpl := fnd_rg S.2.1 (hd (nx S.2.2)).2.2 6 (S.1 1).toNat
    have p8 : x < S.1 1 := by omega
    refine ⟨fun _ => advK hYT t1 (by omega) ?_, fun z => by omega⟩
    intro h3 t3 f3 j3
    have v3 := v1.but f3.v
    have h34 := (j3 4 (by omega) (by omega) (by omega) (by omega)).trans h14
    refine personAtK hYv hYT v3 ⟨hz'.2.2.1, hz'.2.2.2⟩ t3 h34 (by omega) ?_
    intro y h5 f5 o5
    rw [← pWho_at hz eN] at o5
    have ep : pTie S base = pbd (pWho (S.1, S.2.1, nx (nx S.2.2))) fun q => if q = x ∨ 0 < S.1 (base + 8 * x + q).toNat then pb (nx (nx S.2.2)) 3 else pNum (S.1, S.2.1, nx (nx (nx S.2.2))) 1 10 (base + 8 * x + q) := by
      unfold pTie
      rw [hp]
      rfl
    have F3 := f1.c.trans f3.c
    have O3 : h3 o = h o := by rw [f3 o (by omega), f1 o (by omega)]
    cases hq : pWho (S.1, S.2.1, nx (nx S.2.2)) with
    | inl q =>
      rw [hq] at o5 ep
      obtain ⟨rfl, e4, e5⟩ := o5
      refine ⟨fun z => absurd z (by decide), fun _ => ?_⟩
      rw [am_qI_s, ep]
      exact ⟨F3.trans f5.c, by rw [f5 o (by omega), O3], rfl, e4, e5⟩
    | inr q =>
      rw [hq] at o5 ep
      obtain ⟨rfl, q0, e5⟩ := o5
      rw [e5]
      have hqr := pAt_r ((pWho_at (r := nx (nx S.2.2)) hz eN).symm.trans hq)
      have hql := fnd_rg S.2.1 (hd (nx (nx S.2.2))).2.2 6 (S.1 1).toNat
      have q8 : y < S.1 1 := by omega
      have ei : (base + 8 * x + y).toNat = base.toNat + (x * 8 + y).toNat := by omega
      have i64 : (x * 8 + y).toNat < 64 := by omega
      have ec : h3 q1 (x * 8 + y).toNat = S.1 (base + 8 * x + y).toNat := by
        rw [ei]
        have := v3.2.2.2.2.1 (x * 8 + y).toNat i64
        rcases hb with ⟨rfl, rfl⟩ | ⟨rfl, rfl⟩
        · exact this.1
        · exact this.2
      have er : 0 ≤ S.1 (base + 8 * x + y).toNat := by
        have := (hV.1 (base + 8 * x + y).toNat (by omega)).1
        unfold wlo at this
        rw [if_neg (by omega)] at this
        exact this
      have ep' : pTie S base = if y = x ∨ 0 < S.1 (base + 8 * x + y).toNat then pb (nx (nx S.2.2)) 3 else pNum (S.1, S.2.1, nx (nx (nx S.2.2))) 1 10 (base + 8 * x + y) := ep
      have bad : y = x ∨ 0 < S.1 (base + 8 * x + y).toNat → am_kI am_Tokens_fail (d + 5) Y [.inr (.inr (o + 1)), .inl 3] h3 (fun v8 h7 => (v8 = 0 ∨ v8 = 1) ∧ am_qI (cL h o (pTie S base)) (some (.inl v8)) h7) := by
        intro z
        refine failK (k := 3) hYT t3 h34 (by omega) (by rw [if_neg (by omega)]) ?_
        intro h6 f6 e4 e5 _
        rw [am_qI_s]
        refine ⟨Or.inl rfl, cL.bad (F3.trans f6.c) (by rw [f6 o (by omega), O3]) e4 e5 ?_⟩
        rw [ep', if_pos z]
      refine ⟨fun _ => ⟨⟨by omega, by omega⟩, ⟨by omega, by omega⟩, fun z => bad (Or.inl z.symm), fun z => ⟨⟨by omega, by omega⟩, fun z2 => ?_, fun z2 => bad (Or.inr (by rw [ec] at z2; omega))⟩⟩, fun z => by omega⟩
      rw [ec] at z2
      have nb : ¬ (y = x ∨ 0 < S.1 (base + 8 * x + y).toNat) := fun w => by omega
      rw [if_neg nb] at ep'
      refine advK hYT t3 (by omega) ?_
      intro h6 t6 f6 j6
      refine cnumK hYT t6 ((j6 4 (by omega) (by omega) (by omega) (by omega)).trans h34) (by omega) ?_
      intro x7 h7 f7 o7
      have F7 := (F3.trans f6.c).trans f7.c
      have O7 : h7 o = h o := by rw [f7 o (by omega), f6 o (by omega), O3]
      cases hB : pN (nx (nx (nx S.2.2))) 1 10 with
      | inl q =>
        rw [hB] at o7
        obtain ⟨rfl, e84, e85⟩ := o7
        refine ⟨fun z => absurd rfl z, fun _ => ?_⟩
        rw [am_qI_s, ep', pNum_l (by exact hB)]
        exact ⟨F7, O7, rfl, e84, e85⟩
      | inr B =>
        rw [hB] at o7
        obtain ⟨rfl, b3, t7, b4⟩ := o7
        refine ⟨fun _ => ⟨⟨by omega, by omega⟩, fun h8 e8 => ?_⟩, fun z => absurd z (by decide)⟩
        have v7 := (v3.but f6.v).but f7.v
        have s8 : ∀ q, q ≠ q1 → h8 q = h7 q := fun q a => by rw [e8, am_u_n _ _ _ _ q a]
        rw [am_qI_s, ep', pNum_r (by exact hB)]
        refine ⟨F7.trans (e8 ▸ cF.u (by omega) (by omega)), by rw [s8 o (by omega)]; exact O7, rfl, t7.of4 fun q a b => s8 q (by omega), by rw [s8 _ (by omega)]; exact b4, ?_, by rw [(pN_r hB).1]; exact te.n1.n1.n1.n1⟩
        show vR h8 (o + 5) (up S.1 (base + 8 * x + y).toNat B.1 1) (up S.1 (base + 8 * x + y).toNat B.1) S.2.1
        rw [up_n (show 1 ≠ (base + 8 * x + y).toNat by omega), ei]
        have h48 := (hV.1 2 (by omega)).2
        refine v7.cell (q := q1) ⟨hz'.2.1, hz'.2.2.2, h48⟩ (by omega) ⟨fun p k hp hk hh => ?_, fun p q hp hq hh => ?_⟩ (by rw [e8, b3])
        · rw [up_n (by omega)] at hh
          rw [up_n (by omega)]
          exact v7.2.2.2.2.2.2.1.1 p k hp hk hh
        · have := v7.2.2.2.2.2.2.1.2 p q hp hq hh
          rw [up_n (by omega), up_n (by omega)]
          exact this
theorem ac_readBinds {g : Int} (hY : am_at Y o am_L10) (hS : cS h o (S.1 1) S) (hk : (hd S.2.2).1 < 32) (hg : h o 2 = if hb g 4 then 1 else 0) : am_cI am_VillageText_readBinds (d + 5) Y [.inr (.inr o)] h (fun x h1 => cF h h1 o ∧ tro h1 (o + 1) x (pOnce g S 4) (fun S1 => cS h1 o (S1.1 1) S1 ∧ h1 o = up (h o) 2 1)) := by
  have hYT : am_at Y (o + 1) am_L8 := hY.sub 1 rfl
  obtain ⟨ht, h4, hv, te⟩ := hS
  refine am_Met.of (by decide) rfl (Nat.le_of_ble_eq_true rfl) (ab_VillageText_readBinds_0 hY ?_)
  rw [hg]
  unfold pOnce
  by_cases c : hb g 4
  · rw [if_pos c, if_pos c]
    refine ⟨fun z => absurd z (by decide), fun _ => failK (k := 3) hYT ht h4 (by omega) (by rw [if_neg (by omega)]) ?_⟩
    intro h1 f1 e4 e5 _
    rw [am_qI_s]
    exact ⟨Or.inl rfl, f1.c, rfl, e4, e5⟩
  · rw [if_neg c, if_neg c]
    refine ⟨fun _ h1 e1 => ?_, fun z => absurd rfl z⟩
    have s1 : ∀ q, q ≠ o → h1 q = h q := fun q a => by rw [e1, am_u_n _ _ _ _ q a]
    have F1 : cF h h1 o := e1 ▸ cF.u (by omega) (by omega)
    have O1 : h1 o = up (h o) 2 1 := by rw [e1, am_u_up]
    refine advK hYT (ht.of4 fun q a b => s1 q (by omega)) (by omega) ?_
    intro h2 t2 f2 j2
    refine cnumK hYT t2 (by rw [j2 4 (by omega) (by omega) (by omega) (by omega), s1 _ (by omega)]; exact h4) (by omega) ?_
    intro x3 h3 f3 o3
    have F3 := (F1.trans f2.c).trans f3.c
    have O3 : h3 o = up (h o) 2 1 := by rw [f3 o (by omega), f2 o (by omega), O1]
    cases hB : pN (nx S.2.2) 1 9 with
    | inl q =>
      rw [hB] at o3
      obtain ⟨rfl, e84, e85⟩ := o3
      refine ⟨fun z => absurd rfl z, fun _ => ?_⟩
      rw [am_qI_s, pNum_l (by exact hB)]
      exact ⟨F3, rfl, e84, e85⟩
    | inr B =>
      rw [hB] at o3
      obtain ⟨rfl, b3, t3, b4⟩ := o3
      refine ⟨fun _ h5 e5 => ?_, fun z => absurd z (by decide)⟩
      have s5 : ∀ q, q ≠ o + 5 → h5 q = h3 q := fun q a => by rw [e5, am_u_n _ _ _ _ q a]
      have v3 := ((hv.but (h1 := h1) fun q a b => s1 q (by omega)).but f2.v).but f3.v
      rw [am_qI_s, pNum_r (by exact hB)]
      refine ⟨F3.trans (e5 ▸ cF.u (by omega) (by omega)), rfl, ⟨t3.of4 fun q a b => s5 q (by omega), by rw [s5 _ (by omega)]; exact b4, ?_, by rw [(pN_r hB).1]; exact te.n1.n1⟩, by rw [s5 o (by omega)]; exact O3⟩
      show vR h5 (o + 5) (up S.1 3 B.1 1) (up S.1 3 B.1) S.2.1
      rw [up_n (show 1 ≠ 3 by omega)]
      exact v3.one (by omega) (by rw [e5, b3])
theorem ac_readOut {g : Int} (hY : am_at Y o am_L10) (hS : cS h o (S.1 1) S) (hk : (hd S.2.2).1 < 32) (hg : h o 3 = if hb g 5 then 1 else 0) : am_cI am_VillageText_readOut (d + 5) Y [.inr (.inr o)] h (fun x h1 => cF h h1 o ∧ tro h1 (o + 1) x (pOnce g S 5) (fun S1 => cS h1 o (S1.1 1) S1 ∧ h1 o = up (h o) 3 1)) := by
  have hYT : am_at Y (o + 1) am_L8 := hY.sub 1 rfl
  obtain ⟨ht, h4, hv, te⟩ := hS
  refine am_Met.of (by decide) rfl (Nat.le_of_ble_eq_true rfl) (ab_VillageText_readOut_0 hY ?_)
  rw [hg]
  unfold pOnce
  by_cases c : hb g 5
  · rw [if_pos c, if_pos c]
    refine ⟨fun z => absurd z (by decide), fun _ => failK (k := 3) hYT ht h4 (by omega) (by rw [if_neg (by omega)]) ?_⟩
    intro h1 f1 e4 e5 _
    rw [am_qI_s]
    exact ⟨Or.inl rfl, f1.c, rfl, e4, e5⟩
  · rw [if_neg c, if_neg c]
    refine ⟨fun _ h1 e1 => ?_, fun z => absurd rfl z⟩
    have s1 : ∀ q, q ≠ o → h1 q = h q := fun q a => by rw [e1, am_u_n _ _ _ _ q a]
    have F1 : cF h h1 o := e1 ▸ cF.u (by omega) (by omega)
    have O1 : h1 o = up (h o) 3 1 := by rw [e1, am_u_up]
    refine advK hYT (ht.of4 fun q a b => s1 q (by omega)) (by omega) ?_
    intro h2 t2 f2 j2
    refine cnumK hYT t2 (by rw [j2 4 (by omega) (by omega) (by omega) (by omega), s1 _ (by omega)]; exact h4) (by omega) ?_
    intro x3 h3 f3 o3
    have F3 := (F1.trans f2.c).trans f3.c
    have O3 : h3 o = up (h o) 3 1 := by rw [f3 o (by omega), f2 o (by omega), O1]
    cases hB : pN (nx S.2.2) 0 999 with
    | inl q =>
      rw [hB] at o3
      obtain ⟨rfl, e84, e85⟩ := o3
      refine ⟨fun z => absurd rfl z, fun _ => ?_⟩
      rw [am_qI_s, pNum_l (by exact hB)]
      exact ⟨F3, rfl, e84, e85⟩
    | inr B =>
      rw [hB] at o3
      obtain ⟨rfl, b3, t3, b4⟩ := o3
      refine ⟨fun _ h5 e5 => ?_, fun z => absurd z (by decide)⟩
      have s5 : ∀ q, q ≠ o + 5 → h5 q = h3 q := fun q a => by rw [e5, am_u_n _ _ _ _ q a]
      have v3 := ((hv.but (h1 := h1) fun q a b => s1 q (by omega)).but f2.v).but f3.v
      rw [am_qI_s, pNum_r (by exact hB)]
      refine ⟨F3.trans (e5 ▸ cF.u (by omega) (by omega)), rfl, ⟨t3.of4 fun q a b => s5 q (by omega), by rw [s5 _ (by omega)]; exact b4, ?_, by rw [(pN_r hB).1]; exact te.n1.n1⟩, by rw [s5 o (by omega)]; exact O3⟩
      show vR h5 (o + 5) (up S.1 4 B.1 1) (up S.1 4 B.1) S.2.1
      rw [up_n (show 1 ≠ 4 by omega)]
      exact v3.one (by omega) (by rw [e5, b3])
theorem ac_readGift {g : Int} (hY : am_at Y o am_L10) (hS : cS h o (S.1 1) S) (hk : (hd S.2.2).1 < 32) (hg : h o 4 = if hb g 6 then 1 else 0) : am_cI am_VillageText_readGift (d + 5) Y [.inr (.inr o)] h (fun x h1 => cF h h1 o ∧ tro h1 (o + 1) x (pOnce g S 6) (fun S1 => cS h1 o (S1.1 1) S1 ∧ h1 o = up (h o) 4 1)) := by
  have hYT : am_at Y (o + 1) am_L8 := hY.sub 1 rfl
  obtain ⟨ht, h4, hv, te⟩ := hS
  refine am_Met.of (by decide) rfl (Nat.le_of_ble_eq_true rfl) (ab_VillageText_readGift_0 hY ?_)
  rw [hg]
  unfold pOnce
  by_cases c : hb g 6
  · rw [if_pos c, if_pos c]
    refine ⟨fun z => absurd z (by decide), fun _ => failK (k := 3) hYT ht h4 (by omega) (by rw [if_neg (by omega)]) ?_⟩
    intro h1 f1 e4 e5 _
    rw [am_qI_s]
    exact ⟨Or.inl rfl, f1.c, rfl, e4, e5⟩
  · rw [if_neg c, if_neg c]
    refine ⟨fun _ h1 e1 => ?_, fun z => absurd rfl z⟩
    have s1 : ∀ q, q ≠ o → h1 q = h q := fun q a => by rw [e1, am_u_n _ _ _ _ q a]
    have F1 : cF h h1 o := e1 ▸ cF.u (by omega) (by omega)
    have O1 : h1 o = up (h o) 4 1 := by rw [e1, am_u_up]
    refine advK hYT (ht.of4 fun q a b => s1 q (by omega)) (by omega) ?_
    intro h2 t2 f2 j2
    refine cnumK hYT t2 (by rw [j2 4 (by omega) (by omega) (by omega) (by omega), s1 _ (by omega)]; exact h4) (by omega) ?_
    intro x3 h3 f3 o3
    have F3 := (F1.trans f2.c).trans f3.c
    have O3 : h3 o = up (h o) 4 1 := by rw [f3 o (by omega), f2 o (by omega), O1]
    cases hB : pN (nx S.2.2) 0 99 with
    | inl q =>
      rw [hB] at o3
      obtain ⟨rfl, e84, e85⟩ := o3
      refine ⟨fun z => absurd rfl z, fun _ => ?_⟩
      rw [am_qI_s, pNum_l (by exact hB)]
      exact ⟨F3, rfl, e84, e85⟩
    | inr B =>
      rw [hB] at o3
      obtain ⟨rfl, b3, t3, b4⟩ := o3
      refine ⟨fun _ h5 e5 => ?_, fun z => absurd z (by decide)⟩
      have s5 : ∀ q, q ≠ o + 5 → h5 q = h3 q := fun q a => by rw [e5, am_u_n _ _ _ _ q a]
      have v3 := ((hv.but (h1 := h1) fun q a b => s1 q (by omega)).but f2.v).but f3.v
      rw [am_qI_s, pNum_r (by exact hB)]
      refine ⟨F3.trans (e5 ▸ cF.u (by omega) (by omega)), rfl, ⟨t3.of4 fun q a b => s5 q (by omega), by rw [s5 _ (by omega)]; exact b4, ?_, by rw [(pN_r hB).1]; exact te.n1.n1⟩, by rw [s5 o (by omega)]; exact O3⟩
      show vR h5 (o + 5) (up S.1 5 B.1 1) (up S.1 5 B.1) S.2.1
      rw [up_n (show 1 ≠ 5 by omega)]
      exact v3.one (by omega) (by rw [e5, b3])
end
