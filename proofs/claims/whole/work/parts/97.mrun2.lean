/-! the reference's run: thanks, meet -/
section
variable {A : Nat → Int} {Z : am_H} {n y p s u : Int} {t : Nat}
theorem zT3_r {q : Nat} (h : q ≠ 0) : zT3 Z u p s q = Z q := by
  unfold zT3
  split
  · rw [am_u_n _ _ _ _ _ h]
  · rw [am_u_n _ _ _ _ _ h, am_u_n _ _ _ _ _ h]
theorem zT3_5 : zT3 Z u p s 0 5 = Z 0 5 := by
  unfold zT3
  split
  · rw [am_u_j (by omega)]
  · rw [am_u_j (by omega), am_u_j (by omega)]
theorem fAc_2 {k : Nat} (h : fAc A n t k = 2) : ¬ A (325 + 2 * k) = 4 := by
  intro z
  unfold fAc at h
  split at h
  · omega
  · split at h
    · omega
    · split at h
      · omega
      · split at h
        · omega
        · first
            | omega
            | (split at h <;> first | omega | (split at h <;> omega))
end
section
variable {Y : am_Y} {g g1 : am_H} {m d : Nat} {A : Nat → Int} {Z : am_H} {n y p s u B : Int} {t : Int}
theorem thk_149 (hM : am_at Y m am_L12) (w : wV A) (hn : 0 ≤ n ∧ n < A 2) (hu : 0 ≤ u ∧ u < A 1) (hy : 0 ≤ y ∧ y ≤ 1000) (c : mrR g1 m A (zT3 Z u p s)) (f : mrF g g1 m) : aw_Md_thanks_149 (d + 4) Y m y (ndP A n) (ndK A n) u g1 (am_qV fun g1 => mrR g1 m A (zThk2 A Z n y u p s) ∧ mrF g g1 m) := by
  have hz := w.1.z
  unfold rz at hz
  have w3 := wr_3 w.1
  have r : (0 ≤ ndP A n ∧ ndP A n < A 1) ∧ (0 ≤ ndK A n ∧ ndK A n < A 0) := needRg w hn
  refine ab_Md_thanks_149 hM (am_kI.of (ac_m_bond (d := 0) (by omega) (by omega) (by omega)) (by omega) ?_)
  rintro v h2 - - ⟨rfl, rfl, jlt⟩
  have e3 : h2 (m + 11) = Z 3 := by rw [c.2.2.2.2.1, zT3_r (by omega)]
  have jo : jOf h2 m 2 = Z 3 := by
    unfold jOf
    rw [if_neg (by omega)]
    exact e3
  rw [Int.toNat_natCast, e3]
  have bind : y ≤ Z 3 (jb u (ndP A n) (ndK A n)) ∨ ¬ A (25 + u).toNat ≤ zCnt A (Z 3) u y → (am_ri (y + 1)) ∧ (((0 : Int) ≤ ((jb u (ndP A n) (ndK A n) : Nat) : Int) ∧ ((jb u (ndP A n) (ndK A n) : Nat) : Int) < 384) ∧ (∀ h3 : am_H, h3 = am_u h2 (m + 10) (jb u (ndP A n) (ndK A n)) (y + 1) → (am_ri (y + (h3 (m + 2) 3))) ∧ (((0 : Int) ≤ ((jb u (ndP A n) (ndK A n) : Nat) : Int) ∧ ((jb u (ndP A n) (ndK A n) : Nat) : Int) < 384) ∧ (∀ h4 : am_H, h4 = am_u h3 (m + 11) (jb u (ndP A n) (ndK A n)) (y + (h3 (m + 2) 3)) → am_qV (fun g1 => mrR g1 m A (zThk2 A Z n y u p s) ∧ mrF g g1 m) none h4)))) := by
    intro z
    refine ⟨by unfold am_ri; omega, by omega, fun h3 e => ?_⟩
    have c3 := c.u10 e
    rw [c3.1]
    refine ⟨by unfold am_ri; omega, by omega, fun h4 e4 => ?_⟩
    rw [am_qV_s]
    unfold zThk2
    rw [if_neg (by omega)]
    exact ⟨(c3.u11 e4).g41 _, (f.trans (mrF.u e (by omega))).trans (mrF.u e4 (by omega))⟩
  refine ⟨by omega, fun z => bind (Or.inl z), fun z => eK (ac_m_bondsOf (d := 0) (J := jOf h2 m) hM ⟨fun i _ => rfl, fun i a b => ?_⟩ (by rw [c.1]; exact w.1.z) (by omega)) (by omega) ?_⟩
  · unfold jOf
    rw [if_neg (by omega)]
  · have ec : jCnt (h2 (m + 2)) (jOf h2 m) u y = zCnt A (Z 3) u y := by
      rw [c.1]
      unfold jCnt
      rw [jo]
      rfl
    rw [ec, c.1]
    refine ⟨by unfold am_ri; omega, by omega, fun z2 => bind (Or.inr (by omega)), fun z2 => ?_⟩
    rw [c.2.1, zT3_5]
    refine ⟨fun z5 => ?_, fun z5 h9 e9 => ?_⟩
    · rw [am_qV_s]
      unfold zThk2
      rw [if_pos ⟨z, z2⟩, if_neg z5]
      exact ⟨c, f⟩
    · rw [am_qV_s]
      unfold zThk2
      rw [if_pos ⟨z, z2⟩, if_pos z5]
      exact ⟨c.u20 e9, f.trans (mrF.u e9 (by omega))⟩
theorem thk_tail (hM : am_at Y m am_L12) (w : wV A) (hn : 0 ≤ n ∧ n < A 2) (hu : 0 ≤ u ∧ u < A 1) (hy : 0 ≤ y ∧ y ≤ 1000) (c : mrR g1 m A Z) (f : mrF g g1 m) (b : zB Z B) (hB : B ≤ 100000) (h45 : g1 m 45 = p) (h46 : g1 m 46 = s) : (am_ri ((g1 (m + 20) 3) + 1)) ∧ (∀ h1 : am_H, h1 = am_u g1 (m + 20) 3 ((g1 (m + 20) 3) + 1) → (u = (h1 m 45) → aw_Md_thanks_149 (d + 4) Y m y (ndP A n) (ndK A n) u h1 (am_qV fun g1 => mrR g1 m A (zThk2 A Z n y u p s) ∧ mrF g g1 m)) ∧ (¬ u = (h1 m 45) → (u = (h1 m 46) → aw_Md_thanks_149 (d + 4) Y m y (ndP A n) (ndK A n) u h1 (am_qV fun g1 => mrR g1 m A (zThk2 A Z n y u p s) ∧ mrF g g1 m)) ∧ (¬ u = (h1 m 46) → (am_ri ((h1 (m + 20) 4) + 1)) ∧ (∀ h2 : am_H, h2 = am_u h1 (m + 20) 4 ((h1 (m + 20) 4) + 1) → aw_Md_thanks_149 (d + 4) Y m y (ndP A n) (ndK A n) u h2 (am_qV fun g1 => mrR g1 m A (zThk2 A Z n y u p s) ∧ mrF g g1 m))))) := by
  have b3 := b.1 3 (by omega) (by omega) (by omega)
  have b4 := b.1 4 (by omega) (by omega) (by omega)
  rw [c.2.1]
  refine ⟨by unfold am_ri; omega, fun h1 e1 => ?_⟩
  have m1 : h1 m = g1 m := by rw [e1, am_u_n _ _ _ _ _ (by omega)]
  have c1 := c.u20 e1
  have f1 := f.trans (mrF.u e1 (by omega))
  rw [m1, h45, h46]
  have t1 : u = p ∨ u = s → zT3 Z u p s = am_u Z 0 3 (Z 0 3 + 1) := fun z => if_pos z
  refine ⟨fun z => thk_149 hM w hn hu hy (by rw [t1 (Or.inl z)]; exact c1) f1, fun z => ⟨fun z2 => thk_149 hM w hn hu hy (by rw [t1 (Or.inr z2)]; exact c1) f1, fun z2 => ?_⟩⟩
  have e4 : h1 (m + 20) 4 = Z 0 4 := by rw [c1.2.1, am_u_j (by omega)]
  rw [e4]
  refine ⟨by unfold am_ri; omega, fun h2 e2 => thk_149 hM w hn hu hy ?_ (f1.trans (mrF.u e2 (by omega)))⟩
  have t2 : zT3 Z u p s = am_u (am_u Z 0 3 (Z 0 3 + 1)) 0 4 (Z 0 4 + 1) := if_neg (by omega)
  rw [t2]
  exact c1.u20 e2
theorem ac_m_thanks (hM : am_at Y m am_L12) (c : mrR g m A Z) (w : wV A) (b : zB Z B) (hB : B ≤ 100000) (hn : 0 ≤ n ∧ n < A 2) (ht : 0 ≤ t ∧ t ≤ 20) (hy : 0 ≤ y ∧ y ≤ 1000) (hp : 0 ≤ p ∧ p < A 1) (h45 : g m 45 = p) (h46 : g m 46 = s) : am_cV am_Md_thanks (d + 4) Y [.inr (.inr m), .inl n, .inl t, .inl y] g (fun g1 => mrR g1 m A (zThk A Z n t.toNat y p s) ∧ mrF g g1 m) := by
  have hz := w.1.z
  unfold rz at hz
  have w2 := wr_2 w.1
  have r : (0 ≤ ndP A n ∧ ndP A n < A 1) ∧ (0 ≤ ndK A n ∧ ndK A n < A 0) := needRg w hn
  have go : ∀ g1 : am_H, mrR g1 m A Z → mrF g g1 m → g1 m 45 = p → g1 m 46 = s → ¬ A (326 + 2 * ndP A n).toNat = 0 → ¬ (A (326 + 2 * ndP A n).toNat = 2 ∧ ¬ bA (pmA A p n 1) t.toNat 0 = 0) → am_wp am_Md_thanks (d + 4) Y 71 [some (.inr (.inr m)), some (.inl n), none, some (.inl y), some (.inl (ndP A n)), some (.inl (ndK A n)), some (.inl (A (326 + 2 * ndP A n).toNat)), some (.inl p), some (.inl (A 1 - 1))] [] g1 (am_qV fun g1 => mrR g1 m A (zThk A Z n t.toNat y p s) ∧ mrF g g1 m) := by
    intro g1 c1 f1 a1 a2 z0 z2
    have ez : zThk A Z n t.toNat y p s = zThk2 A Z n y (whom A n p (A (326 + 2 * ndP A n).toNat)) p s := by
      unfold zThk
      rw [if_neg z0, if_neg z2]
    rw [ez]
    by_cases w3 : A (326 + 2 * ndP A n).toNat = 3
    · rw [w3]
      have D0 := fun q => srP_rg (A := A) (by omega) (othr A n p) q
      have lp : ∀ i : Nat, ∀ y8 : Int, y8 = (i : Int) - 1 → (i : Int) ≤ A 1 → aw_Md_thanks_71 (d + 4) Y m n y (ndP A n) (ndK A n) 3 (if sr (othr A n p) (A 1).toNat i = -1 then p else sr (othr A n p) (A 1).toNat i) y8 g1 (am_qV fun g1 => mrR g1 m A (zThk2 A Z n y (whom A n p 3) p s) ∧ mrF g g1 m) := by
        intro i
        induction i with
        | zero =>
          intro y8 e8 _
          have ew : whom A n p 3 = if sr (othr A n p) (A 1).toNat 0 = -1 then p else sr (othr A n p) (A 1).toNat 0 := if_pos rfl
          rw [← ew]
          have hu : 0 ≤ whom A n p 3 ∧ whom A n p 3 < A 1 := by
            rw [ew]
            have := D0 0
            split
            · exact hp
            · omega
          exact ab_Md_thanks_71 hM ⟨fun _ => thk_tail hM w hn hu hy c1 f1 b hB a1 a2, fun z => by omega⟩
        | succ i ih =>
          intro y8 e8 hi
          have e8' : y8 = (i : Int) := by omega
          subst e8'
          have ss := sr_s (D := othr A n p) (N := (A 1).toNat) (q := i) (by omega)
          have st := ih ((i : Int) + -1) (by omega) (by omega)
          rw [ss] at st
          refine ab_Md_thanks_71 hM ⟨fun z => by omega, fun _ => ⟨fun z => absurd rfl z, fun _ => ⟨fun z => ⟨by unfold am_ri; omega, ?_⟩, fun z => eK (ac_m_canHelp (d := 0) hM c1.1 w (by omega) hn) (by omega) ?_⟩⟩⟩
          · have d0 : othr A n p i = 0 := if_neg fun q => q.1 (by rw [a1] at z; exact z)
            rw [if_pos d0] at st
            exact st
          · rw [a1] at z
            by_cases q : asked A (i : Int) n
            · rw [if_pos q]
              have d0 : ¬ othr A n p i = 0 := by
                unfold othr
                rw [if_pos ⟨z, q⟩]
                omega
              rw [if_neg d0, if_neg (by omega)] at st
              exact ⟨fun z => absurd z (by decide), fun _ => ⟨by unfold am_ri; omega, st⟩⟩
            · rw [if_neg q]
              have d0 : othr A n p i = 0 := if_neg fun r => q r.2
              rw [if_pos d0] at st
              exact ⟨fun _ => ⟨by unfold am_ri; omega, st⟩, fun z => absurd rfl z⟩
      have := lp (A 1).toNat (A 1 - 1) (by omega) (by omega)
      rw [sr_e (Nat.le_refl _), if_pos rfl] at this
      exact this
    · have ew : whom A n p (A (326 + 2 * ndP A n).toNat) = p := if_neg w3
      rw [ew]
      exact ab_Md_thanks_71 hM ⟨fun z => by omega, fun _ => ⟨fun _ => thk_tail hM w hn hp hy c1 f1 b hB a1 a2, fun z => absurd z w3⟩⟩
  refine am_Met.of (by decide) rfl (Nat.le_of_ble_eq_true rfl) (ab_Md_thanks_0 hM (eK (ac_m_needy (d := 0) hM (by omega)) (by omega) (eK (ac_m_needed (d := 0) hM (by omega)) (by omega) ?_)))
  rw [c.1]
  have r' := needRg w hn
  have ei : (325 + 2 * ndP A n + 1).toNat = (326 + 2 * ndP A n).toNat := by omega
  refine ⟨by unfold am_ri; omega, by unfold am_ri; omega, by unfold am_ri; omega, by omega, ?_⟩
  rw [ei]
  refine ⟨fun z => ?_, fun z => ⟨fun z2 => eK (ac_m_persons (d := 0) hM) (by omega) ?_, fun z2 => ?_⟩⟩
  · rw [am_qV_s]
    unfold zThk
    rw [if_pos z]
    exact ⟨c, mrF.refl⟩
  · rw [c.1, h45]
    exact ⟨by unfold am_ri; omega, go g c mrF.refl h45 h46 z fun q => z2 q.1⟩
  · rw [h45]
    refine am_kI.of (ac_m_freely (d := 0) hM (by rw [c.1]; exact w) (by rw [c.1]; exact hp) (by rw [c.1]; exact hn) ht (by omega)) (by omega) ?_
    rintro v g8 - - ⟨f8, rfl, -⟩
    have m8 : g8 m = g m := f8 m (by omega) (by omega)
    have c8 := c.but f8
    rw [c.1, m8, h45]
    refine ⟨fun z3 => eK (ac_m_persons (d := 0) hM) (by omega) ?_, fun z3 => ?_⟩
    · rw [c8.1]
      exact ⟨by unfold am_ri; omega, go g8 c8 (mrF.but f8) (by rw [m8]; exact h45) (by rw [m8]; exact h46) z fun q => q.2 z3⟩
    · rw [am_qV_s]
      unfold zThk
      rw [if_neg z, if_pos ⟨z2, z3⟩]
      exact ⟨c8, mrF.but f8⟩
theorem met_314 (hM : am_at Y m am_L12) (c : mrR g1 m A Z) (f : mrF g g1 m) (w : wV A) (zz : ∀ q : Nat, q < 8 → A (160 + 8 * q + q) = 0) (b : zB Z B) (hB : B ≤ 90000) (hn : 0 ≤ n ∧ n < A 2) (ht : 0 ≤ t ∧ t ≤ 20) (hy : 0 ≤ y ∧ y ≤ 1000) (hp : 0 ≤ p ∧ p < A 1) (hs : s = -1 ∨ 0 ≤ s ∧ s < A 1) (h45 : g1 m 45 = p) (h46 : g1 m 46 = s) {how : Int} : aw_Md_meet_314 (d + 6) Y m n y t how g1 (am_qV fun g1 => mrR g1 m A (if how = 1 then zFnd A Z n t.toNat y p s else zThk A Z n t.toNat y p s) ∧ mrF g g1 m) := by
  have b2 := b.1 2 (by omega) (by omega) (by omega)
  refine ab_Md_meet_314 hM ⟨fun z => am_kV.of (ac_m_thanks (d := 0) (p := p) (s := s) hM c w b (by omega) hn ht hy hp h45 h46) (by omega) ?_, fun z => am_kI.of (ac_m_isSeen (d := 0) hM c w zz (by rw [h45]; exact hp)) (by omega) ?_⟩
  · rintro g2 - ⟨c2, f2⟩
    rw [am_qV_s, if_neg z]
    exact ⟨c2, f.trans f2⟩
  · rintro v g3 - - ⟨rfl, c3, q3, j3⟩
    rw [h45] at c3 ⊢
    have b3 : zB (zSee A Z p).1 B := b.ux (by omega)
    have f3 : mrF g g3 m := f.trans ⟨fun q a _ _ _ _ _ _ => q3 q a, fun j a _ _ => j3 j a⟩
    have e2 : g3 (m + 20) 2 = Z 0 2 := by rw [q3 _ (by omega), c.2.1]
    rw [j3 46 (by omega), h46]
    have fin : ∀ (g5 : am_H) (Z5 : am_H), mrR g5 m A Z5 → zB Z5 B → Z5 0 2 = Z 0 2 → mrF g g5 m → g5 m 45 = p → g5 m 46 = s → (am_ri ((g5 (m + 20) 2) + 1)) ∧ (∀ h5 : am_H, h5 = am_u g5 (m + 20) 2 ((g5 (m + 20) 2) + 1) → am_kV am_Md_thanks (d + 6) Y [.inr (.inr m), .inl n, .inl t, .inl y] h5 (fun h6 => am_qV (fun g1 => mrR g1 m A (zThk A (am_u Z5 0 2 (Z 0 2 + 1)) n t.toNat y p s) ∧ mrF g g1 m) none h6)) := by
      intro g5 Z5 c5 b5 e5 f5 a1 a2
      rw [c5.2.1, e5]
      refine ⟨by unfold am_ri; omega, fun h5 eh => ?_⟩
      have m5 : h5 m = g5 m := by rw [eh, am_u_n _ _ _ _ _ (by omega)]
      have b6 := b5.u0 (i := 2) (v := Z 0 2 + 1) (by omega) (fun _ => by omega)
      refine am_kV.of (ac_m_thanks (d := 0) (p := p) (s := s) hM (c5.u20 eh) w b6 (by omega) hn ht hy hp (by rw [m5]; exact a1) (by rw [m5]; exact a2)) (by omega) ?_
      rintro g6 - ⟨c6, f6⟩
      rw [am_qV_s]
      exact ⟨c6, (f5.trans (mrF.u eh (by omega))).trans f6⟩
    refine ⟨fun zs => ?_, fun zs => am_kI.of (ac_m_isSeen (d := 0) hM c3 w zz (by omega)) (by omega) ?_⟩
    · have ez : zFnd A Z n t.toNat y p s = if (zSee A Z p).2 = 0 then (zSee A Z p).1 else zThk A (am_u (zSee A Z p).1 0 2 (Z 0 2 + 1)) n t.toNat y p s := if_pos zs
      rw [if_pos z, ez]
      refine ⟨fun zv => ?_, fun zv => ?_⟩
      · rw [if_neg zv]
        exact fin g3 _ c3 b3 (by unfold zSee; dsimp only; rw [am_u_o (by omega)]) f3 (by rw [j3 45 (by omega)]; exact h45) (by rw [j3 46 (by omega)]; exact h46)
      · rw [am_qV_s, if_pos zv]
        exact ⟨c3, f3⟩
    · rintro v g9 - - ⟨rfl, c9, q9, j9⟩
      have b9 : zB (zSee A (zSee A Z p).1 s).1 B := b3.ux (by omega)
      have f9 : mrF g g9 m := f3.trans ⟨fun q a _ _ _ _ _ _ => q9 q a, fun j a _ _ => j9 j a⟩
      have ez : zFnd A Z n t.toNat y p s = if (zSee A Z p).2 = 0 ∨ (zSee A (zSee A Z p).1 s).2 = 0 then (zSee A (zSee A Z p).1 s).1 else zThk A (am_u (zSee A (zSee A Z p).1 s).1 0 2 (Z 0 2 + 1)) n t.toNat y p s := if_neg zs
      rw [if_pos z, ez]
      refine ⟨fun z10 => ⟨fun zv => ?_, fun zv => ?_⟩, fun z10 => ?_⟩
      · rw [if_neg fun q => q.elim zv z10]
        exact fin g9 _ c9 b9 (by unfold zSee; dsimp only; rw [am_u_o (by omega), am_u_o (by omega)]) f9 (by rw [j9 45 (by omega), j3 45 (by omega)]; exact h45) (by rw [j9 46 (by omega), j3 46 (by omega)]; exact h46)
      · rw [am_qV_s, if_pos (Or.inl zv)]
        exact ⟨c9, f9⟩
      · rw [am_qV_s, if_pos (Or.inr z10)]
        exact ⟨c9, f9⟩
theorem ac_m_meet (hM : am_at Y m am_L12) (c : mrR g m A Z) (w : wV A) (zz : ∀ q : Nat, q < 8 → A (160 + 8 * q + q) = 0) (b : zB Z B) (hB : B ≤ 80000) (hn : 0 ≤ n ∧ n < A 2) (ht : 0 ≤ t ∧ t ≤ 20) (hy : 0 ≤ y ∧ y ≤ 1000) : am_cV am_Md_meet (d + 6) Y [.inr (.inr m), .inl n, .inl y, .inl t] g (fun g1 => mrR g1 m A (zMeet A Z n t.toNat y) ∧ mrF g g1 m) := by
  have hz := w.1.z
  unfold rz at hz
  have w2 := wr_2 w.1
  have r : (0 ≤ ndP A n ∧ ndP A n < A 1) ∧ (0 ≤ ndK A n ∧ ndK A n < A 0) := needRg w hn
  have D0 := srP_rg (A := A) (by omega) (whoD A Z n y) 0
  have F0 := srP_rg (A := A) (by omega) (fAc A n t.toNat) 0
  refine am_Met.of (by decide) rfl (Nat.le_of_ble_eq_true rfl) (ab_Md_meet_0 hM (eK (ac_m_needy (d := 0) hM (by omega)) (by omega) (eK (ac_m_needed (d := 0) hM (by omega)) (by omega) (eK (ac_m_persons (d := 0) hM) (by omega) ?_))))
  rw [c.1]
  refine ⟨by unfold am_ri; omega, ?_⟩
  have lp : ∀ i : Nat, ∀ y7 : Int, y7 = (i : Int) - 1 → (i : Int) ≤ A 1 → aw_Md_meet_25 (d + 6) Y m n y t (ndP A n) (ndK A n) (sr (whoD A Z n y) (A 1).toNat i) y7 g (am_qV fun g1 => mrR g1 m A (zMeet A Z n t.toNat y) ∧ mrF g g1 m) := by
    intro i
    induction i with
    | zero =>
      intro y7 e7 _
      refine ab_Md_meet_25 hM ⟨fun _ => ⟨fun z => am_kI.of (ac_m_offers (d := 0) hM c w hn ht) (by omega) ?_, fun z => ?_⟩, fun z => by omega⟩
      · rintro v g1 - - ⟨⟨c1, o1, o2⟩, f1⟩
        by_cases zF : sr (fAc A n t.toNat) (A 1).toNat 0 = -1
        · have v0 := o1 zF
          have b6 := b.1 6 (by omega) (by omega) (by omega)
          refine ⟨fun z0 => absurd v0 z0, fun _ => ?_⟩
          rw [c1.2.1]
          refine ⟨by unfold am_ri; omega, fun h5 e5 => ?_⟩
          rw [am_qV_s]
          unfold zMeet
          rw [if_neg (fun q => q z), if_pos zF]
          exact ⟨c1.u20 e5, f1.trans (mrF.u e5 (by omega))⟩
        · obtain ⟨ev, e45, e46⟩ := o2 zF
          have F1 := fAc_rg (A := A) (n := n) (t := t.toNat) (sr (fAc A n t.toNat) (A 1).toNat 0).toNat
          have v0 : ¬ v = 0 := by rw [ev]; omega
          have ez : zMeet A Z n t.toNat y = if fAc A n t.toNat (sr (fAc A n t.toNat) (A 1).toNat 0).toNat = 2 then zThk A (zDay A Z n (sr (fAc A n t.toNat) (A 1).toNat 0)) n t.toNat y (sr (fAc A n t.toNat) (A 1).toNat 0) (-1)
  else zFnd A (zNig A Z n (sr (fAc A n t.toNat) (A 1).toNat 0) (if A (325 + 2 * (sr (fAc A n t.toNat) (A 1).toNat 0).toNat) = 4 then ptn A n (sr (fAc A n t.toNat) (A 1).toNat 0).toNat else -1)) n t.toNat y (sr (fAc A n t.toNat) (A 1).toNat 0) (if A (325 + 2 * (sr (fAc A n t.toNat) (A 1).toNat 0).toNat) = 4 then ptn A n (sr (fAc A n t.toNat) (A 1).toNat 0).toNat else -1) := by
            unfold zMeet
            rw [if_neg (fun q => q z), if_neg zF]
          rw [ez]
          have F2 := fun q : fAc A n t.toNat (sr (fAc A n t.toNat) (A 1).toNat 0).toNat = 2 => fAc_2 q
          have pr := ptn_rg (A := A) (n := n) (by omega) (sr (fAc A n t.toNat) (A 1).toNat 0).toNat
          have hs : (if A (325 + 2 * (sr (fAc A n t.toNat) (A 1).toNat 0).toNat) = 4 then ptn A n (sr (fAc A n t.toNat) (A 1).toNat 0).toNat else -1) = -1 ∨ (sr (fAc A n t.toNat) (A 1).toNat 0 < (if A (325 + 2 * (sr (fAc A n t.toNat) (A 1).toNat 0).toNat) = 4 then ptn A n (sr (fAc A n t.toNat) (A 1).toNat 0).toNat else -1) ∧ (if A (325 + 2 * (sr (fAc A n t.toNat) (A 1).toNat 0).toNat) = 4 then ptn A n (sr (fAc A n t.toNat) (A 1).toNat 0).toNat else -1) < A 1) := by
            split
            · omega
            · exact Or.inl rfl
          have hs2 : fAc A n t.toNat (sr (fAc A n t.toNat) (A 1).toNat 0).toNat = 2 → (if A (325 + 2 * (sr (fAc A n t.toNat) (A 1).toNat 0).toNat) = 4 then ptn A n (sr (fAc A n t.toNat) (A 1).toNat 0).toNat else -1) = -1 := fun q => if_neg (F2 q)
          generalize (if A (325 + 2 * (sr (fAc A n t.toNat) (A 1).toNat 0).toNat) = 4 then ptn A n (sr (fAc A n t.toNat) (A 1).toNat 0).toNat else -1) = s at e46 hs hs2 ⊢
          have hp : 0 ≤ sr (fAc A n t.toNat) (A 1).toNat 0 ∧ sr (fAc A n t.toNat) (A 1).toNat 0 < A 1 := by omega
          rw [← ev] at hs2 F1 ⊢
          generalize sr (fAc A n t.toNat) (A 1).toNat 0 = p at e45 hs hp ⊢
          clear ez F2 pr ev o1 o2 F0 zF
          have b1p := b.2.2 p.toNat (by omega)
          have rp := wr_wph w.1 (k := ndK A n) (p := p) (by omega) (by omega)
          refine ⟨fun _ => ?_, fun q => absurd q v0⟩
          rw [e45, c1.2.2.1]
          refine ⟨by omega, by unfold am_ri; omega, by omega, fun h3 e3 => ?_⟩
          have c3 := c1.u21 e3
          have m3 : h3 m = g1 m := by rw [e3, am_u_n _ _ _ _ _ (by omega)]
          have f3 := f1.trans (mrF.u e3 (by omega))
          have go : ∀ s1 : Int, (v = 2 → s1 = 0) → (¬ v = 2 → s1 = 1) → am_wp am_Md_meet (d + 6) Y 182 [some (.inr (.inr m)), some (.inl n), some (.inl y), some (.inl t), none, some (.inl (ndK A n)), none, some (.inl v), none] [.inl s1, .inr (.inr (m + 20))] h3 (am_qV fun g1 => mrR g1 m A (if v = 2 then zThk A (zDay A Z n p) n t.toNat y p (-1) else zFnd A (zNig A Z n p s) n t.toNat y p s) ∧ mrF g g1 m) := by
            intro s1 w1 w2
            have hs1 : s1 = 0 ∨ s1 = 1 := by omega
            have bs := b.1 s1.toNat (by omega) (by omega) (by omega)
            have e20 : h3 (m + 20) s1.toNat = Z 0 s1.toNat := by rw [c3.2.1, am_u_o (by omega)]
            refine ab_Md_meet_182 hM ⟨by omega, ?_⟩
            rw [e20]
            refine ⟨by unfold am_ri; omega, by omega, fun h1 e1 => ?_⟩
            have c4 := c3.u20 e1
            have m4 : h1 m = g1 m := by rw [e1, am_u_n _ _ _ _ _ (by omega), m3]
            have f4 := f3.trans (mrF.u e1 (by omega))
            rw [m4, e46]
            refine ⟨fun zs => ?_, fun zs => ?_⟩
            · have v1 : ¬ v = 2 := fun q => zs (hs2 q)
              have hs' : 0 ≤ s ∧ s < A 1 := by omega
              have es1 : s1 = 1 := w2 v1
              subst es1
              have b1s := b.2.2 s.toNat (by omega)
              have rs := wr_wph w.1 (k := ndK A n) (p := s) (by omega) (by omega)
              have p1 := half_rg rp.2.2
              have p2 := half_rg rs.2.2
              have p3 := half_rg rp.2.1
              have e21 : h1 (m + 21) s.toNat = Z 1 s.toNat := by rw [c4.2.2.1, am_u_n _ _ _ _ 1 (by omega), am_u_j (by omega)]
              rw [e21]
              refine ⟨by omega, by unfold am_ri; omega, by omega, fun h2 e2 => ?_⟩
              have c5 := c4.u21 e2
              have m5 : h2 m = g1 m := by rw [e2, am_u_n _ _ _ _ _ (by omega), m4]
              have f5 := f4.trans (mrF.u e2 (by omega))
              have a5 : h2 (m + 2) = A := c5.1
              have e7 : h2 (m + 20) 7 = Z 0 7 := by rw [c5.2.1, am_u_o (by omega), am_u_j (by omega), am_u_o (by omega)]
              refine eK (ac_m_worth (d := 0) hM (by omega)) (by omega) ?_
              rw [m5, e45, a5]
              refine eK (ac_m_pains (d := 0) hM (by omega) (by omega)) (by omega) ?_
              rw [m5, e46, a5]
              refine ⟨by unfold am_ri; omega, by decide, by unfold am_ri; omega, by unfold am_ri; omega, eK (ac_m_pains (d := 0) hM (by omega) (by omega)) (by omega) ?_⟩
              rw [a5]
              refine ⟨by unfold am_ri; omega, by decide, by unfold am_ri; omega, by unfold am_ri; omega, eK (ac_m_hide (d := 0) hM (by omega)) (by omega) ?_⟩
              rw [a5, e7]
              refine ⟨by unfold am_ri; omega, by decide, by unfold am_ri; omega, by unfold am_ri; omega, by unfold am_ri; omega, by have := b.2.1; unfold am_ri; omega, fun h11 e11 => ?_⟩
              have c6 := c5.u20 e11
              have m6 : h11 m = g1 m := by rw [e11, am_u_n _ _ _ _ _ (by omega), m5]
              have ezn : zNig A Z n p s = am_u (am_u (am_u (am_u Z 1 p.toNat (Z 1 p.toNat + 1)) 0 1 (Z 0 1 + 1)) 1 s.toNat (Z 1 s.toNat + 1)) 0 7 (Z 0 7 + (((A (10 + 2 * ndK A n).toNat - (A (35 + 6 * p + ndK A n).toNat + 1).tdiv 2) - (A (35 + 6 * s + ndK A n).toNat + 1).tdiv 2) - 2 * ((A (11 + 2 * ndK A n).toNat + 1).tdiv 2))) := if_neg zs
              have bn := b.nig (n := n) (p := p) (s := s) w.1 (by omega) (by omega) (by omega)
              rw [if_neg v1]
              have c6' : mrR h11 m A (zNig A Z n p s) := by
                rw [ezn]
                exact c6
              have v1' : v = 1 := by omega
              have fin := met_314 (d := d) (how := v) (p := p) (s := s) hM c6' (f5.trans (mrF.u e11 (by omega))) w zz bn (by omega) hn ht hy hp (by omega) (by rw [m6]; exact e45) (by rw [m6]; exact e46)
              rw [if_pos v1'] at fin
              exact fin
            · have a4 : h1 (m + 2) = A := c4.1
              refine eK (ac_m_worth (d := 0) hM (by omega)) (by omega) ?_
              rw [m4, e45, a4]
              refine eK (ac_m_pains (d := 0) hM (by omega) (by omega)) (by omega) ?_
              rw [a4]
              refine ⟨by unfold am_ri; omega, fun zv => ?_, fun zv => eK (ac_m_hide (d := 0) hM (by omega)) (by omega) ?_⟩
              · have v2 : v = 2 := by omega
                have es1 : s1 = 0 := w1 v2
                subst es1
                have e7 : h1 (m + 20) 7 = Z 0 7 := by rw [c4.2.1, am_u_j (by omega), am_u_o (by omega)]
                rw [e7, Int.sub_zero]
                refine ⟨by unfold am_ri; omega, by have := b.2.1; unfold am_ri; omega, fun h20 e20' => ?_⟩
                have c6 := c4.u20 e20'
                have m6 : h20 m = g1 m := by rw [e20', am_u_n _ _ _ _ _ (by omega), m4]
                have bd := b.day (n := n) (p := p) w.1 (by omega) (by omega)
                rw [if_pos v2]
                have fin := met_314 (d := d) (how := v) (p := p) (s := s) (Z := zDay A Z n p) hM c6 (f4.trans (mrF.u e20' (by omega))) w zz bd (by omega) hn ht hy hp (Or.inl zs) (by rw [m6]; exact e45) (by rw [m6]; exact e46)
                rw [if_neg zv, zs] at fin
                exact fin
              · have v2 : ¬ v = 2 := by omega
                have es1 : s1 = 1 := w2 v2
                subst es1
                have e7 : h1 (m + 20) 7 = Z 0 7 := by rw [c4.2.1, am_u_j (by omega), am_u_o (by omega)]
                rw [e7, a4]
                refine ⟨by unfold am_ri; omega, by have := b.2.1; unfold am_ri; omega, fun h23 e23 => ?_⟩
                have c6 := c4.u20 e23
                have m6 : h23 m = g1 m := by rw [e23, am_u_n _ _ _ _ _ (by omega), m4]
                have ezn : zNig A Z n p s = am_u (am_u (am_u Z 1 p.toNat (Z 1 p.toNat + 1)) 0 1 (Z 0 1 + 1)) 0 7 (Z 0 7 + ((A (10 + 2 * ndK A n).toNat - A (35 + 6 * p + ndK A n).toNat) - A (11 + 2 * ndK A n).toNat)) := if_pos zs
                have bn := b.nig (n := n) (p := p) (s := s) w.1 (by omega) (by omega) (by omega)
                have c6' : mrR h23 m A (zNig A Z n p s) := by
                  rw [ezn]
                  exact c6
                rw [if_neg v2]
                have fin := met_314 (d := d) (how := v) (p := p) (s := s) hM c6' (f4.trans (mrF.u e23 (by omega))) w zz bn (by omega) hn ht hy hp (Or.inl zs) (by rw [m6]; exact e45) (by rw [m6]; exact e46)
                rw [if_pos zv] at fin
                exact fin
          exact ⟨fun q => go 1 (fun q2 => absurd q2 q) (fun _ => rfl), fun q => go 0 (fun _ => rfl) (fun q2 => absurd q q2)⟩
      · have D1 : 0 ≤ sr (whoD A Z n y) (A 1).toNat 0 ∧ sr (whoD A Z n y) (A 1).toNat 0 < A 1 := by omega
        have ez : zMeet A Z n t.toNat y = zDay A Z n (sr (whoD A Z n y) (A 1).toNat 0) := if_pos z
        rw [ez]
        generalize sr (whoD A Z n y) (A 1).toNat 0 = p at D1 z ⊢
        have b1p := b.2.2 p.toNat (by omega)
        have b0 := b.1 0 (by omega) (by omega) (by omega)
        have rp := wr_wph w.1 (k := ndK A n) (p := p) (by omega) (by omega)
        rw [c.2.2.1]
        refine ⟨by omega, by unfold am_ri; omega, by omega, fun h8 e8 => ?_⟩
        have c8 := c.u21 e8
        have e20 : h8 (m + 20) 0 = Z 0 0 := by rw [c8.2.1, am_u_o (by omega)]
        rw [e20]
        refine ⟨by unfold am_ri; omega, fun h9 e9 => ?_⟩
        have c9 := c8.u20 e9
        have a9 : h9 (m + 2) = A := c9.1
        have e7 : h9 (m + 20) 7 = Z 0 7 := by rw [c9.2.1, am_u_j (by omega), am_u_o (by omega)]
        refine eK (ac_m_worth (d := 0) hM (by omega)) (by omega) (eK (ac_m_pains (d := 0) hM (by omega) (by omega)) (by omega) ?_)
        rw [a9, e7]
        refine ⟨by unfold am_ri; omega, by have := b.2.1; unfold am_ri; omega, fun h14 e14 => ?_⟩
        rw [am_qV_s]
        exact ⟨c9.u20 e14, ((mrF.u e8 (by omega)).trans (mrF.u e9 (by omega))).trans (mrF.u e14 (by omega))⟩
    | succ i ih =>
      intro y7 e7 hi
      have e7' : y7 = (i : Int) := by omega
      subst e7'
      have ss := sr_s (D := whoD A Z n y) (N := (A 1).toNat) (q := i) (by omega)
      have st := ih ((i : Int) + -1) (by omega) (by omega)
      rw [ss] at st
      refine ab_Md_meet_25 hM ⟨fun z => by omega, fun _ => am_kI.of (ac_m_bond (d := 0) (by omega) (by omega) (by omega)) (by omega) ?_⟩
      rintro v h2 - - ⟨rfl, rfl, jlt⟩
      rw [Int.toNat_natCast, c.2.2.2.2.1]
      refine ⟨by omega, fun z => ⟨by unfold am_ri; omega, ?_⟩, fun z => am_kI.of (ac_m_bond (d := 0) (by omega) (by omega) (by omega)) (by omega) ?_⟩
      · have d0 : whoD A Z n y i = 0 := if_neg (by omega)
        rw [if_pos d0] at st
        exact st
      · rintro v h3 - - ⟨rfl, rfl, -⟩
        rw [Int.toNat_natCast, c.2.2.2.1]
        refine ⟨by omega, fun z2 => ⟨by unfold am_ri; omega, ?_⟩, fun z2 => ⟨by unfold am_ri; omega, ?_⟩⟩
        · have d0 : whoD A Z n y i = 0 := if_neg (by omega)
          rw [if_pos d0] at st
          exact st
        · have d0 : ¬ whoD A Z n y i = 0 := by
            unfold whoD
            rw [if_pos ⟨z2, z⟩]
            omega
          rw [if_neg d0] at st
          exact st
  have := lp (A 1).toNat (A 1 - 1) (by omega) (by omega)
  rw [sr_e (Nat.le_refl _)] at this
  exact this
end
