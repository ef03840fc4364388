/-! the class's run: by night, meet -/
section
variable {A : Nat → Int} {Z Z' : am_H} {n y p s : Int} {k : Nat}
theorem whoD_c (e2 : Z' 2 = Z 2) (e3 : Z' 3 = Z 3) : whoD A Z' n y k = whoD A Z n y k := by
  unfold whoD
  rw [e2, e3]
theorem zDay_r {q : Nat} (h : 2 ≤ q) : zDay A Z n p q = Z q := by
  unfold zDay
  rw [am_u_n _ _ _ _ _ (by omega), am_u_n _ _ _ _ _ (by omega), am_u_n _ _ _ _ _ (by omega)]
theorem zNig_r {q : Nat} (h : 2 ≤ q) : zNig A Z n p s q = Z q := by
  unfold zNig
  split
  · rw [am_u_n _ _ _ _ _ (by omega), am_u_n _ _ _ _ _ (by omega), am_u_n _ _ _ _ _ (by omega)]
  · rw [am_u_n _ _ _ _ _ (by omega), am_u_n _ _ _ _ _ (by omega), am_u_n _ _ _ _ _ (by omega), am_u_n _ _ _ _ _ (by omega)]
theorem zSee_r {q : Nat} (h : q ≠ 4) : (zSee A Z p).1 q = Z q := by
  unfold zSee
  dsimp only
  rw [am_u_n _ _ _ _ _ h]
theorem zSee_01 : (zSee A Z p).2 = 0 ∨ (zSee A Z p).2 = 1 := sn_01 A p (Z 4 0) (A 1).toNat
end
section
variable {Y : am_Y} {h h1 h2 : am_H} {o d : Nat} {A N : Nat → Int} {Z : am_H} {T y s B : Int} {n t p : Nat}
theorem ac_R_found {Z1 : am_H} {q : Int} (hY : am_at Y o am_L5) (c : crS h o A N T) (cd : crD h o A Z1 y) (w : wV A) (hp : 0 ≤ q ∧ q < A 1) : am_cI am_Run_isFound (d + 2) Y [.inr (.inr o), .inl q] h (fun r h1 => r = (zSee A Z1 q).2 ∧ crD h1 o A (zSee A Z1 q).1 y ∧ crF h h1 o) := by
  refine am_cI.mono (ac_R_isFound hY c cd.2.2.1 w hp) ?_
  rintro r h1 - - ⟨e, f1, f2, f3⟩
  refine ⟨e, ?_, fun q a _ _ _ => f1 q a, f2⟩
  have e3 : h1 o 11 = (sn A q (Z1 4 0) (A 1).toNat).1 := by
    rw [f3]
    unfold zSee
    dsimp only
    rw [am_u_s]
  exact cd.s f1 e3
theorem night_255 {Z1 : am_H} {v : Int} (hY : am_at Y o am_L5) (c : crS h1 o A N T) (w : wV A) (cd : crD h1 o A Z1 y) (f : crF h h1 o) (b : zB Z1 B) (hB : B ≤ 80000) (hn : (n : Int) < A 2) (hq : asked A (p : Int) (n : Int)) (ht : (t : Int) ≤ T) (hT : T ≤ 20) (hy : 0 ≤ y ∧ y ≤ 1000) (nd : ∀ k : Nat, (k : Int) < A 1 → whoD A Z1 (n : Int) y k = 0) {G : am_H} (g0 : v = 0 → G = Z1) (g1 : ¬ v = 0 → G = zThk A (am_u Z1 0 2 (Z1 0 2 + 1)) (n : Int) t y (p : Int) s) : aw_Run_helpByNight_255 (d + 6) Y o y (n : Int) (t : Int) (p : Int) s v h1 (am_qV fun h1 => crD h1 o A G y ∧ crF h h1 o) := by
  have b2 := b.1 2 (by omega) (by omega) (by omega)
  refine ab_Run_helpByNight_255 hY ⟨fun z => ?_, fun z => ?_⟩
  · rw [am_qV_s, g0 z]
    exact ⟨cd, f⟩
  · rw [cd.1 2 (by omega)]
    refine ⟨by unfold am_ri; omega, fun h2 e2 => ?_⟩
    have f2 : crF h1 h2 o := crF.u e2 (by omega)
    have b3 := b.u0 (i := 2) (v := Z1 0 2 + 1) (by omega) (fun _ => by omega)
    refine am_kV.of (ac_R_thank (d := 0) (s := s) hY (c.but f2) w (cd.u0 e2) b3 (by omega) hn hq ht hT hy fun k hk => ?_) (by omega) ?_
    · rw [whoD_c (Z := Z1) (am_u_n _ _ _ _ _ (by omega)) (am_u_n _ _ _ _ _ (by omega))]
      exact nd k hk
    · rintro h3 - ⟨d3, f3⟩
      rw [am_qV_s, g1 z]
      exact ⟨d3, (f.trans f2).trans f3⟩
theorem night_33 (hY : am_at Y o am_L5) (c : crS h o A N T) (w : wV A) (cd : crD h o A Z y) (b : zB Z B) (hB : B ≤ 70000) (hn : (n : Int) < A 2) (hq : asked A (p : Int) (n : Int)) (ht : (t : Int) ≤ T) (hT : T ≤ 20) (hy : 0 ≤ y ∧ y ≤ 1000) (nd : ∀ k : Nat, (k : Int) < A 1 → whoD A Z (n : Int) y k = 0) (hs : s = -1 ∨ (p : Int) < s ∧ s < A 1) : aw_Run_helpByNight_33 (d + 6) Y o y (n : Int) (t : Int) (p : Int) (ndK A (n : Int)) s h (am_qV fun h1 => crD h1 o A (zFnd A (zNig A Z (n : Int) (p : Int) s) (n : Int) t y (p : Int) s) y ∧ crF h h1 o) := by
  have hz := w.1.z
  unfold rz at hz
  have w2 := wr_2 w.1
  obtain ⟨-, -, e5, e6, -⟩ := c.cells w hn
  have r : (0 ≤ ndP A (n : Int) ∧ ndP A (n : Int) < A 1) ∧ (0 ≤ ndK A (n : Int) ∧ ndK A (n : Int) < A 0) := needRg w ⟨by omega, hn⟩
  have b1 := b.1 1 (by omega) (by omega) (by omega)
  have b7 := b.2.1
  have hp := hq.1
  have bp := b.2.2 p (by omega)
  have rp := wr_wph w.1 (k := ndK A (n : Int)) (p := (p : Int)) (by omega) (by omega)
  have bn := b.nig (n := (n : Int)) (p := (p : Int)) (s := s) w.1 (by omega) (by omega) (by omega)
  have ndn : ∀ k : Nat, (k : Int) < A 1 → whoD A (zNig A Z (n : Int) (p : Int) s) (n : Int) y k = 0 := fun k hk => by
    rw [whoD_c (Z := Z) (zNig_r (by omega)) (zNig_r (by omega))]
    exact nd k hk
  refine ab_Run_helpByNight_33 hY ?_
  rw [cd.1 1 (by omega)]
  refine ⟨by unfold am_ri; omega, fun h1 e1 => ⟨by omega, ?_⟩⟩
  have f1 : crF h h1 o := crF.u e1 (by omega)
  have d1 := cd.u0 e1
  rw [d1.1 7 (by omega), am_u_j (by omega), show h1 (o + 5) = h (o + 5) from f1.1 _ (by omega) (by omega) (by omega) (by omega), e5]
  refine ⟨by unfold am_ri; omega, fun h2 e2 => ?_⟩
  have f2 := f1.trans (crF.u e2 (by omega))
  have d2 := d1.u0 e2
  have c2 := c.but f2
  have v7 : h2 (o + 2) 7 = Z 0 7 + A (10 + 2 * ndK A (n : Int)).toNat := by rw [d2.1 7 (by omega), am_u_s]
  have q6 : h2 (o + 6) = h (o + 6) := f2.1 _ (by omega) (by omega) (by omega) (by omega)
  refine ⟨fun zs => ?_, fun zs => ?_⟩
  · -- two
    have hs' : (p : Int) < s ∧ s < A 1 := by omega
    have bs := b.2.2 s.toNat (by omega)
    have rs := wr_wph w.1 (k := ndK A (n : Int)) (p := s) (by omega) (by omega)
    have p1 := half_rg rp.2.2
    have p2 := half_rg rs.2.2
    have p3 := half_rg rp.2.1
    refine eK (ac_painsOf (d := 0) (hY.sub 3 rfl) (c2.1.o1 w.1 (by omega))) (by omega) ?_
    rw [c2.1.p1 hp (by omega) r.2 (by omega)]
    refine eK (ac_R_half (d := 0) rp.2.2) (by omega) ⟨by omega, ?_⟩
    rw [q6, e6, v7]
    refine eK (ac_R_half (d := 0) rp.2.1) (by omega) ⟨by unfold am_ri; omega, by unfold am_ri; omega, fun h9 e9 => ?_⟩
    have f9 := f2.trans (crF.u e9 (by omega))
    have d9 := d2.u0 e9
    have c9 := c.but f9
    have v9 : h9 (o + 2) 7 = Z 0 7 + A (10 + 2 * ndK A (n : Int)).toNat - ((A (35 + 6 * (p : Int) + ndK A (n : Int)).toNat + 1).tdiv 2 + (A (11 + 2 * ndK A (n : Int)).toNat + 1).tdiv 2) := by rw [d9.1 7 (by omega), am_u_s]
    have q9 : h9 (o + 6) = h (o + 6) := f9.1 _ (by omega) (by omega) (by omega) (by omega)
    refine eK (ac_painsOf (d := 0) (hY.sub 3 rfl) (c9.1.o1 w.1 (by omega))) (by omega) ?_
    rw [c9.1.p1 (by omega) (by omega) r.2 (by omega)]
    refine eK (ac_R_half (d := 0) rs.2.2) (by omega) ⟨by omega, ?_⟩
    rw [q9, e6, v9]
    refine eK (ac_R_half (d := 0) rp.2.1) (by omega) ⟨by unfold am_ri; omega, by unfold am_ri; omega, fun h16 e16 => ?_⟩
    have f16 := f9.trans (crF.u e16 (by omega))
    have d16 := d9.u0 e16
    rw [Int.toNat_natCast, d16.2.1 p (by omega), am_u_o (by omega), am_u_o (by omega), am_u_o (by omega), am_u_o (by omega)]
    refine ⟨by omega, by unfold am_ri; omega, by omega, fun h17 e17 => ?_⟩
    have f17 := f16.trans (crF.u e17 (by omega))
    have d17 := d16.u1 e17
    rw [d17.2.1 s.toNat (by omega), am_u_j (by omega), am_u_o (by omega), am_u_o (by omega), am_u_o (by omega), am_u_o (by omega)]
    refine ⟨by omega, by unfold am_ri; omega, by omega, fun h18 e18 => ?_⟩
    have f18 := f17.trans (crF.u e18 (by omega))
    have d18 : crD h18 o A (zNig A Z (n : Int) (p : Int) s) y := by
      refine (d17.u1 e18).same ?_
      unfold zNig
      rw [if_neg (by omega), Int.toNat_natCast, am_u_2, am_u_2, am_u_c (q := 0) (i := 7) (q' := 1) (i' := p) (by omega), am_u_c (q := 0) (i := 1) (q' := 1) (i' := p) (by omega), am_u_c (q := 0) (i := 7) (q' := 1) (i' := s.toNat) (by omega)]
      congr 1
      omega
    refine am_kI.of (ac_R_found (d := 0) hY (c.but f18) d18 w hp) (by omega) ?_
    rintro v20 h19 - - ⟨rfl, d19, f19⟩
    refine am_kI.of (ac_R_found (d := 0) (q := s) hY ((c.but f18).but f19) d19 w (by omega)) (by omega) ?_
    rintro v22 h21 - - ⟨rfl, d21, f21⟩
    have b21 : zB (zSee A (zSee A (zNig A Z (n : Int) (p : Int) s) (p : Int)).1 s).1 (B + 4) := (bn.ux (by omega)).ux (by omega)
    have fin : ∀ v : Int, (v = 0 ↔ ((zSee A (zNig A Z (n : Int) (p : Int) s) (p : Int)).2 = 0 ∨ (zSee A (zSee A (zNig A Z (n : Int) (p : Int) s) (p : Int)).1 s).2 = 0)) → aw_Run_helpByNight_255 (d + 6) Y o y (n : Int) (t : Int) (p : Int) s v h21 (am_qV fun h1 => crD h1 o A (zFnd A (zNig A Z (n : Int) (p : Int) s) (n : Int) t y (p : Int) s) y ∧ crF h h1 o) := by
      intro v an
      refine night_255 (d := d) hY (((c.but f18).but f19).but f21) w d21 ((f18.trans f19).trans f21) b21 (by omega) hn hq ht hT hy (fun k hk => ?_) (fun z => ?_) (fun z => ?_)
      · rw [whoD_c (Z := zNig A Z (n : Int) (p : Int) s) (by rw [zSee_r (by omega), zSee_r (by omega)]) (by rw [zSee_r (by omega), zSee_r (by omega)])]
        exact ndn k hk
      · unfold zFnd
        rw [if_neg (by omega), if_pos (an.mp z)]
      · unfold zFnd
        rw [if_neg (by omega), if_neg fun q => z (an.mpr q), zSee_r (q := 0) (by omega), zSee_r (q := 0) (by omega)]
    exact ⟨fun z => fin 0 ⟨fun _ => Or.inl z, fun _ => rfl⟩, fun z => ⟨fun z2 => fin 0 ⟨fun _ => Or.inr z2, fun _ => rfl⟩, fun z2 => fin 1 ⟨fun q => absurd q (by decide), fun q => (q.elim z z2).elim⟩⟩⟩
  · -- alone
    have hs1 : s = -1 := by omega
    refine eK (ac_painsOf (d := 0) (hY.sub 3 rfl) (c2.1.o1 w.1 (by omega))) (by omega) ?_
    rw [c2.1.p1 hp (by omega) r.2 (by omega), q6, e6, v7]
    refine ⟨by omega, by unfold am_ri; omega, by unfold am_ri; omega, fun h33 e33 => ?_⟩
    have f33 := f2.trans (crF.u e33 (by omega))
    have d33 := d2.u0 e33
    rw [Int.toNat_natCast, d33.2.1 p (by omega), am_u_o (by omega), am_u_o (by omega), am_u_o (by omega)]
    refine ⟨by omega, by unfold am_ri; omega, by omega, fun h34 e34 => ?_⟩
    have f34 := f33.trans (crF.u e34 (by omega))
    have d34 : crD h34 o A (zNig A Z (n : Int) (p : Int) s) y := by
      refine (d33.u1 e34).same ?_
      unfold zNig
      rw [if_pos hs1, am_u_2, am_u_c (q := 0) (i := 7) (q' := 1) (by omega), am_u_c (q := 0) (i := 1) (q' := 1) (by omega), Int.toNat_natCast]
      congr 1
      omega
    refine am_kI.of (ac_R_found (d := 0) hY (c.but f34) d34 w hp) (by omega) ?_
    rintro v36 h35 - - ⟨rfl, d35, f35⟩
    have b35 : zB (zSee A (zNig A Z (n : Int) (p : Int) s) (p : Int)).1 (B + 4) := bn.ux (by omega)
    refine night_255 (d := d) hY ((c.but f34).but f35) w d35 (f34.trans f35) b35 (by omega) hn hq ht hT hy (fun k hk => ?_) (fun z => ?_) (fun z => ?_)
    · rw [whoD_c (Z := zNig A Z (n : Int) (p : Int) s) (zSee_r (by omega)) (zSee_r (by omega))]
      exact ndn k hk
    · unfold zFnd
      rw [if_pos hs1, if_pos z]
    · unfold zFnd
      rw [if_pos hs1, if_neg z, zSee_r (q := 0) (by omega)]
theorem ac_R_night (hY : am_at Y o am_L5) (c : crS h o A N T) (w : wV A) (cd : crD h o A Z y) (b : zB Z B) (hB : B ≤ 70000) (hn : (n : Int) < A 2) (hq : asked A (p : Int) (n : Int)) (ht : (t : Int) ≤ T) (hT : T ≤ 20) (hy : 0 ≤ y ∧ y ≤ 1000) (nd : ∀ k : Nat, (k : Int) < A 1 → whoD A Z (n : Int) y k = 0) (es : s = if A (325 + 2 * p) = 4 then ptn A (n : Int) p else -1) : am_cV am_Run_helpByNight (d + 6) Y [.inr (.inr o), .inl y, .inl (n : Int), .inl (t : Int), .inl (p : Int)] h (fun h1 => crD h1 o A (zFnd A (zNig A Z (n : Int) (p : Int) s) (n : Int) t y (p : Int) s) y ∧ crF h h1 o) := by
  have hz := w.1.z
  unfold rz at hz
  have w2 := wr_2 w.1
  have hp := hq.1
  obtain ⟨-, e13, -, -, -⟩ := c.cells w hn
  have pr := ptn_rg (A := A) (n := (n : Int)) (by omega) p
  have w4 := (c.2.2.1 p (by omega)).1
  refine am_Met.of (by decide) rfl (Nat.le_of_ble_eq_true rfl) (ab_Run_helpByNight_0 hY ?_)
  rw [Int.toNat_natCast, Int.toNat_natCast, w4, e13]
  refine ⟨by omega, by omega, fun z => ?_, fun z => eK (ac_R_partnerOf (d := 0) hY c w hp.2) (by omega) ?_⟩
  · rw [if_neg z] at es
    subst es
    exact night_33 hY c w cd b hB hn hq ht hT hy nd (Or.inl rfl)
  · rw [if_pos z] at es
    subst es
    exact night_33 hY c w cd b hB hn hq ht hT hy nd (by omega)
theorem ac_R_meet (hY : am_at Y o am_L5) (c : crS h o A N T) (w : wV A) (cd : crD h o A Z y) (b : zB Z B) (hB : B ≤ 60000) (hn : (n : Int) < A 2) (ht : (t : Int) ≤ T) (hT : T ≤ 20) (hy : 0 ≤ y ∧ y ≤ 1000) : am_cV am_Run_meet (d + 7) Y [.inr (.inr o), .inl y, .inl (n : Int), .inl (t : Int)] h (fun h1 => crD h1 o A (zMeet A Z (n : Int) t y) y ∧ crF h h1 o) := by
  have hz := w.1.z
  unfold rz at hz
  have w2 := wr_2 w.1
  have r : (0 ≤ ndP A (n : Int) ∧ ndP A (n : Int) < A 1) ∧ (0 ≤ ndK A (n : Int) ∧ ndK A (n : Int) < A 0) := needRg w ⟨by omega, hn⟩
  refine am_Met.of (by decide) rfl (Nat.le_of_ble_eq_true rfl) (ab_Run_meet_0 hY ?_)
  have lq : (∀ k : Nat, (k : Int) < A 1 → whoD A Z (n : Int) y k = 0) → sr (whoD A Z (n : Int) y) (A 1).toNat 0 = -1 → ∀ i : Int, 0 ≤ i → i ≤ A 1 → sr (fAc A (n : Int) t) (A 1).toNat 0 = sr (fAc A (n : Int) t) (A 1).toNat i.toNat → aw_Run_meet_43 (d + 7) Y o y (n : Int) (t : Int) i h (am_qV fun h1 => crD h1 o A (zMeet A Z (n : Int) t y) y ∧ crF h h1 o) := by
    intro nd z0
    refine am_up (fun i => 0 ≤ i → i ≤ A 1 → sr (fAc A (n : Int) t) (A 1).toNat 0 = sr (fAc A (n : Int) t) (A 1).toNat i.toNat → aw_Run_meet_43 (d + 7) Y o y (n : Int) (t : Int) i h (am_qV fun h1 => crD h1 o A (zMeet A Z (n : Int) t y) y ∧ crF h h1 o)) (A 1) ?_ ?_
    · intro i hi h0 h8 es
      have b6 := b.1 6 (by omega) (by omega) (by omega)
      rw [sr_e (q := i.toNat) (by omega)] at es
      refine ab_Run_meet_43 hY ?_
      rw [c.2.1, cd.1 6 (by omega)]
      refine ⟨fun _ => ⟨by unfold am_ri; omega, fun h1 e1 => ?_⟩, fun q => by omega⟩
      rw [am_qV_s]
      unfold zMeet
      rw [if_neg (fun q => q z0), if_pos es]
      exact ⟨cd.u0 e1, crF.u e1 (by omega)⟩
    · intro i hi ih h0 h8 es
      have ii : ((i.toNat : Nat) : Int) = i := by omega
      rw [sr_s (q := i.toNat) (by omega), ii] at es
      have next : fAc A (n : Int) t i.toNat = 0 → (am_ri (i + 1)) ∧ aw_Run_meet_43 (d + 7) Y o y (n : Int) (t : Int) (i + 1) h (am_qV fun h1 => crD h1 o A (zMeet A Z (n : Int) t y) y ∧ crF h h1 o) := by
        intro z
        rw [if_pos z] at es
        exact ⟨by unfold am_ri; omega, ih (by omega) (by omega) (by rw [show (i + 1).toNat = i.toNat + 1 from by omega]; exact es)⟩
      refine ab_Run_meet_43 hY ?_
      rw [c.2.1]
      refine ⟨fun z => by omega, fun _ => eK (ac_canMeet (d := 0) (hY.sub 3 rfl) (c.1.o1 w.1 (by omega))) (by omega) ?_⟩
      rw [vcm_is c.1 w]
      by_cases q : asked A i (n : Int)
      · rw [if_pos q]
        refine ⟨fun z => absurd z (by decide), fun _ => ?_⟩
        have q' : asked A ((i.toNat : Nat) : Int) (n : Int) := by rw [ii]; exact q
        have fa := ac_R_freeAct (d := 0) hY c w q' ht hT
        rw [ii] at fa
        refine eK fa (by omega) ?_
        have frg := fAc_rg (A := A) (n := (n : Int)) (t := t) i.toNat
        refine ab_Run_meet_77 hY ⟨fun z2 => ⟨fun z1 => next (by omega), fun z1 => ?_⟩, fun z2 => ?_⟩
        · rw [if_neg (by omega)] at es
          have nt := ac_R_night (d := 0) (p := i.toNat) (s := if A (325 + 2 * i.toNat) = 4 then ptn A (n : Int) i.toNat else -1) hY c w cd b (by omega) hn q' ht hT hy nd rfl
          rw [ii] at nt
          refine am_kV.of nt (by omega) ?_
          rintro h1 - ⟨d1, f1⟩
          rw [am_qV_s]
          unfold zMeet
          rw [if_neg (fun q => q z0), es, if_neg (by omega), if_neg (by omega)]
          exact ⟨d1, f1⟩
        · rw [if_neg (by omega)] at es
          refine am_kV.of (ac_R_day (d := 0) hY c w cd b (by omega) hn ⟨h0, hi⟩) (by omega) ?_
          rintro h4 - ⟨d4, f4⟩
          have bd := b.day (n := (n : Int)) (p := i) w.1 (by omega) (by omega)
          refine am_kV.of (ac_R_thank (d := 0) (s := -1) hY (c.but f4) w d4 bd (by omega) hn q ht hT hy fun k hk => ?_) (by omega) ?_
          · rw [whoD_c (Z := Z) (zDay_r (by omega)) (zDay_r (by omega))]
            exact nd k hk
          · rintro h5 - ⟨d5, f5⟩
            rw [am_qV_s]
            unfold zMeet
            rw [if_neg (fun q => q z0), es, if_neg (by omega), if_pos z2]
            exact ⟨d5, f4.trans f5⟩
      · rw [if_neg q]
        have f0 : fAc A (n : Int) t i.toNat = 0 := if_pos (by rw [ii]; exact q)
        refine ⟨fun _ => ab_Run_meet_77 hY ⟨fun _ => ⟨fun _ => next f0, fun z => absurd z (by decide)⟩, fun z => absurd z (by decide)⟩, fun z => absurd rfl z⟩
  have lp : ∀ i : Int, 0 ≤ i → i ≤ A 1 → (∀ k : Nat, (k : Int) < i → whoD A Z (n : Int) y k = 0) → sr (whoD A Z (n : Int) y) (A 1).toNat 0 = sr (whoD A Z (n : Int) y) (A 1).toNat i.toNat → aw_Run_meet_3 (d + 7) Y o y (n : Int) (t : Int) i h (am_qV fun h1 => crD h1 o A (zMeet A Z (n : Int) t y) y ∧ crF h h1 o) := by
    refine am_up (fun i => 0 ≤ i → i ≤ A 1 → (∀ k : Nat, (k : Int) < i → whoD A Z (n : Int) y k = 0) → sr (whoD A Z (n : Int) y) (A 1).toNat 0 = sr (whoD A Z (n : Int) y) (A 1).toNat i.toNat → aw_Run_meet_3 (d + 7) Y o y (n : Int) (t : Int) i h (am_qV fun h1 => crD h1 o A (zMeet A Z (n : Int) t y) y ∧ crF h h1 o)) (A 1) ?_ ?_
    · intro i hi h0 h8 nd es
      rw [sr_e (q := i.toNat) (by omega)] at es
      refine ab_Run_meet_3 hY ?_
      rw [c.2.1]
      exact ⟨fun _ => lq (fun k hk => nd k (by omega)) es 0 (by omega) (by omega) rfl, fun z => by omega⟩
    · intro i hi ih h0 h8 nd es
      have ii : ((i.toNat : Nat) : Int) = i := by omega
      rw [sr_s (q := i.toNat) (by omega), ii] at es
      refine ab_Run_meet_3 hY ?_
      rw [c.2.1]
      refine ⟨fun z => by omega, fun _ => isDueK (hY.sub 16 rfl) (by omega) (by omega) (by omega) ?_⟩
      have du := due_is cd hn (k := i.toNat) (by omega)
      rw [show 48 * i.toNat + n = (i * 48 + (n : Int)).toNat from by omega] at du
      by_cases q : h (o + 17) (i * 48 + (n : Int)).toNat < y ∧ y ≤ h (o + 18) (i * 48 + (n : Int)).toNat
      · rw [if_pos q]
        have d0 := du.mp q
        rw [if_neg d0] at es
        refine ⟨fun z => absurd z (by decide), fun _ => am_kV.of (ac_R_day (d := 0) hY c w cd b (by omega) hn ⟨h0, hi⟩) (by omega) ?_⟩
        rintro h4 - ⟨d4, f4⟩
        rw [am_qV_s]
        unfold zMeet
        rw [es, if_pos (by omega)]
        exact ⟨d4, f4⟩
      · rw [if_neg q]
        have d0 : whoD A Z (n : Int) y i.toNat = 0 := Decidable.byContradiction fun z => q (du.mpr z)
        rw [if_pos d0] at es
        refine ⟨fun _ => ⟨by unfold am_ri; omega, ih (by omega) (by omega) (fun k hk => ?_) (by rw [show (i + 1).toNat = i.toNat + 1 from by omega]; exact es)⟩, fun z => absurd rfl z⟩
        by_cases ki : k = i.toNat
        · rw [ki]; exact d0
        · exact nd k (by omega)
  exact lp 0 (by omega) (by omega) (fun k hk => by omega) rfl
end
