/-! the class's run: by day, by night, thanks, meet -/
section
variable {Y : am_Y} {h h1 h2 : am_H} {o d : Nat} {A N : Nat → Int} {Z : am_H} {T y p s u B : Int} {n t : Nat}
theorem nd_n (A : Nat → Int) (n : Nat) : ndP A (n : Int) = A (225 + 2 * n) ∧ ndK A (n : Int) = A (226 + 2 * n) := by
  unfold ndP ndK
  rw [show (225 + 2 * (n : Int)).toNat = 225 + 2 * n from by omega, show (226 + 2 * (n : Int)).toNat = 226 + 2 * n from by omega]
  exact ⟨rfl, rfl⟩
theorem due_is (c : crD h o A Z y) (hn : (n : Int) < A 2) {k : Nat} (hk : k < 8) : (h (o + 17) (48 * k + n) < y ∧ y ≤ h (o + 18) (48 * k + n)) ↔ ¬ whoD A Z (n : Int) y k = 0 := by
  have e := c.2.2.2.due hk hn (show zJ Z y 0 4 = y from rfl)
  obtain ⟨n1, n2⟩ := nd_n A n
  have e2 : (h (o + 17) (48 * k + n) < y ∧ y ≤ h (o + 18) (48 * k + n)) ↔ (¬ (0 : Int) = 0 ∨ Z 2 (jb (k : Int) (A (225 + 2 * n)) (A (226 + 2 * n))) ≤ y ∧ y ≤ Z 3 (jb (k : Int) (A (225 + 2 * n)) (A (226 + 2 * n)))) := e
  rw [e2]
  unfold whoD
  rw [n1, n2]
  by_cases z : Z 2 (jb (k : Int) (A (225 + 2 * n)) (A (226 + 2 * n))) ≤ y ∧ y ≤ Z 3 (jb (k : Int) (A (225 + 2 * n)) (A (226 + 2 * n)))
  · rw [if_pos z]
    exact ⟨fun _ => by omega, fun _ => Or.inr z⟩
  · rw [if_neg z]
    exact ⟨fun q => q.elim (fun r => absurd rfl r) (fun r => absurd r z), fun q => absurd rfl q⟩
/-- the cells that a need's help reads -/
theorem crS.cells (c : crS h o A N T) (w : wV A) (hn : (n : Int) < A 2) : h (o + 12) n = ndP A (n : Int) ∧ h (o + 13) n = ndK A (n : Int) ∧ h (o + 5) (ndK A (n : Int)).toNat = A (10 + 2 * ndK A (n : Int)).toNat ∧ h (o + 6) (ndK A (n : Int)).toNat = A (11 + 2 * ndK A (n : Int)).toNat ∧ h (o + 15) (ndP A (n : Int)).toNat = A (326 + 2 * ndP A (n : Int)).toNat := by
  have hz := w.1.z
  unfold rz at hz
  have r : (0 ≤ ndP A (n : Int) ∧ ndP A (n : Int) < A 1) ∧ (0 ≤ ndK A (n : Int) ∧ ndK A (n : Int) < A 0) := needRg w ⟨by omega, hn⟩
  have e := need_is c.1 (n := (n : Int)) ⟨by omega, hn⟩
  rw [Int.toNat_natCast] at e
  have k := c.1.2.1 (ndK A (n : Int)).toNat (by omega)
  have t := (c.2.2.1 (ndP A (n : Int)).toNat (by omega)).2
  refine ⟨e.1, e.2, ?_, ?_, ?_⟩
  · rw [show (10 + 2 * ndK A (n : Int)).toNat = 10 + 2 * (ndK A (n : Int)).toNat from by omega]
    exact k.2.1
  · rw [show (11 + 2 * ndK A (n : Int)).toNat = 11 + 2 * (ndK A (n : Int)).toNat from by omega]
    exact k.2.2
  · rw [show (326 + 2 * ndP A (n : Int)).toNat = 326 + 2 * (ndP A (n : Int)).toNat from by omega]
    exact t
theorem ac_R_day (hY : am_at Y o am_L5) (c : crS h o A N T) (w : wV A) (cd : crD h o A Z y) (b : zB Z B) (hB : B ≤ 100000) (hn : (n : Int) < A 2) (hp : 0 ≤ p ∧ p < A 1) : am_cV am_Run_helpByDay (d + 1) Y [.inr (.inr o), .inl p, .inl (n : Int)] h (fun h1 => crD h1 o A (zDay A Z (n : Int) p) y ∧ crF h h1 o) := by
  have hz := w.1.z
  unfold rz at hz
  have w2 := wr_2 w.1
  obtain ⟨e12, e13, e5, e6, -⟩ := c.cells w hn
  have r : (0 ≤ ndP A (n : Int) ∧ ndP A (n : Int) < A 1) ∧ (0 ≤ ndK A (n : Int) ∧ ndK A (n : Int) < A 0) := needRg w ⟨by omega, hn⟩
  have b0 := b.1 0 (by omega) (by omega) (by omega)
  have bp := b.2.2 p.toNat (by omega)
  have rp := wr_wph w.1 (k := ndK A (n : Int)) (p := p) (by omega) (by omega)
  refine am_Met.of (by decide) rfl (Nat.le_of_ble_eq_true rfl) (ab_Run_helpByDay_0 hY ?_)
  rw [Int.toNat_natCast, e13, cd.1 0 (by omega)]
  refine ⟨by omega, by unfold am_ri; omega, fun h1 e1 => ⟨by omega, ?_⟩⟩
  have f1 : crF h h1 o := crF.u e1 (by omega)
  have c1 := c.but f1
  have d1 := cd.u0 e1
  refine eK (ac_painsOf (d := 0) (hY.sub 3 rfl) (c1.1.o1 w.1 (by omega))) (by omega) ?_
  rw [c1.1.p1 hp (by omega) r.2 (by omega), show h1 (o + 5) = h (o + 5) from f1.1 _ (by omega) (by omega) (by omega) (by omega), e5, d1.1 7 (by omega), am_u_j (by omega)]
  refine ⟨by unfold am_ri; omega, by have := b.2.1; unfold am_ri; omega, fun h4 e4 => ?_⟩
  have d4 := d1.u0 e4
  have f4 := f1.trans (crF.u e4 (by omega))
  rw [d4.2.1 p.toNat (by omega), am_u_o (by omega), am_u_o (by omega)]
  refine ⟨by omega, by unfold am_ri; omega, by omega, fun h5 e5' => ?_⟩
  rw [am_qV_s]
  refine ⟨(d4.u1 e5').same ?_, f4.trans (crF.u e5' (by omega))⟩
  unfold zDay
  rw [am_u_c (q := 0) (i := 7) (q' := 1) (by omega), am_u_c (q := 0) (i := 0) (q' := 1) (by omega)]
theorem th_104 {X : am_H} {s3 : Int} (hY : am_at Y o am_L5) (c : crS h o A N T) (w : wV A) (cd : crD h o A X y) (hX : am_u X 0 4 (X 0 4 + s3) = zT3 Z u p s) (b4 : 0 ≤ X 0 4 ∧ X 0 4 ≤ 100000 ∧ 0 ≤ s3 ∧ s3 ≤ 1) (hn : (n : Int) < A 2) (hu : 0 ≤ u ∧ u < A 1) (hy : 0 ≤ y ∧ y ≤ 1000) (nd : whoD A (zT3 Z u p s) (n : Int) y u.toNat = 0) : aw_Run_thank_104 (d + 4) Y o y (n : Int) u 4 (h (o + 2) 4) s3 h (am_qV fun h1 => crD h1 o A (zThk2 A Z (n : Int) y u p s) y ∧ crF h h1 o) := by
  have hz := w.1.z
  unfold rz at hz
  have w2 := wr_2 w.1
  have w3 := wr_3 w.1
  obtain ⟨n1, n2⟩ := nd_n A n
  refine ab_Run_thank_104 hY ?_
  rw [cd.1 4 (by omega)]
  refine ⟨by unfold am_ri; omega, by omega, fun h1 e1 => ?_⟩
  have e1' : h1 = am_u h (o + 2) 4 (X 0 4 + s3) := e1
  have f1 : crF h h1 o := crF.u e1' (by omega)
  have c1 := c.but f1
  have d1 : crD h1 o A (zT3 Z u p s) y := (cd.u0 e1').same hX.symm
  have hu2 : u < h1 (o + 3) 2 := by
    have : h1 (o + 3) 2 = A 1 := c1.1.1.2.1
    omega
  refine isAboveK (hY.sub 16 rfl) (hY.sub 3 rfl) (by omega) hu2 (by omega) (by omega) ?_
  have eL : h1 (o + 3 + 5) u.toNat = A (25 + u).toNat := by
    rw [(c1.1.2.2.1 u.toNat (by omega)).2, show (25 + u).toNat = 25 + u.toNat from by omega]
  have eS : bdS h1 (o + 16) u.toNat y = zCnt A (Z 3) u y := by
    rw [d1.2.2.2.standing w.2 w.1.z w2 (by omega) (by omega)]
    have j2 : zJ (zT3 Z u p s) y 2 = Z 3 := by
      show zT3 Z u p s 3 = Z 3
      exact zT3_r (by omega)
    unfold jCnt
    rw [j2, show ((u.toNat : Nat) : Int) = u from by omega]
    rfl
  have eB : h1 (o + 16 + 2) (u * 48 + (n : Int)).toNat = Z 3 (jb u (ndP A (n : Int)) (ndK A (n : Int))) := by
    have q := (d1.2.2.2.1 u.toNat n (by omega) hn).1
    rw [show (u * 48 + (n : Int)).toNat = 48 * u.toNat + n from by omega, q]
    show zT3 Z u p s 3 (jb ((u.toNat : Nat) : Int) (A (225 + 2 * n)) (A (226 + 2 * n))) = _
    rw [zT3_r (by omega), n1, n2, show ((u.toNat : Nat) : Int) = u from by omega]
  rw [eL, eS, eB]
  by_cases z : Z 3 (jb u (ndP A (n : Int)) (ndK A (n : Int))) < y ∧ A (25 + u).toNat ≤ zCnt A (Z 3) u y
  · rw [if_pos z]
    refine ⟨fun _ => ?_, fun q => absurd q (by decide)⟩
    rw [d1.1 5 (by omega), zT3_5]
    refine ⟨fun z5 => ?_, fun z5 h4 e4 => ?_⟩
    · rw [am_qV_s]
      unfold zThk2
      rw [if_pos z, if_neg z5]
      exact ⟨d1, f1⟩
    · rw [am_qV_s]
      unfold zThk2
      rw [if_pos z, if_pos z5]
      exact ⟨d1.u0 e4, f1.trans (crF.u e4 (by omega))⟩
  · rw [if_neg z]
    refine ⟨fun q => absurd rfl q, fun _ => bindK (hY.sub 16 rfl) (by omega) (by omega) ?_ (by rw [show (u * 48 + (n : Int)).toNat = 48 * u.toNat + n from by omega]; exact d1.2.2.2.made (by omega) (by omega)) (by omega) fun h6 B6 => ?_⟩
    · have : h1 (o + 3) 4 = A 3 := c1.1.1.2.2.2.1
      rw [this]
      omega
    · have e34 : h1 (o + 3) 4 = A 3 := c1.1.1.2.2.2.1
      rw [e34, show (u * 48 + (n : Int)).toNat = 48 * u.toNat + n from by omega] at B6
      have ndu : ¬ (h1 (o + 17) (48 * u.toNat + n) < y ∧ y ≤ h1 (o + 18) (48 * u.toNat + n)) := fun q => (due_is d1 hn (by omega)).mp q nd
      have uu : ((u.toNat : Nat) : Int) = u := by omega
      have B6' : bdB h1 h6 (o + 16) (48 * u.toNat + n) ((u.toNat : Nat) : Int) y (A 3) := by
        rw [uu]
        exact B6
      have q6 := B6.2.2.2
      rw [am_qV_s]
      unfold zThk2
      rw [if_neg z]
      have bn := d1.2.2.2.bind (h1 := h6) (p := u.toNat) (J' := zJ (am_u (am_u (am_u (zT3 Z u p s) 2 (jb u (ndP A (n : Int)) (ndK A (n : Int))) (y + 1)) 3 (jb u (ndP A (n : Int)) (ndK A (n : Int))) (y + A 3)) 4 1 (am_or (Z 4 1) (am_shl 1 u))) y) w.2 w.1.z (by omega) (by omega) hn (by omega) (by omega) B6' ?_ ?_ ?_ ?_
      · refine ⟨⟨fun i hi => ?_, fun k hk => ?_, ?_, bn⟩, f1.trans ⟨fun q p1 p2 p3 p4 => q6 q (by omega) (by omega) (by omega), fun j _ => by rw [q6 o (by omega) (by omega) (by omega)]⟩⟩
        · rw [q6 _ (by omega) (by omega) (by omega), d1.1 i hi, am_u_o (by omega), am_u_o (by omega), am_u_o (by omega)]
        · rw [q6 _ (by omega) (by omega) (by omega), d1.2.1 k hk, am_u_o (by omega), am_u_o (by omega), am_u_o (by omega)]
        · rw [q6 _ (by omega) (by omega) (by omega), d1.2.2.1, am_u_j (by omega), am_u_o (by omega), am_u_o (by omega)]
      · rw [if_neg ndu]
        show (fun _ => (0 : Int)) = up (fun _ => 0) _ 0
        funext i
        unfold up
        split <;> rfl
      · show (am_u (am_u (am_u (zT3 Z u p s) 2 (jb u (ndP A (n : Int)) (ndK A (n : Int))) (y + 1)) 3 (jb u (ndP A (n : Int)) (ndK A (n : Int))) (y + A 3)) 4 1 (am_or (Z 4 1) (am_shl 1 u))) 2 = up (zT3 Z u p s 2) (jb ((u.toNat : Nat) : Int) (A (225 + 2 * n)) (A (226 + 2 * n))) (y + 1)
        rw [am_u_n _ _ _ _ _ (by omega), am_u_n _ _ _ _ _ (by omega), am_u_up, n1, n2, uu]
      · show (am_u (am_u (am_u (zT3 Z u p s) 2 (jb u (ndP A (n : Int)) (ndK A (n : Int))) (y + 1)) 3 (jb u (ndP A (n : Int)) (ndK A (n : Int))) (y + A 3)) 4 1 (am_or (Z 4 1) (am_shl 1 u))) 3 = up (zT3 Z u p s 3) (jb ((u.toNat : Nat) : Int) (A (225 + 2 * n)) (A (226 + 2 * n))) (y + A 3)
        rw [am_u_n _ _ _ _ _ (by omega), am_u_up, am_u_n _ _ _ _ _ (by omega), n1, n2, uu]
      · show (am_u (am_u (am_u (zT3 Z u p s) 2 (jb u (ndP A (n : Int)) (ndK A (n : Int))) (y + 1)) 3 (jb u (ndP A (n : Int)) (ndK A (n : Int))) (y + A 3)) 4 1 (am_or (Z 4 1) (am_shl 1 u))) 4 1 = am_or (zT3 Z u p s 4 1) (am_shl 1 ((u.toNat : Nat) : Int))
        rw [am_u_s, zT3_r (by omega), uu]
theorem ac_R_thank (hY : am_at Y o am_L5) (c : crS h o A N T) (w : wV A) (cd : crD h o A Z y) (b : zB Z B) (hB : B ≤ 90000) (hn : (n : Int) < A 2) (hq : asked A p (n : Int)) (ht : (t : Int) ≤ T) (hT : T ≤ 20) (hy : 0 ≤ y ∧ y ≤ 1000) (nd : ∀ k : Nat, (k : Int) < A 1 → whoD A Z (n : Int) y k = 0) : am_cV am_Run_thank (d + 5) Y [.inr (.inr o), .inl y, .inl (n : Int), .inl (t : Int), .inl p, .inl s] h (fun h1 => crD h1 o A (zThk A Z (n : Int) t y p s) y ∧ crF h h1 o) := by
  have hz := w.1.z
  unfold rz at hz
  have w2 := wr_2 w.1
  obtain ⟨e12, e13, -, -, e15⟩ := c.cells w hn
  have r : (0 ≤ ndP A (n : Int) ∧ ndP A (n : Int) < A 1) ∧ (0 ≤ ndK A (n : Int) ∧ ndK A (n : Int) < A 0) := needRg w ⟨by omega, hn⟩
  have b3 := b.1 3 (by omega) (by omega) (by omega)
  have b4 := b.1 4 (by omega) (by omega) (by omega)
  have hp := hq.1
  have pp : ((p.toNat : Nat) : Int) = p := by omega
  have nd' : ∀ u, 0 ≤ u ∧ u < A 1 → whoD A (zT3 Z u p s) (n : Int) y u.toNat = 0 := by
    intro u hu
    have := nd u.toNat (by omega)
    unfold whoD at this ⊢
    rw [zT3_r (by omega), zT3_r (by omega)]
    exact this
  have go : ¬ A (326 + 2 * ndP A (n : Int)).toNat = 0 → ¬ (A (326 + 2 * ndP A (n : Int)).toNat = 2 ∧ ¬ bA (pmA A p (n : Int) 1) t 0 = 0) → am_wp am_Run_thank (d + 5) Y 48 [some (.inr (.inr o)), some (.inl y), some (.inl (n : Int)), none, some (.inl p), some (.inl s), some (.inl (A (326 + 2 * ndP A (n : Int)).toNat)), none] [] h (am_qV fun h1 => crD h1 o A (zThk A Z (n : Int) t y p s) y ∧ crF h h1 o) := by
    intro z0 z2
    have ez : zThk A Z (n : Int) t y p s = zThk2 A Z (n : Int) y (whom A (n : Int) p (A (326 + 2 * ndP A (n : Int)).toNat)) p s := by
      unfold zThk
      rw [if_neg z0, if_neg z2]
    rw [ez]
    have fin : ∀ u, 0 ≤ u ∧ u < A 1 → (am_ri ((h (o + 2) 3) + 1)) ∧ (∀ h6 : am_H, h6 = am_u h (o + 2) 3 ((h (o + 2) 3) + 1) → (u = p → aw_Run_thank_104 (d + 5) Y o y (n : Int) u 4 (h6 (o + 2) 4) 0 h6 (am_qV fun h1 => crD h1 o A (zThk2 A Z (n : Int) y u p s) y ∧ crF h h1 o)) ∧ (¬ u = p → (u = s → aw_Run_thank_104 (d + 5) Y o y (n : Int) u 4 (h6 (o + 2) 4) 0 h6 (am_qV fun h1 => crD h1 o A (zThk2 A Z (n : Int) y u p s) y ∧ crF h h1 o)) ∧ (¬ u = s → aw_Run_thank_104 (d + 5) Y o y (n : Int) u 4 (h6 (o + 2) 4) 1 h6 (am_qV fun h1 => crD h1 o A (zThk2 A Z (n : Int) y u p s) y ∧ crF h h1 o)))) := by
      intro u hu
      rw [cd.1 3 (by omega)]
      refine ⟨by unfold am_ri; omega, fun h6 e6 => ?_⟩
      have f6 : crF h h6 o := crF.u e6 (by omega)
      have d6 := cd.u0 e6
      have x4 : (am_u Z 0 3 (Z 0 3 + 1)) 0 4 = Z 0 4 := am_u_j (by omega)
      have tr : ∀ s3 : Int, 0 ≤ s3 ∧ s3 ≤ 1 → am_u (am_u Z 0 3 (Z 0 3 + 1)) 0 4 ((am_u Z 0 3 (Z 0 3 + 1)) 0 4 + s3) = zT3 Z u p s → aw_Run_thank_104 (d + 5) Y o y (n : Int) u 4 (h6 (o + 2) 4) s3 h6 (am_qV fun h1 => crD h1 o A (zThk2 A Z (n : Int) y u p s) y ∧ crF h h1 o) := by
        intro s3 h3 hX
        refine am_wp.mono (th_104 (d := d + 1) hY (c.but f6) w d6 hX (by rw [x4]; omega) hn hu hy (nd' u hu)) ?_
        rintro r h1 ho hr ⟨hr2, a, b⟩
        exact ⟨hr2, a, f6.trans b⟩
      have t0 : u = p ∨ u = s → am_u (am_u Z 0 3 (Z 0 3 + 1)) 0 4 ((am_u Z 0 3 (Z 0 3 + 1)) 0 4 + 0) = zT3 Z u p s := by
        intro q
        rw [Int.add_zero, am_u_id rfl]
        exact (if_pos q).symm
      refine ⟨fun q => tr 0 (by omega) (t0 (Or.inl q)), fun q => ⟨fun q2 => tr 0 (by omega) (t0 (Or.inr q2)), fun q2 => tr 1 (by omega) ?_⟩⟩
      rw [x4]
      exact (if_neg (by omega)).symm
    by_cases w3 : A (326 + 2 * ndP A (n : Int)).toNat = 3
    · rw [w3]
      have ew : whom A (n : Int) p 3 = if sr (othr A (n : Int) p) (A 1).toNat 0 = -1 then p else sr (othr A (n : Int) p) (A 1).toNat 0 := if_pos rfl
      have hu : 0 ≤ whom A (n : Int) p 3 ∧ whom A (n : Int) p 3 < A 1 := by
        rw [ew]
        have := srP_rg (A := A) (by omega) (othr A (n : Int) p) 0
        split
        · exact hp
        · omega
      exact ab_Run_thank_48 hY ⟨fun q => absurd rfl q, fun _ => eK (ac_R_firstOther (d := 0) hY c w) (by omega) (fin _ hu)⟩
    · have ew : whom A (n : Int) p (A (326 + 2 * ndP A (n : Int)).toNat) = p := if_neg w3
      rw [ew]
      have fp := fin p hp
      exact ab_Run_thank_48 hY ⟨fun _ => fp, fun q => absurd q w3⟩
  refine am_Met.of (by decide) rfl (Nat.le_of_ble_eq_true rfl) (ab_Run_thank_0 hY ?_)
  rw [Int.toNat_natCast, e12, e15]
  refine ⟨by omega, by omega, fun z => ⟨fun z2 => go z fun q => z2 q.1, fun z2 => ⟨by unfold am_ri; omega, by unfold am_ri; omega, by omega, ?_⟩⟩, fun z => ?_⟩
  · have pl := (c.2.2.2 p.toNat n (by rw [pp]; exact hq)).2 z2
    rw [pp] at pl
    rw [show (p * 48 + (n : Int)).toNat = 48 * p.toNat + n from by omega]
    refine eK (ac_planned (d := 0) pl ht hT) (by omega) ⟨fun z3 => go z fun q => q.2 z3, fun z3 => ?_⟩
    rw [am_qV_s]
    unfold zThk
    rw [if_neg z, if_pos ⟨z2, z3⟩]
    exact ⟨cd, crF.refl⟩
  · rw [am_qV_s]
    unfold zThk
    rw [if_pos z]
    exact ⟨cd, crF.refl⟩
end
