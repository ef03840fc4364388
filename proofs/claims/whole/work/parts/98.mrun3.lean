/-! the reference's run, whole -/
def zIni (h : am_H) (m : Nat) (x : Int) : am_H := fun i => if i = 0 then up (fil (h (m + 20)) 0 8) 5 (-1) else if i = 1 then fil (h (m + 21)) 0 8 else if i = 2 then fil (h (m + 10)) 0 384 else if i = 3 then fil (h (m + 11)) (-1) 384 else fun j => if j = 0 then x else 0
/-- how a run begins -/
def zI (Z : am_H) (x : Int) : Prop := (∀ i, i < 8 → Z 0 i = if i = 5 then -1 else 0) ∧ (∀ p, p < 8 → Z 1 p = 0) ∧ (∀ b, b < 384 → Z 2 b = 0 ∧ Z 3 b = -1) ∧ Z 4 0 = x ∧ Z 4 1 = 0
theorem zIni_i (h : am_H) (m : Nat) (x : Int) : zI (zIni h m x) x := by
  refine ⟨fun i hi => ?_, fun p hp => ?_, fun b hb => ⟨?_, ?_⟩, rfl, rfl⟩
  · show up (fil (h (m + 20)) 0 8) 5 (-1) i = _
    unfold up fil
    rw [if_pos hi]
  · show fil (h (m + 21)) 0 8 p = 0
    unfold fil
    rw [if_pos hp]
  · show fil (h (m + 10)) 0 384 b = 0
    unfold fil
    rw [if_pos hb]
  · show fil (h (m + 11)) (-1) 384 b = -1
    unfold fil
    rw [if_pos hb]
theorem zI.b {Z : am_H} {x : Int} (c : zI Z x) : zB Z 0 := by
  obtain ⟨c1, c2, -⟩ := c
  refine ⟨fun i hi h5 h7 => ?_, ?_, fun p hp => ?_⟩
  · rw [c1 i hi, if_neg h5]
    omega
  · rw [c1 7 (by omega), if_neg (by omega)]
    omega
  · rw [c2 p hp]
    omega
section
variable {A : Nat → Int} {Z : am_H} {y B : Int} {t : Nat}
theorem zB.ns (w : wV A) (c : zB Z B) : ∀ k : Nat, (k : Int) ≤ A 2 → zB (zNs A t y k Z) (B + 8 * (k : Int))
  | 0, _ => c.mono (by omega)
  | k + 1, hk => by
    have hz := w.1.z
    unfold rz at hz
    have r : (0 ≤ ndP A (k : Int) ∧ ndP A (k : Int) < A 1) ∧ (0 ≤ ndK A (k : Int) ∧ ndK A (k : Int) < A 0) := needRg w (by omega)
    exact ((zB.ns w c k (by omega)).meet w.1 (by omega) (by omega)).mono (by omega)
theorem zB.ys {yrs x : Int} (w : wV A) (c : zI Z x) : ∀ y : Nat, zB (zYs A yrs y Z) (384 * (y : Int))
  | 0 => c.b.mono (by omega)
  | y + 1 => by
    have w2 := wr_2 w.1
    exact ((zB.ys (yrs := yrs) w c y).ns w (A 2).toNat (by omega)).mono (by omega)
end
section
variable {Y : am_Y} {g g1 h : am_H} {m d : Nat} {A : Nat → Int} {Z0 : am_H} {yrs x : Int}
theorem mrun_32 {Q : Option am_V → am_H → Prop} (hM : am_at Y m am_L12) (k : ∀ g1, (∀ q, q ≠ m + 20 → q ≠ m + 21 → g1 q = g q) → g1 (m + 20) = up (fil (g (m + 20)) 0 8) 5 (-1) → g1 (m + 21) = fil (g (m + 21)) 0 8 → am_wp am_Md_run d Y 67 [some (.inr (.inr m)), some (.inl yrs), none, some (.inl 0), none] [] g1 Q) : am_wp am_Md_run d Y 32 [some (.inr (.inr m)), some (.inl yrs), none, some (.inl 0), none] [] g Q := by
  have lp : ∀ i : Int, ∀ g1 : am_H, 0 ≤ i → i ≤ 8 → (∀ q, q ≠ m + 20 → q ≠ m + 21 → g1 q = g q) → g1 (m + 20) = fil (g (m + 20)) 0 i.toNat → g1 (m + 21) = fil (g (m + 21)) 0 i.toNat → aw_Md_run_32 d Y m yrs i g1 Q := by
    refine am_up (fun i => ∀ g1 : am_H, 0 ≤ i → i ≤ 8 → (∀ q, q ≠ m + 20 → q ≠ m + 21 → g1 q = g q) → g1 (m + 20) = fil (g (m + 20)) 0 i.toNat → g1 (m + 21) = fil (g (m + 21)) 0 i.toNat → aw_Md_run_32 d Y m yrs i g1 Q) 8 ?_ ?_
    · intro i hi g1 h0 h8 e1 e2 e3
      have i8 : i = 8 := by omega
      subst i8
      refine ab_Md_run_32 hM ⟨fun _ g2 e => k g2 (fun q a b => by rw [e, am_u_n _ _ _ _ _ a, e1 q a b]) (by rw [e, am_u_up, e2]; rfl) (by rw [e, am_u_n _ _ _ _ _ (by omega), e3]; rfl), fun z => by omega⟩
    · intro i hi ih g1 h0 h8 e1 e2 e3
      refine ab_Md_run_32 hM ⟨fun z => by omega, fun _ => ⟨by omega, fun g2 eg => ⟨by omega, fun g3 eg3 => ⟨by unfold am_ri; omega, ?_⟩⟩⟩⟩
      refine ih g3 (by omega) (by omega) (fun q a b => by rw [eg3, am_u_n _ _ _ _ _ b, eg, am_u_n _ _ _ _ _ a, e1 q a b]) ?_ ?_
      · rw [eg3, am_u_n _ _ _ _ _ (by omega), eg, am_u_up, e2, fil_s, show (i + 1).toNat = i.toNat + 1 from by omega]
      · rw [eg3, am_u_up, eg, am_u_n _ _ _ _ _ (by omega), e3, fil_s, show (i + 1).toNat = i.toNat + 1 from by omega]
  refine lp 0 g (by omega) (by omega) (fun _ _ _ => rfl) ?_ ?_
  · exact (fil_0 _ _).symm
  · exact (fil_0 _ _).symm
theorem mrun_136 {Q : Option am_V → am_H → Prop} (hM : am_at Y m am_L12) (hr : am_ri (g (m + 20) 0 + g (m + 20) 1)) (k : ∀ g1, (∀ q, q ≠ m + 22 → q ≠ m + 23 → g1 q = g q) → (∀ i, i < 8 → g1 (m + 22) i = g (m + 20) i ∧ g1 (m + 23) i = g (m + 21) i) → Q (some (.inl (g (m + 20) 0 + g (m + 20) 1))) g1) : am_wp am_Md_run d Y 136 [some (.inr (.inr m)), none, none, some (.inl 0), none] [] g Q := by
  have lp : ∀ i : Int, ∀ g1 : am_H, 0 ≤ i → i ≤ 8 → (∀ q, q ≠ m + 22 → q ≠ m + 23 → g1 q = g q) → (∀ j : Nat, (j : Int) < i → g1 (m + 22) j = g (m + 20) j ∧ g1 (m + 23) j = g (m + 21) j) → aw_Md_run_136 d Y m i g1 Q := by
    refine am_up (fun i => ∀ g1 : am_H, 0 ≤ i → i ≤ 8 → (∀ q, q ≠ m + 22 → q ≠ m + 23 → g1 q = g q) → (∀ j : Nat, (j : Int) < i → g1 (m + 22) j = g (m + 20) j ∧ g1 (m + 23) j = g (m + 21) j) → aw_Md_run_136 d Y m i g1 Q) 8 ?_ ?_
    · intro i hi g1 h0 h8 e1 e2
      refine ab_Md_run_136 hM ⟨fun _ => ?_, fun z => by omega⟩
      rw [e1 (m + 20) (by omega) (by omega)]
      exact ⟨hr, k g1 e1 fun j hj => e2 j (by omega)⟩
    · intro i hi ih g1 h0 h8 e1 e2
      refine ab_Md_run_136 hM ⟨fun z => by omega, fun _ => ⟨by omega, by omega, fun g2 eg => ⟨by omega, by omega, fun g3 eg3 => ⟨by unfold am_ri; omega, ?_⟩⟩⟩⟩
      refine ih g3 (by omega) (by omega) (fun q a b => by rw [eg3, am_u_n _ _ _ _ _ b, eg, am_u_n _ _ _ _ _ a, e1 q a b]) fun j hj => ?_
      have v22 : g3 (m + 22) = g2 (m + 22) := by rw [eg3, am_u_n _ _ _ _ _ (by omega)]
      have v23 : g2 (m + 23) = g1 (m + 23) := by rw [eg, am_u_n _ _ _ _ _ (by omega)]
      by_cases ji : j = i.toNat
      · refine ⟨?_, ?_⟩
        · rw [v22, eg, ji, am_u_s, e1 _ (by omega) (by omega)]
        · rw [eg3, ji, am_u_s, eg, am_u_n _ _ _ _ _ (by omega), e1 _ (by omega) (by omega)]
      · refine ⟨?_, ?_⟩
        · rw [v22, eg, am_u_j ji]
          exact (e2 j (by omega)).1
        · rw [eg3, am_u_j ji, v23]
          exact (e2 j (by omega)).2
  exact lp 0 g (by omega) (by omega) (fun _ _ _ => rfl) fun j hj => by omega
theorem mrun_67 {Q : Option am_V → am_H → Prop} (hM : am_at Y m am_L12) (w : wV A) (zz : ∀ q : Nat, q < 8 → A (160 + 8 * q + q) = 0) (hy : 1 ≤ yrs ∧ yrs ≤ 60) (c : mrR g m A Z0) (zi : zI Z0 x) (k : ∀ g1, mrR g1 m A (zYs A yrs yrs.toNat Z0) → mrF g g1 m → aw_Md_run_67 (d + 7) Y m yrs yrs g1 Q) : aw_Md_run_67 (d + 7) Y m yrs 0 g Q := by
  have w2 := wr_2 w.1
  have lp : ∀ y : Int, ∀ g1 : am_H, 0 ≤ y → y ≤ yrs → mrR g1 m A (zYs A yrs y.toNat Z0) → mrF g g1 m → aw_Md_run_67 (d + 7) Y m yrs y g1 Q := by
    refine am_up (fun y => ∀ g1 : am_H, 0 ≤ y → y ≤ yrs → mrR g1 m A (zYs A yrs y.toNat Z0) → mrF g g1 m → aw_Md_run_67 (d + 7) Y m yrs y g1 Q) yrs ?_ ?_
    · intro y hy2 g1 h0 h8 c1 f1
      have e : y = yrs := by omega
      subst e
      exact k g1 c1 f1
    · intro y hy2 ih g1 h0 h8 c1 f1
      have yy : ((y.toNat : Nat) : Int) = y := by omega
      have by_ := zB.ys (yrs := yrs) w zi y.toNat
      have tt : (min (yrs - ((y.toNat : Nat) : Int)) 20).toNat = (min (yrs - y) 20).toNat := by rw [yy]
      have lq : ∀ j : Int, ∀ g2 : am_H, 0 ≤ j → j ≤ A 2 → mrR g2 m A (zNs A (min (yrs - y) 20).toNat y j.toNat (zYs A yrs y.toNat Z0)) → mrF g g2 m → aw_Md_run_75 (d + 7) Y m yrs y j g2 Q := by
        refine am_up (fun j => ∀ g2 : am_H, 0 ≤ j → j ≤ A 2 → mrR g2 m A (zNs A (min (yrs - y) 20).toNat y j.toNat (zYs A yrs y.toNat Z0)) → mrF g g2 m → aw_Md_run_75 (d + 7) Y m yrs y j g2 Q) (A 2) ?_ ?_
        · intro j hj g2 j0 j8 c2 f2
          refine ab_Md_run_75 hM ?_
          rw [c2.1]
          refine ⟨fun _ => ⟨by unfold am_ri; omega, ih g2 (by omega) (by omega) ?_ f2⟩, fun z => by omega⟩
          have e : zYs A yrs (y + 1).toNat Z0 = zNs A (min (yrs - y) 20).toNat y j.toNat (zYs A yrs y.toNat Z0) := by
            rw [show (y + 1).toNat = y.toNat + 1 from by omega, show j.toNat = (A 2).toNat from by omega]
            show zNs A (min (yrs - ((y.toNat : Nat) : Int)) 20).toNat ((y.toNat : Nat) : Int) (A 2).toNat (zYs A yrs y.toNat Z0) = _
            rw [yy]
          rw [e]
          exact c2
        · intro j hj jh g2 j0 j8 c2 f2
          have jj : ((j.toNat : Nat) : Int) = j := by omega
          have bj := by_.ns (t := (min (yrs - y) 20).toNat) (y := y) w j.toNat (by omega)
          have e : zNs A (min (yrs - y) 20).toNat y (j + 1).toNat (zYs A yrs y.toNat Z0) = zMeet A (zNs A (min (yrs - y) 20).toNat y j.toNat (zYs A yrs y.toNat Z0)) j (min (yrs - y) 20).toNat y := by
            rw [show (j + 1).toNat = j.toNat + 1 from by omega]
            show zMeet A (zNs A (min (yrs - y) 20).toNat y j.toNat (zYs A yrs y.toNat Z0)) ((j.toNat : Nat) : Int) (min (yrs - y) 20).toNat y = _
            rw [jj]
          have go : ∀ t : Int, t = min (yrs - y) 20 → am_kV am_Md_meet (d + 7) Y [.inr (.inr m), .inl j, .inl y, .inl t] g2 (fun h1 => (am_ri (j + 1)) ∧ (am_wp am_Md_run (d + 7) Y 75 [some (.inr (.inr m)), some (.inl yrs), none, some (.inl y), some (.inl (j + 1))] [] h1 Q)) := by
            intro t ht
            refine am_kV.of (ac_m_meet (d := d) hM c2 w zz bj (by omega) ⟨j0, hj⟩ (by omega) (by omega)) (by omega) ?_
            rintro g3 - ⟨c3, f3⟩
            refine ⟨by unfold am_ri; omega, jh g3 (by omega) (by omega) ?_ (f2.trans f3)⟩
            rw [ht] at c3
            rw [e]
            exact c3
          refine ab_Md_run_75 hM ?_
          rw [c2.1]
          exact ⟨fun z => by omega, fun _ => ⟨by unfold am_ri; omega, fun z => go 20 (by omega), fun z => ⟨by unfold am_ri; omega, go (yrs - y) (by omega)⟩⟩⟩
      exact ab_Md_run_67 hM ⟨fun z => by omega, fun _ => lq 0 g1 (by omega) (by omega) c1 f1⟩
  exact lp 0 g (by omega) (by omega) c mrF.refl
/-- where a run leaves the reference without a word -/
def yRn (h h1 : am_H) (m : Nat) : Prop := (∀ q, q < m → h1 q = h q) ∧ lai h1 m = lai h m ∧ (∀ q, q = m + 1 ∨ q = m + 5 ∨ q = m + 6 ∨ q = m + 8 ∨ q = m + 9 ∨ q = m + 27 ∨ q = m + 29 → h1 q = h q) ∧ ∀ j, j = 2 ∨ j = 10 ∨ j = 55 ∨ j = 58 ∨ j = 59 → h1 m j = h m j
theorem ac_m_run (hM : am_at Y m am_L12) (hb : h m 22 = 0 ∨ h m 22 = 1) (w : wV (lai h m)) (zz : ∀ q : Nat, q < 8 → lai h m (160 + 8 * q + q) = 0) (hy : 1 ≤ yrs ∧ yrs ≤ 60) : am_cI am_Md_run (d + 7) Y [.inr (.inr m), .inl yrs, .inl x] h (fun v h1 => v = zYs (lai h m) yrs yrs.toNat (zIni h m x) 0 0 + zYs (lai h m) yrs yrs.toNat (zIni h m x) 0 1 ∧ yRn h h1 m ∧ h1 m 48 = 1 ∧ h1 m 47 = lai h m 1 ∧ ∀ i, i < 8 → h1 (m + 22) i = zYs (lai h m) yrs yrs.toNat (zIni h m x) 0 i ∧ h1 (m + 23) i = zYs (lai h m) yrs yrs.toNat (zIni h m x) 1 i) := by
  have hz := w.1.z
  unfold rz at hz
  have zi := zIni_i h m x
  have bf := zB.ys (yrs := yrs) w zi yrs.toNat
  have b0 := bf.1 0 (by omega) (by omega) (by omega)
  have b1 := bf.1 1 (by omega) (by omega) (by omega)
  refine am_Met.of (by decide) rfl (Nat.le_of_ble_eq_true rfl) (ab_Md_run_0 hM (mL.lay hM hb (by omega) fun h2 _ l => eK (ac_m_isIn (d := 0)) (by omega) ?_))
  rw [if_pos hy]
  refine ⟨fun _ => am_kV.of (ac_m_clearBonds (d := 0) hM) (by omega) ?_, fun z => absurd z (by decide)⟩
  obtain ⟨l0, l2, l22, lq, lj⟩ := l
  rintro h5 - ⟨j5, q5, jj5⟩ h6 e6
  have n6 : ∀ q, q ≠ m → h6 q = h5 q := fun q hq => by rw [e6, am_u_n _ _ _ _ _ hq]
  refine mrun_32 hM fun g1 a1 a2 a3 => ?_
  have c1 : mrR g1 m (lai h m) (zIni h m x) := by
    refine ⟨?_, ?_, ?_, ?_, ?_, ?_⟩
    · rw [a1 _ (by omega) (by omega), n6 _ (by omega), q5 _ (by omega) (by omega), l2]
    · rw [a2, n6 _ (by omega), q5 _ (by omega) (by omega), lq _ (by omega) (by omega)]
      rfl
    · rw [a3, n6 _ (by omega), q5 _ (by omega) (by omega), lq _ (by omega) (by omega)]
      rfl
    · have j1 : h5 (m + 10) = jClr (jOf h2 m) 1 := j5.2 1 (by omega) (by omega)
      rw [a1 _ (by omega) (by omega), n6 _ (by omega), j1]
      have e : jOf h2 m 1 = h (m + 10) := by
        unfold jOf
        rw [if_neg (by omega)]
        exact lq (m + 10) (by omega) (by omega)
      show fil (jOf h2 m 1) 0 384 = fil (h (m + 10)) 0 384
      rw [e]
    · have j2 : h5 (m + 11) = jClr (jOf h2 m) 2 := j5.2 2 (by omega) (by omega)
      rw [a1 _ (by omega) (by omega), n6 _ (by omega), j2]
      have e : jOf h2 m 2 = h (m + 11) := by
        unfold jOf
        rw [if_neg (by omega)]
        exact lq (m + 11) (by omega) (by omega)
      show fil (jOf h2 m 2) (-1) 384 = fil (h (m + 11)) (-1) 384
      rw [e]
    · rw [a1 m (by omega) (by omega), e6, am_u_s]
      rfl
  refine mrun_67 hM w zz hy c1 zi fun g2 c2 f2 => ?_
  refine ab_Md_run_67 hM ⟨fun _ h1 e1 => eK (ac_m_persons (d := 0) hM) (by omega) fun h4 e4 => ?_, fun z => by omega⟩
  have n4 : ∀ q, q ≠ m → h4 q = g2 q := fun q hq => by rw [e4, am_u_n _ _ _ _ _ hq, e1, am_u_n _ _ _ _ _ hq]
  have a4 : h1 (m + 2) = lai h m := by rw [e1, am_u_n _ _ _ _ _ (by omega), c2.1]
  have r20 : h4 (m + 20) = zYs (lai h m) yrs yrs.toNat (zIni h m x) 0 := by rw [n4 _ (by omega), c2.2.1]
  have r21 : h4 (m + 21) = zYs (lai h m) yrs yrs.toNat (zIni h m x) 1 := by rw [n4 _ (by omega), c2.2.2.1]
  refine mrun_136 hM (by rw [r20]; unfold am_ri; omega) fun g3 p1 p2 => ?_
  rw [am_qI_s, r20]
  rw [r20, r21] at p2
  have m3 : g3 m = h4 m := p1 m (by omega) (by omega)
  have jg : ∀ j, (j < 33 ∨ 48 < j) → j ≠ 0 → j ≠ 22 → g3 m j = h m j := fun j b1 b2 b3 => by rw [m3, e4, am_u_j (by omega), e1, am_u_j (by omega), f2.2 j (by omega) (by omega) (by omega), a1 m (by omega) (by omega), e6, am_u_j (by omega), jj5 j (by omega), lj j b2 b3]
  have j22 : g3 m 22 = 1 := by rw [m3, e4, am_u_j (by omega), e1, am_u_j (by omega), f2.2 22 (by omega) (by omega) (by omega), a1 m (by omega) (by omega), e6, am_u_j (by omega), jj5 22 (by omega), l22]
  have qg : ∀ q, q ≠ m → q ≠ m + 2 → (q < m + 10 ∨ m + 23 < q) → g3 q = h q := fun q b1 b2 b3 => by rw [p1 q (by omega) (by omega), n4 q b1, f2.1 q (by omega) (by omega) (by omega) (by omega) (by omega) (by omega) (by omega), a1 q (by omega) (by omega), n6 q b1, q5 q b1 (by omega), lq q b1 b2]
  refine ⟨rfl, ⟨fun q hq => qg q (by omega) (by omega) (by omega), ?_, fun q hq => qg q (by omega) (by omega) (by omega), fun j hj => jg j (by omega) (by omega) (by omega)⟩, ?_, ?_, p2⟩
  · rw [lai_1 j22, p1 _ (by omega) (by omega), n4 _ (by omega), c2.1]
  · rw [m3, e4, am_u_j (by omega), e1, am_u_s]
  · rw [m3, e4, am_u_s, a4]
end
