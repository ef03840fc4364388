/-! the class: who is left: force, settle, solve -/
def lcG (h h1 : am_H) (o : Nat) : Prop := (∀ q, q ≠ o → q ≠ o + 1 → q ≠ o + 3 → q ≠ o + 4 → q ≠ o + 5 → q ≠ o + 6 → q ≠ o + 7 → h1 q = h q) ∧ ∀ j, j ≠ 8 → j ≠ 9 → h1 o j = h o j
section
variable {h h1 h2 : am_H} {o : Nat} {A f g : Nat → Int} {mo : Int}
theorem lcG.refl : lcG h h o := ⟨fun _ _ _ _ _ _ _ _ => rfl, fun _ _ _ => rfl⟩
theorem lcG.trans (a : lcG h h1 o) (b : lcG h1 h2 o) : lcG h h2 o := ⟨fun q p1 p2 p3 p4 p5 p6 p7 => (b.1 q p1 p2 p3 p4 p5 p6 p7).trans (a.1 q p1 p2 p3 p4 p5 p6 p7), fun j p1 p2 => (b.2 j p1 p2).trans (a.2 j p1 p2)⟩
theorem lcG.of (a : lcF h h1 o) : lcG h h1 o := ⟨fun q p1 p2 p3 _ _ p6 p7 => a.1 q p1 p2 p3 p6 p7, a.2⟩
theorem lcG.c {q : Nat} (e : ∀ r, r ≠ q → h1 r = h r) (hq : q = o + 1 ∨ q = o + 3 ∨ q = o + 4 ∨ q = o + 5) : lcG h h1 o := ⟨fun r p1 p2 p3 p4 p5 p6 p7 => e r (by omega), fun j _ _ => by rw [e o (by omega)]⟩
theorem lcS.butG (c : lcS h o A mo) (f : lcG h h1 o) : lcS h1 o A mo := by
  obtain ⟨c1, c2, c3⟩ := c
  refine ⟨by rw [f.2 0 (by omega) (by omega)]; exact c1, by rw [f.2 2 (by omega) (by omega)]; exact c2, fun i hi => ?_⟩
  rw [f.1 (o + 2) (by omega) (by omega) (by omega) (by omega) (by omega) (by omega) (by omega)]
  exact c3 i hi
theorem lVal.cong (e : ∀ i : Nat, (i : Int) < A 2 → g i = f i) (c : lVal A mo f) : lVal A mo g := by
  refine ⟨fun i hi => by rw [e i hi]; exact c.1 i hi, fun p hp => ?_⟩
  rw [lCnt_c (f := g) (g := f) fun i hi => e i (by omega)]
  exact c.2 p hp
end
section
variable {Y : am_Y} {h : am_H} {o d : Nat} {A : Nat → Int} {mo frm M q : Int} {n : Nat}
theorem ac_L_take (hY : am_at Y o am_L4) (w : wV A) (ld : lcD h o A) (va : lVal A mo (h (o + 1))) (hn : (n : Int) < A 2) : am_cV am_Left_take d Y [.inr (.inr o), .inl (n : Int)] h (fun h1 => h1 (o + 1) = up (h (o + 1)) n (-1) ∧ lcD h1 o A ∧ lcF h h1 o) := by
  have hz := w.1.z
  unfold rz at hz
  have w2 := wr_2 w.1
  have nN : n < (A 2).toNat := by omega
  have rg := va.rg w nN
  generalize hfe : h (o + 1) = f at rg
  have low : f n < 0 → ∀ h1, h1 = am_u h (o + 1) n (-1) → am_qV (fun h1 => h1 (o + 1) = up f n (-1) ∧ lcD h1 o A ∧ lcF h h1 o) none h1 := by
    intro z h1 e1
    have f1 : h1 (o + 1) = up f n (-1) := by rw [e1, am_u_up, hfe]
    rw [am_qV_s]
    refine ⟨f1, fun p hp => ?_, lcF.u e1 (by omega)⟩
    have := ld p hp
    rw [hfe] at this
    rw [f1, lCnt_up nN, e1, am_u_n _ _ _ _ _ (by omega), this, if_neg (by omega), if_neg (by omega)]
    omega
  refine am_Met.of (by decide) rfl (Nat.le_of_ble_eq_true rfl) (ab_Left_take_0 hY ?_)
  rw [Int.toNat_natCast, hfe]
  refine ⟨by omega, fun z => ⟨by omega, fun h1 e1 => low z h1 e1⟩, fun z => ⟨fun z8 => by omega, fun z8 => ⟨by omega, ?_⟩⟩⟩
  have fp : ((((f n).toNat : Nat) : Int)) = f n := by omega
  have l := ld (f n).toNat (by omega)
  rw [hfe, fp] at l
  have cr := lCnt_rg f (f n) (A 2).toNat
  rw [l]
  refine ⟨by unfold am_ri; omega, by omega, fun h3 e3 => ⟨by omega, fun h4 e4 => ?_⟩⟩
  have f4 : h4 (o + 1) = up f n (-1) := by rw [e4, am_u_up, e3, am_u_n _ _ _ _ _ (by omega), hfe]
  rw [am_qV_s]
  refine ⟨f4, fun p hp => ?_, (lcF.u e3 (by omega)).trans (lcF.u e4 (by omega))⟩
  have lp := ld p hp
  rw [hfe] at lp
  rw [f4, lCnt_up nN, e4, am_u_n _ _ _ _ _ (by omega), e3, if_neg (c := (-1 : Int) = (p : Int)) (by omega)]
  by_cases y : p = (f n).toNat
  · rw [y, am_u_s, fp, if_pos rfl]
    omega
  · rw [am_u_j y, lp, if_neg (by omega)]
    omega
theorem ac_L_give (hY : am_at Y o am_L4) (w : wV A) (ld : lcD h o A) (hn : (n : Int) < A 2) (hf : h (o + 1) n = -1) (hq : 0 ≤ q ∧ q < 8) : am_cV am_Left_give d Y [.inr (.inr o), .inl (n : Int), .inl q] h (fun h1 => h1 (o + 1) = up (h (o + 1)) n q ∧ lcD h1 o A ∧ lcF h h1 o) := by
  have w2 := wr_2 w.1
  have nN : n < (A 2).toNat := by omega
  have qq : ((q.toNat : Nat) : Int) = q := by omega
  have l := ld q.toNat (by omega)
  rw [qq] at l
  have cr := lCnt_rg (h (o + 1)) q (A 2).toNat
  refine am_Met.of (by decide) rfl (Nat.le_of_ble_eq_true rfl) (ab_Left_give_0 hY ⟨by omega, fun h1 e1 => ⟨hq, ?_⟩⟩)
  rw [Int.toNat_natCast] at e1
  have e3 : h1 (o + 3) = h (o + 3) := by rw [e1, am_u_n _ _ _ _ _ (by omega)]
  rw [e3, l]
  refine ⟨by unfold am_ri; omega, hq, fun h2 e2 => ?_⟩
  have f2 : h2 (o + 1) = up (h (o + 1)) n q := by rw [e2, am_u_n _ _ _ _ _ (by omega), e1, am_u_up]
  rw [am_qV_s]
  refine ⟨f2, fun p hp => ?_, (lcF.u e1 (by omega)).trans (lcF.u e2 (by omega))⟩
  rw [f2, lCnt_up nN, hf, if_neg (c := (-1 : Int) = (p : Int)) (by omega), e2]
  by_cases y : p = q.toNat
  · rw [y, am_u_s, qq, if_pos rfl]
    omega
  · rw [am_u_j y, e3, ld p hp, if_neg (by omega)]
    omega
theorem ac_L_displace (hY : am_at Y o am_L4) (s : lcS h o A mo) (w : wV A) (ld : lcD h o A) (va : lVal A mo (h (o + 1))) (hfr : 0 ≤ frm) : am_cI am_Left_displaceOne (d + 1) Y [.inr (.inr o), .inl q, .inl frm] h (fun v h1 => (v = 0 ∧ h1 = h ∧ ∀ i : Nat, (i : Int) < A 2 → frm ≤ (i : Int) → ¬ h (o + 1) i = q) ∨ (v = 1 ∧ ∃ i : Nat, (i : Int) < A 2 ∧ frm ≤ (i : Int) ∧ h (o + 1) i = q ∧ h1 (o + 1) = up (h (o + 1)) i (-1) ∧ lcD h1 o A ∧ lcF h h1 o)) := by
  have w2 := wr_2 w.1
  refine am_Met.of (by decide) rfl (Nat.le_of_ble_eq_true rfl) (ab_Left_displaceOne_0 hY ?_)
  have lp : ∀ k : Int, frm ≤ k → (∀ i : Nat, frm ≤ (i : Int) → (i : Int) < k → ¬ h (o + 1) i = q) → aw_Left_displaceOne_2 (d + 1) Y o q k h (am_qI fun v h1 => (v = 0 ∧ h1 = h ∧ ∀ i : Nat, (i : Int) < A 2 → frm ≤ (i : Int) → ¬ h (o + 1) i = q) ∨ (v = 1 ∧ ∃ i : Nat, (i : Int) < A 2 ∧ frm ≤ (i : Int) ∧ h (o + 1) i = q ∧ h1 (o + 1) = up (h (o + 1)) i (-1) ∧ lcD h1 o A ∧ lcF h h1 o)) := by
    refine am_up (fun k => frm ≤ k → (∀ i : Nat, frm ≤ (i : Int) → (i : Int) < k → ¬ h (o + 1) i = q) → aw_Left_displaceOne_2 (d + 1) Y o q k h (am_qI fun v h1 => (v = 0 ∧ h1 = h ∧ ∀ i : Nat, (i : Int) < A 2 → frm ≤ (i : Int) → ¬ h (o + 1) i = q) ∨ (v = 1 ∧ ∃ i : Nat, (i : Int) < A 2 ∧ frm ≤ (i : Int) ∧ h (o + 1) i = q ∧ h1 (o + 1) = up (h (o + 1)) i (-1) ∧ lcD h1 o A ∧ lcF h h1 o))) (A 2) ?_ ?_
    · intro k hk k0 no
      refine ab_Left_displaceOne_2 hY ?_
      rw [s.1]
      refine ⟨fun _ => ?_, fun z => by omega⟩
      rw [am_qI_s]
      exact Or.inl ⟨rfl, rfl, fun i hi fi => no i fi (by omega)⟩
    · intro k hk kh k0 no
      have kk : ((k.toNat : Nat) : Int) = k := by omega
      refine ab_Left_displaceOne_2 hY ?_
      rw [s.1]
      refine ⟨fun z => by omega, fun _ => ⟨by omega, fun ne => ⟨by unfold am_ri; omega, kh (by omega) fun i fi hi => ?_⟩, fun eq => ?_⟩⟩
      · by_cases e : i = k.toNat
        · rw [e]; exact ne
        · exact no i fi (by omega)
      · have tk := ac_L_take (d := 0) (n := k.toNat) hY w ld va (by omega)
        rw [kk] at tk
        refine am_kV.of tk (by omega) ?_
        rintro h1 - ⟨t1, t2, t3⟩
        rw [am_qI_s]
        exact Or.inr ⟨rfl, k.toNat, by omega, by omega, eq, t1, t2, t3⟩
  exact lp frm (Int.le_refl _) fun i a b => by omega
/-- what force and settle may leave -/
def lcW (h1 : am_H) (o : Nat) (A : Nat → Int) (mo M : Int) (f : Nat → Int) (n : Nat) : Prop := lcD h1 o A ∧ lVal A mo (h1 (o + 1)) ∧ lMet (h1 (o + 1)) (A 2).toNat = M ∧ ∀ i, i < n → h1 (o + 1) i = f i
theorem force_122 {f : Nat → Int} {g : am_H} {Q : Option am_V → am_H → Prop} (hY : am_at Y o am_L4) (w : wV A) (ld : lcD h o A) (hf : h (o + 1) = f) (fr : lcG h g o) (g4 : ∀ i, i < 48 → g (o + 4) i = f i) (g5 : ∀ p, p < 8 → g (o + 5) p = h (o + 3) p) (hd : 1 < d) (k : ∀ h1, lcG h h1 o → lcD h1 o A → (∀ i, i < 48 → h1 (o + 1) i = f i) → Q (some (.inl 0)) h1) : aw_Left_force_122 d Y o g Q := by
  have w2 := wr_2 w.1
  refine ab_Left_force_122 hY (am_kV.of (ac_copyRow (d := 1) (k := 48) (hY 4 _ rfl) (hY 1 _ rfl) (by omega) (by omega)) hd ?_)
  rintro h1 - ⟨f1, r1⟩
  refine am_kV.of (ac_copyRow (d := 1) (k := 8) (hY 5 _ rfl) (hY 3 _ rfl) (by omega) (by omega)) hd ?_
  rintro h2 - ⟨f2, r2⟩
  have e1 : ∀ i, i < 48 → h2 (o + 1) i = f i := fun i hi => by rw [f2 _ (by omega), r1 i hi, g4 i hi]
  refine k h2 ((fr.trans (lcG.c f1 (by omega))).trans (lcG.c f2 (by omega))) (fun p hp => ?_) e1
  rw [r2 p hp, f1 _ (by omega), g5 p hp, ld p hp, hf]
  exact lCnt_c fun i hi => (e1 i (by omega)).symm
theorem ac_L_force (hY : am_at Y o am_L4) (s : lcS h o A mo) (w : wV A) (ld : lcD h o A) (va : lVal A mo (h (o + 1))) (hmo : 0 ≤ mo ∧ mo ≤ 9) (mx : lMax A mo M) (hM : lMet (h (o + 1)) (A 2).toNat = M) (hn : (n : Int) < A 2) (hq : asked A q (n : Int)) (nq : ¬ h (o + 1) n = q) : am_cI am_Left_force (d + 3) Y [.inr (.inr o), .inl (n : Int), .inl q] h (fun v h1 => lcG h h1 o ∧ (v = 1 ∧ lcW h1 o A mo M (h (o + 1)) n ∧ h1 (o + 1) n = q ∨ v = 0 ∧ lcD h1 o A ∧ (∀ i, i < 48 → h1 (o + 1) i = h (o + 1) i) ∧ ¬ lFeas A mo M (h (o + 1)) n q)) := by
  have hz := w.1.z
  unfold rz at hz
  have w2 := wr_2 w.1
  have nN : n < (A 2).toNat := by omega
  have q8 : 0 ≤ q ∧ q < 8 := by have := hq.1; omega
  have qq : ((q.toNat : Nat) : Int) = q := by omega
  generalize hfe : h (o + 1) = f at va hM nq
  have fn := va.rg w nN
  refine am_Met.of (by decide) rfl (Nat.le_of_ble_eq_true rfl) (ab_Left_force_0 hY (am_kV.of (ac_copyRow (d := 1) (k := 48) (hY 1 _ rfl) (hY 4 _ rfl) (by omega) (by omega)) (by omega) ?_))
  rintro h1 - ⟨f1, r1⟩
  refine am_kV.of (ac_copyRow (d := 1) (k := 8) (hY 3 _ rfl) (hY 5 _ rfl) (by omega) (by omega)) (by omega) ?_
  rintro h2 - ⟨f2, r2⟩
  have e12 : h2 (o + 1) = f := by rw [f2 _ (by omega), f1 _ (by omega), hfe]
  have e32 : h2 (o + 3) = h (o + 3) := by rw [f2 _ (by omega), f1 _ (by omega)]
  have g42 : ∀ i, i < 48 → h2 (o + 4) i = f i := fun i hi => by rw [f2 _ (by omega), r1 i hi, hfe]
  have g52 : ∀ p, p < 8 → h2 (o + 5) p = h (o + 3) p := fun p hp => by rw [r2 p hp, f1 _ (by omega)]
  have G2 : lcG h h2 o := (lcG.c f1 (by omega)).trans (lcG.c f2 (by omega))
  have ld2 : lcD h2 o A := fun p hp => by rw [e32, e12, ld p hp, hfe]
  -- back as it was
  have back : ∀ g : am_H, lcF h2 g o → ¬ lFeas A mo M f n q → aw_Left_force_122 (d + 3) Y o g (am_qI fun v h1 => lcG h h1 o ∧ (v = 1 ∧ lcW h1 o A mo M f n ∧ h1 (o + 1) n = q ∨ v = 0 ∧ lcD h1 o A ∧ (∀ i, i < 48 → h1 (o + 1) i = f i) ∧ ¬ lFeas A mo M f n q)) := by
    intro g fg nf
    refine force_122 hY w ld hfe (G2.trans (lcG.of fg)) (fun i hi => by rw [fg.1 _ (by omega) (by omega) (by omega) (by omega) (by omega)]; exact g42 i hi) (fun p hp => by rw [fg.1 _ (by omega) (by omega) (by omega) (by omega) (by omega)]; exact g52 p hp) (by omega) fun h9 a1 a2 a3 => ?_
    rw [am_qI_s]
    exact ⟨a1, Or.inr ⟨rfl, a2, a3, nf⟩⟩
  have done : ∀ g : am_H, lcF h2 g o → lcW g o A mo M f n → g (o + 1) n = q → am_qI (fun v h1 => lcG h h1 o ∧ (v = 1 ∧ lcW h1 o A mo M f n ∧ h1 (o + 1) n = q ∨ v = 0 ∧ lcD h1 o A ∧ (∀ i, i < 48 → h1 (o + 1) i = f i) ∧ ¬ lFeas A mo M f n q)) (some (.inl 1)) g := by
    intro g fg wg gn
    rw [am_qI_s]
    exact ⟨G2.trans (lcG.of fg), Or.inl ⟨rfl, wg, gn⟩⟩
  have tk := ac_L_take (d := 0) (n := n) hY w ld2 (by rw [e12]; exact va) hn
  rw [e12] at tk
  -- behind the taking
  have main : ∀ (was : Int) (h3 : am_H), (was = 0 ∧ f n = -1 ∨ was = 1 ∧ 0 ≤ f n) → h3 (o + 1) = up f n (-1) → lcD h3 o A → lcF h2 h3 o → ((h3 (o + 3) q.toNat) < (h3 o 2) → am_kV am_Left_give (d + 3) Y [.inr (.inr o), .inl (n : Int), .inl q] h3 (fun h4 => aw_Left_force_96 (d + 3) Y o (n : Int) was 0 1 h4 (am_qI fun v h1 => lcG h h1 o ∧ (v = 1 ∧ lcW h1 o A mo M f n ∧ h1 (o + 1) n = q ∨ v = 0 ∧ lcD h1 o A ∧ (∀ i, i < 48 → h1 (o + 1) i = f i) ∧ ¬ lFeas A mo M f n q)))) ∧ ((h3 o 2) ≤ (h3 (o + 3) q.toNat) → (am_ri ((n : Int) + 1)) ∧ (am_kI am_Left_displaceOne (d + 3) Y [.inr (.inr o), .inl q, .inl ((n : Int) + 1)] h3 (fun v9 h8 => (v9 = 0 → aw_Left_force_96 (d + 3) Y o (n : Int) was 1 0 h8 (am_qI fun v h1 => lcG h h1 o ∧ (v = 1 ∧ lcW h1 o A mo M f n ∧ h1 (o + 1) n = q ∨ v = 0 ∧ lcD h1 o A ∧ (∀ i, i < 48 → h1 (o + 1) i = f i) ∧ ¬ lFeas A mo M f n q))) ∧ (¬ v9 = 0 → am_kV am_Left_give (d + 3) Y [.inr (.inr o), .inl (n : Int), .inl q] h8 (fun h11 => aw_Left_force_96 (d + 3) Y o (n : Int) was 1 1 h11 (am_qI fun v h1 => lcG h h1 o ∧ (v = 1 ∧ lcW h1 o A mo M f n ∧ h1 (o + 1) n = q ∨ v = 0 ∧ lcD h1 o A ∧ (∀ i, i < 48 → h1 (o + 1) i = f i) ∧ ¬ lFeas A mo M f n q))))))) := by
    intro was h3 hw e3 d3 f3
    have s3 := (s.butG G2).but f3
    have v3 : lVal A mo (up f n (-1)) := va.up hn (Or.inl rfl) fun p _ e => by omega
    have m3 : lMet (up f n (-1)) (A 2).toNat = M - (if 0 ≤ f n then 1 else 0) := by
      rw [lMet_up nN, hM, if_neg (c := 0 ≤ (-1 : Int)) (by omega)]
      omega
    have l3 := d3 q.toNat (by omega)
    rw [e3, qq] at l3
    have n3 : up f n (-1) n = -1 := upl_s
    have below : ∀ (F : Nat → Int) (v : Int) (i : Nat), i < n → up F n v i = F i := fun F v i hi => upl_n (by omega)
    have jpos : ¬ (-1 : Int) = q := by omega
    rw [s3.2.1, l3]
    refine ⟨fun room => am_kV.of (ac_L_give (d := 0) (q := q) hY w d3 hn (by rw [e3]; exact n3) q8) (by omega) ?_, fun full => ⟨by unfold am_ri; omega, am_kI.of (ac_L_displace (d := 0) (q := q) (frm := (n : Int) + 1) hY s3 w d3 (by rw [e3]; exact v3) (by omega)) (by omega) ?_⟩⟩
    · rintro h4 - ⟨e4, d4, f4⟩
      rw [e3] at e4
      have v4 : lVal A mo (up (up f n (-1)) n q) := v3.up hn (Or.inr hq) fun p hp e => by
        rw [e, n3, if_neg jpos]
        omega
      have m4 : lMet (up (up f n (-1)) n q) (A 2).toNat = M - (if 0 ≤ f n then 1 else 0) + 1 := by
        rw [lMet_up nN, m3, n3, if_neg (c := 0 ≤ (-1 : Int)) (by omega), if_pos q8.1]
        omega
      refine ab_Left_force_96 hY ⟨fun z => absurd z (by decide), fun _ => ⟨fun _ => done h4 (f3.trans f4) ⟨d4, by rw [e4]; exact v4, ?_, fun i hi => ?_⟩ ?_, fun z => absurd rfl z⟩⟩
      · rw [e4, m4]
        rcases hw with ⟨-, z⟩ | ⟨-, z⟩
        · have := mx.2 _ v4
          rw [m4, if_neg (by omega)] at this
          omega
        · rw [if_pos z]
          omega
      · rw [e4, below _ _ i hi, below _ _ i hi]
      · rw [e4]
        exact upl_s
    · rintro v9 h8 - - (⟨rfl, e8, no⟩ | ⟨rfl, i, hi, hi2, fi, e8, d8, f8⟩)
      · rw [e8, e3] at *
        refine ⟨fun _ => ab_Left_force_96 hY ⟨fun _ => back h3 f3 ?_, fun z => absurd rfl z⟩, fun z => absurd rfl z⟩
        rintro ⟨G, g1, g2, g3, g4⟩
        have le : lCnt (up (up f n (-1)) n q) q (A 2).toNat ≤ lCnt G q (A 2).toNat := by
          refine sm_mono _ fun i hi => ?_
          by_cases z : up (up f n (-1)) n q i = q
          · have gi : G i = q := by
              by_cases e : i = n
              · rw [e]; exact g3
              · rw [upl_n e] at z
                by_cases lt : i < n
                · rw [upl_n e] at z
                  rw [g2 i lt]
                  exact z
                · exact absurd z (no i (by omega) (by omega))
            rw [if_pos z, if_pos gi]
            omega
          · rw [if_neg z]
            split <;> omega
        rw [lCnt_up nN, n3, if_neg jpos, if_pos rfl] at le
        have := g1.2 q.toNat (by omega)
        rw [qq] at this
        omega
      · refine ⟨fun z => absurd z (by decide), fun _ => ?_⟩
        rw [e3] at e8 fi
        have ne : n ≠ i := by omega
        have iN : i < (A 2).toNat := by omega
        have n8 : up (up f n (-1)) i (-1) n = -1 := by rw [upl_n ne]; exact n3
        have v8 : lVal A mo (up (up f n (-1)) i (-1)) := v3.up hi (Or.inl rfl) fun p _ e => by omega
        have c8 : lCnt (up (up f n (-1)) i (-1)) q (A 2).toNat = lCnt (up f n (-1)) q (A 2).toNat - 1 := by
          rw [lCnt_up (f := up f n (-1)) iN, fi, if_pos rfl, if_neg jpos]
          omega
        have c3 := v3.2 q.toNat (by omega)
        rw [qq] at c3
        refine am_kV.of (ac_L_give (d := 0) (q := q) hY w d8 hn (by rw [e8]; exact n8) q8) (by omega) ?_
        rintro h11 - ⟨e11, d11, f11⟩
        rw [e8] at e11
        have v11 : lVal A mo (up (up (up f n (-1)) i (-1)) n q) := v8.up hn (Or.inr hq) fun p hp e => by
          rw [e, n8, if_neg jpos, c8]
          omega
        have m11 : lMet (up (up (up f n (-1)) i (-1)) n q) (A 2).toNat = M - (if 0 ≤ f n then 1 else 0) := by
          rw [lMet_up nN, lMet_up (f := up f n (-1)) iN, m3, n8, fi, if_pos q8.1, if_neg (c := 0 ≤ (-1 : Int)) (by omega)]
          omega
        have b11 : ∀ j, j < n → up (up (up f n (-1)) i (-1)) n q j = f j := fun j hj => by rw [below _ _ j hj, upl_n (by omega), below _ _ j hj]
        have F11 := (f3.trans f8).trans f11
        refine ab_Left_force_96 hY ⟨fun z => absurd z (by decide), fun _ => ⟨fun z => absurd z (by decide), fun _ => ⟨fun z => ?_, fun z => ⟨by unfold am_ri; omega, ?_⟩⟩⟩⟩
        · refine done h11 F11 ⟨d11, by rw [e11]; exact v11, ?_, fun j hj => by rw [e11]; exact b11 j hj⟩ (by rw [e11]; exact upl_s)
          rcases hw with ⟨-, y⟩ | ⟨y, -⟩
          · rw [e11, m11, if_neg (by omega)]
            omega
          · omega
        · have f0 : 0 ≤ f n := by
            rcases hw with ⟨y, -⟩ | ⟨-, y⟩
            · exact absurd y z
            · exact y
          have s11 := (s.butG G2).but F11
          refine am_kI.of (ac_L_improveAny (d := 0) (frm := (n : Int) + 1) hY s11 w d11 (by rw [e11]; exact v11) hmo (by omega)) (by omega) ?_
          rintro v g - - ⟨fg, dg, (⟨rfl, vg, n0, a1, a2, a3, mg⟩ | ⟨rfl, eg, U, cU⟩)⟩
          · refine ⟨fun y => absurd y (by decide), fun _ => done g (F11.trans fg) ⟨dg, vg, ?_, fun j hj => ?_⟩ ?_⟩
            · have more := lMet_more (f := h11 (o + 1)) (g := g (o + 1)) (n := n0) (N := (A 2).toNat) (by omega) a3 mg.1 (fun j _ => mg.2.1 j) (fun j _ => mg.2.2.1 j) fun j hj => by
                rw [e11]
                have := v11.rg w hj
                omega
              rw [more, e11, m11, if_pos f0]
              omega
            · rw [mg.2.2.2.1 j (by omega) (by omega), e11]
              exact b11 j hj
            · rw [mg.2.2.2.1 n (by omega) (by omega), e11]
              exact upl_s
          · refine ⟨fun _ => back g (F11.trans fg) ?_, fun y => absurd rfl y⟩
            rintro ⟨G, g1, g2, g3, g4⟩
            rw [e11] at cU
            have le := cert_max w v11 cU (fun _ _ _ => trivial) g1 fun j hj nf => by
              by_cases e : j = n
              · rw [e, g3, upl_s]
              · rw [b11 j (by omega)]
                exact g2 j (by omega)
            rw [m11, if_pos f0] at le
            omega
  rw [Int.toNat_natCast, e12]
  refine ⟨by omega, fun z => am_kV.of tk (by omega) ?_, fun z => am_kV.of tk (by omega) ?_⟩
  · rintro h3 - ⟨e3, d3, f3⟩
    exact ⟨q8, main 0 h3 (Or.inl ⟨rfl, by omega⟩) e3 d3 f3⟩
  · rintro h3 - ⟨e3, d3, f3⟩
    exact ⟨q8, main 1 h3 (Or.inr ⟨rfl, z⟩) e3 d3 f3⟩
end
