/-! questions: need, tie, count, found, pair, wrong, judge, bound -/
def jlo (J : am_H) : Prop := (∀ b, b < 384 → -1 ≤ J 2 b) ∧ 0 ≤ J 0 4
section
variable {R : Nat → Int} {J : am_H}
theorem jlo_end (hz : rz R) (c : jlo J) : jlo (jEnd R J) := by
  obtain ⟨-, -, -, -, -, e04, ei, -⟩ := jEnd_is (R := R) (J := J) hz
  obtain ⟨c1, c2⟩ := c
  exact ⟨fun b hb => by rw [ei 2 (by omega)]; exact c1 b hb, by rw [e04]; omega⟩
theorem jlo_yrs (hz : rz R) (y : Int) : ∀ (f : Nat) (J : am_H), jlo J → jlo (jYrs R f y J)
  | 0, _, c => c
  | f + 1, J, c => by
    unfold jYrs
    split
    · exact jlo_yrs hz y f _ (jlo_end hz c)
    · exact c
theorem jlo_of {J1 : am_H} (c : jlo J) (e2 : J1 2 = J 2) (e0 : J1 0 4 = J 0 4) : jlo J1 := by
  unfold jlo
  rw [e2, e0]
  exact c
theorem jlo_L {w p q k : Int} (h3 : 1 ≤ R 3) (c : jlo J) : jlo (jL R J w p q k).2 := by
  have cc := c
  obtain ⟨c1, c2⟩ := cc
  unfold jL
  split
  · split
    · exact c
    · split
      · exact c
      · split
        · exact c
        · refine jlo_of c ?_ ?_
          · unfold jHelp
            dsimp only
            rw [am_u_n _ _ _ _ _ (by decide), am_u_n _ _ _ _ _ (by decide), am_u_n _ _ _ _ _ (by decide), am_u_n _ _ _ _ _ (by decide)]
          · unfold jHelp
            dsimp only
            rw [am_u_n _ _ _ _ 0 (by decide), am_u_n _ _ _ _ 0 (by decide), am_u_n _ _ _ _ 0 (by decide), am_u_n _ _ _ _ 0 (by decide)]
  · split
    · split
      · exact c
      · split
        · exact c
        · split
          · exact c
          · obtain ⟨-, -, -, t2, -, -, t0⟩ := jThk_c R J p q k
            dsimp only
            refine ⟨fun b hb => ?_, ?_⟩
            · rw [t2]
              unfold up
              split
              · omega
              · exact c1 b hb
            · rw [t0 4 (by omega) (by omega)]
              exact c2
    · split
      · exact c
      · refine ⟨fun b hb => ?_, ?_⟩
        · unfold jLv
          dsimp only
          rw [am_u_n _ _ _ _ 2 (by decide), am_u_n _ _ _ _ 2 (by decide), am_u_n _ _ _ _ 2 (by decide)]
          unfold am_u
          split
          · omega
          · exact c1 b hb
        · unfold jLv
          dsimp only
          rw [am_u_n _ _ _ _ 0 (by decide), am_u_n _ _ _ _ 0 (by decide), am_u_n _ _ _ _ 0 (by decide), am_u_n _ _ _ _ 0 (by decide)]
          exact c2
theorem jlo_line (hz : rz R) (h3 : 1 ≤ R 3) (ln : LN) (i : Nat) (c : jlo J) : jlo (jLine R ln i J) := by
  have c7 : jlo (am_u J 7 i 0) := jlo_of c (by rw [am_u_n _ _ _ _ _ (by decide)]) (by rw [am_u_n _ _ _ _ 0 (by decide)])
  have cl := jlo_L (w := ln.1) (p := ln.2.1) (q := ln.2.2.1) (k := ln.2.2.2) h3 c7
  unfold jLine
  split
  · exact jlo_yrs hz _ _ _ c7
  · split
    · exact jlo_of cl (by rw [am_u_n _ _ _ _ _ (by decide)]) (by rw [am_u_n _ _ _ _ 0 (by decide)])
    · exact jlo_of cl (by rw [am_u_n _ _ _ _ _ (by decide), am_u_n _ _ _ _ _ (by decide)]) (by rw [am_u_j (by decide), am_u_n _ _ _ _ 0 (by decide)])
theorem jlo_book (hz : rz R) (h3 : 1 ≤ R 3) (f : Nat → LN) (n : Nat) (X : am_H) : jlo (jBook R f n X) := by
  have c0 : jlo (jClr X) := by
    refine ⟨fun b hb => ?_, ?_⟩
    · have e : jClr X 2 b = -1 := by
        show fil (X 2) (-1) 384 b = -1
        unfold fil
        rw [if_pos hb]
      omega
    · have e : jClr X 0 4 = 0 := rfl
      omega
  have lp1 : ∀ n, jlo (lp (fun i J => jLine R (f i) i J) n (jClr X)) := by
    intro n
    induction n with
    | zero => exact c0
    | succ n ih => exact jlo_line hz h3 _ _ ih
  unfold jBook jLns
  exact jlo_end hz (lp1 n)
end
/-! a sum over a row, as the machine adds -/
def wsm (f : Nat → Int) : Nat → Int
  | 0 => 0
  | n + 1 => am_w (wsm f n + f n)
theorem wsm_rg (f : Nat → Int) : ∀ n, am_ri (wsm f n)
  | 0 => by unfold wsm am_ri; omega
  | n + 1 => w_rg _
theorem wsm_congr {f g : Nat → Int} : ∀ n, (∀ q, q < n → f q = g q) → wsm f n = wsm g n
  | 0, _ => rfl
  | n + 1, h => by
    unfold wsm
    rw [wsm_congr n fun q hq => h q (by omega), h n (by omega)]
theorem wsm_more {f : Nat → Int} {n : Nat} : ∀ k, (∀ q, n ≤ q → q < n + k → f q = 0) → wsm f (n + k) = wsm f n
  | 0, _ => rfl
  | k + 1, h => by
    have ih := wsm_more (f := f) (n := n) k fun q a b => h q a (by omega)
    show am_w (wsm f (n + k) + f (n + k)) = wsm f n
    rw [h (n + k) (by omega) (by omega), ih, Int.add_zero, am_w_of (wsm_rg f n)]
theorem wsm_sm {f : Nat → Int} : ∀ n : Nat, n ≤ 8 → (∀ q, q < n → 0 ≤ f q ∧ f q ≤ 40000) → wsm f n = sm f n ∧ 0 ≤ sm f n ∧ sm f n ≤ 40000 * (n : Int)
  | 0, _, _ => by simp [wsm, sm]
  | n + 1, h8, h => by
    obtain ⟨a, b, c⟩ := wsm_sm n (by omega) fun q hq => h q (by omega)
    have := h n (by omega)
    unfold wsm sm
    rw [a, am_w_of (by unfold am_ri; omega)]
    exact ⟨rfl, by omega, by omega⟩
/-! leaves that change nothing -/
theorem eK {M : am_M} {d d' : Nat} {Y : am_Y} {av : List am_V} {h : am_H} {F : Int} {K : Int → am_H → Prop} (c : am_cI M d' Y av h (fun r h1 => h1 = h ∧ r = F)) (hd : d' < d) (hK : K F h) : am_kI M d Y av h K :=
  am_kI.of c hd (by rintro r h1 - - ⟨rfl, rfl⟩; exact hK)
def in1 (a n : Int) : Int := if 0 ≤ a ∧ a < n then 1 else 0
section
variable {Y : am_Y} {h h1 h2 : am_H} {x m v d o : Nat} {A N : Nat → Int} {P a b : Int}
theorem vin_1 (c : vR h v P A N) : vin h v 1 a = in1 a (A 0) := by unfold vin in1; rw [c.1.1]
theorem vin_2 (c : vR h v P A N) : vin h v 2 a = in1 a P := by unfold vin in1; rw [c.1.2.1]
theorem vin_3 (c : vR h v P A N) : vin h v 3 a = in1 a (A 2) := by unfold vin in1; rw [c.1.2.2.1]
theorem vfr_is (c : vR h v P A N) (hP : P ≤ 8) (ha : 0 ≤ a ∧ a < P) (hb : 0 ≤ b ∧ b < P) : vfr h v a b = A (95 + 8 * a + b).toNat := by
  unfold vfr
  rw [c.1.2.1, if_pos ⟨ha.1, ha.2, hb.1, hb.2⟩, (c.2.2.2.2.1 (a * 8 + b).toNat (by omega)).1]
  congr 1
  omega
theorem vsi_is (c : vR h v P A N) (hP : P ≤ 8) (ha : 0 ≤ a ∧ a < P) (hb : 0 ≤ b ∧ b < P) : vsi h v a b = A (160 + 8 * a + b).toNat := by
  unfold vsi
  rw [c.1.2.1, if_pos ⟨ha.1, ha.2, hb.1, hb.2⟩, (c.2.2.2.2.1 (a * 8 + b).toNat (by omega)).2]
  congr 1
  omega
theorem fPa_is (c : vR h v P A N) (hP : P ≤ 8) (ha : 0 ≤ a ∧ a < P) : fPa (fun q => vsi h v q a) a = fPa (fun q => A (160 + 8 * (q : Int) + a).toNat) a := by
  unfold fPa
  rw [fPr_congr (s := fun q => vsi h v q a) (s' := fun q => A (160 + 8 * (q : Int) + a).toNat) 8 fun q hq => ?_]
  show vsi h v q a = A (160 + 8 * (q : Int) + a).toNat
  by_cases z : (q : Int) < P
  · exact vsi_is c hP ⟨by omega, z⟩ ha
  · have zz := (c.2.2.2.2.2.2.1.2 q a.toNat hq (by omega) (by omega)).2
    unfold vsi
    rw [c.1.2.1, if_neg (by omega), show (160 + 8 * (q : Int) + a).toNat = 160 + 8 * q + a.toNat from by omega, zz]
/-- a call of the reference: nothing thrown, all laid -/
def mL (h h1 : am_H) (m : Nat) : Prop := h1 m 0 = 0 ∧ h1 (m + 2) = lai h m ∧ h1 m 22 = 1 ∧ (∀ q, q ≠ m → q ≠ m + 2 → h1 q = h q) ∧ ∀ j, j ≠ 0 → j ≠ 22 → h1 m j = h m j
theorem mL.of (e : h1 = am_u h m 0 0) (k : laQ h1 h2 m) : mL h h2 m := by
  obtain ⟨k1, k2, k3, k4⟩ := k
  have la : lai h1 m = lai h m := lai_u (by rw [e, am_u_n _ _ _ _ _ (by omega)]) (by rw [e, am_u_j (by omega)])
  exact ⟨by rw [k4 0 (by omega), e, am_u_s], by rw [k1, la], k2, fun q a b => by rw [k3 q a b, e, am_u_n _ _ _ _ _ a], fun j a b => by rw [k4 j b, e, am_u_j a]⟩
theorem mL.y (c : mL h h1 m) : (∀ q, q < m → h1 q = h q) ∧ yFr h h1 m :=
  ⟨fun q hq => c.2.2.2.1 q (by omega) (by omega), by rw [lai_1 c.2.2.1, c.2.1], fun q hq => c.2.2.2.1 q (by omega) (by omega), fun j hj => c.2.2.2.2 j (by omega) (by omega)⟩
theorem mL.lay {K : am_H → Prop} (hM : am_at Y m am_L12) (hb : h m 22 = 0 ∨ h m 22 = 1) (hd : 0 < d) (k : ∀ h2, am_ok Y h2 → mL h h2 m → K h2) : ∀ h1, h1 = am_u h m 0 0 → am_kV am_Md_lay d Y [.inr (.inr m)] h1 K :=
  fun h1 e => am_kV.of (ac_m_lay (d := 0) hM (by rw [e, am_u_j (by omega)]; exact hb)) hd fun h2 ok q => k h2 ok (mL.of e q)
abbrev bkA (A : Nat → Int) (X : am_H) : am_H := jBook A (lnA A) (A 341).toNat X
theorem mDs.bk {K : am_H → Prop} (hM : am_at Y m am_L12) (hb : h m 22 = 0 ∨ h m 22 = 1) (cw : wV (lai h m)) (cl : lnsOK (lai h m)) (hd : 3 < d) (k : ∀ h2, am_ok Y h2 → mDs h h2 m → jr h2 m (bkA (lai h m) (jOf h m)) → jBd (bkA (lai h m) (jOf h m)) 40000 → 1 ≤ bkA (lai h m) (jOf h m) 0 4 ∧ bkA (lai h m) (jOf h m) 0 4 ≤ 100 → K h2) : ∀ h1, h1 = am_u h m 0 0 → am_kV am_Md_doBook d Y [.inr (.inr m)] h1 K := by
  intro h1 e
  have n1 : ∀ q, q ≠ m → h1 q = h q := fun q hq => by rw [e, am_u_n _ _ _ _ _ hq]
  have j1 : ∀ j, j ≠ 0 → h1 m j = h m j := fun j hj => by rw [e, am_u_j hj]
  have la : lai h1 m = lai h m := lai_u (n1 _ (by omega)) (j1 22 (by omega))
  have jo : jOf h1 m = jOf h m := by
    funext i
    unfold jOf
    split
    · funext j
      exact j1 _ (by omega)
    · exact n1 _ (by omega)
  have w3 := wr_3 cw.1
  refine am_kV.of (ac_m_doBook (d := 0) hM (by rw [j1 22 (by omega)]; exact hb) (by rw [la]; exact cw.1.z) (by rw [la]; omega) (by rw [la]; exact cl)) hd ?_
  rintro h2 ok ⟨r1, ⟨r2, r3, r4, r5⟩, r6, r7, r8⟩
  rw [la, jo] at r1 r6 r7 r8
  refine k h2 ok ⟨by rw [r5 0 (by omega) (by omega), e, am_u_s], by rw [r2, la], r3, fun q a b c => by rw [r4 q a b c, n1 q a], fun j a b c => by rw [r5 j a b, j1 j c]⟩ r1 r6 ⟨r7, r8⟩
theorem mDs.yy (c : mDs h h1 m) : (∀ q, q < m → h1 q = h q) ∧ yFr h h1 m := ⟨c.lo, c.y⟩
theorem stR.bk (c : stR h o A N) (X : am_H) : fkR h (o + 12) A (bkA A X) (A 341).toNat := by
  obtain ⟨c1, c2, c3, c4, c5, c6⟩ := c
  have w2 := wr_2 c2.1
  show fkR h (o + 12) A (jBook A (lnA A) (A 341).toNat X) (A 341).toNat
  rw [ov_Book (X := X) (J := jZ) c2.1.z fun j hj => c3.2.2 j (by omega)]
  exact c4.ovJ w2.2 c2.2 c2.1.z
theorem in1_t (h : 0 ≤ a ∧ a < b) : in1 a b = 1 := if_pos h
theorem in1_f (h : ¬ (0 ≤ a ∧ a < b)) : in1 a b = 0 := if_neg h
end
section
variable {Y : am_Y} {h : am_H} {x m : Nat} {a b e : Int}
def qNeed (A : Nat → Int) (a b : Int) : Int := if 0 ≤ a ∧ a < A 2 ∧ 0 ≤ b ∧ b ≤ 1 then A (225 + 2 * a + b).toNat else -1
theorem two_need (hY : am_at Y x am_L11) (hM : am_at Y m am_L12) (dis : x + 148 ≤ m) (c : RL h x m) : am_two am_Nh_need am_Md_need Y x m [.inl a, .inl b] h := by
  obtain ⟨c1, c2, -⟩ := c.2.1
  have c1' : vR h (x + 3) (lai h m 1) (lai h m) (h (m + 6)) := c1
  have w2 := wr_2 c2.1
  refine am_Met.rg fun ok _ => ?_
  have hb := b22 ok hM
  refine two_e (F := qNeed (lai h m) a b) dis c ?_ ?_
  · refine am_Met.of (by decide) rfl (Nat.le_of_ble_eq_true rfl) (ab_Nh_need_0 hY ?_)
    refine eK (ac_hasNeed (d := 0) (hY.sub 3 rfl)) (by omega) ?_
    rw [vin_3 c1']
    by_cases z : 0 ≤ a ∧ a < lai h m 2
    · rw [in1_t z]
      have n := c1'.2.2.2.2.2.1 a.toNat (by omega)
      refine ⟨fun w => absurd w (by decide), fun _ => ⟨fun w => ?_, fun w => ⟨fun w2 => ⟨fun w3 => ⟨by omega, ?_⟩, fun w3 => ⟨by omega, ?_⟩⟩, fun w2 => ?_⟩⟩⟩
      · rw [am_qI_s]
        exact ⟨rfl, (if_neg (by omega)).symm⟩
      · rw [am_qI_s]
        refine ⟨rfl, ?_⟩
        unfold qNeed
        rw [if_pos (by omega), show (225 + 2 * a + b).toNat = 226 + 2 * a.toNat from by omega]
        exact n.2
      · rw [am_qI_s]
        refine ⟨rfl, ?_⟩
        unfold qNeed
        rw [if_pos (by omega), show (225 + 2 * a + b).toNat = 225 + 2 * a.toNat from by omega]
        exact n.1
      · rw [am_qI_s]
        exact ⟨rfl, (if_neg (by omega)).symm⟩
    · rw [in1_f z]
      refine ⟨fun _ => ?_, fun w => absurd rfl w⟩
      rw [am_qI_s]
      exact ⟨rfl, (if_neg (by omega)).symm⟩
  · refine am_Met.of (by decide) rfl (Nat.le_of_ble_eq_true rfl) (ab_Md_need_0 hM (mL.lay hM hb (by omega) fun h2 _ l => ?_))
    refine eK (ac_m_isNeed (d := 0) hM) (by omega) ?_
    rw [l.2.1]
    by_cases z : 0 ≤ a ∧ a < lai h m 2
    · rw [if_pos z]
      refine ⟨fun w => absurd w (by decide), fun _ => eK (ac_m_isIn (d := 0)) (by omega) ?_⟩
      by_cases z2 : 0 ≤ b ∧ b ≤ 1
      · rw [if_pos z2]
        refine ⟨fun w => absurd w (by decide), fun _ => ⟨by unfold am_ri; omega, by unfold am_ri; omega, by unfold am_ri; omega, by omega, ?_⟩⟩
        rw [am_qI_s, l.2.1]
        exact ⟨(if_pos (by omega)).symm, l.y⟩
      · rw [if_neg z2]
        refine ⟨fun _ => ?_, fun w => absurd rfl w⟩
        rw [am_qI_s]
        exact ⟨(if_neg (by omega)).symm, l.y⟩
    · rw [if_neg z]
      refine ⟨fun _ => ?_, fun w => absurd rfl w⟩
      rw [am_qI_s]
      exact ⟨(if_neg (by omega)).symm, l.y⟩
def qTie (A : Nat → Int) (a b e : Int) : Int := if (0 ≤ a ∧ a < A 1) ∧ (0 ≤ b ∧ b < A 1) ∧ 0 ≤ e ∧ e ≤ 1 then (if e = 0 then A (95 + 8 * a + b).toNat else A (160 + 8 * a + b).toNat) else -1
theorem two_tie (hY : am_at Y x am_L11) (hM : am_at Y m am_L12) (dis : x + 148 ≤ m) (c : RL h x m) : am_two am_Nh_tie am_Md_tie Y x m [.inl a, .inl b, .inl e] h := by
  obtain ⟨c1, c2, -⟩ := c.2.1
  have c1' : vR h (x + 3) (lai h m 1) (lai h m) (h (m + 6)) := c1
  have hz := c2.1.z
  unfold rz at hz
  have vo1 := c1'.o1 c2.1 (by omega)
  refine am_Met.rg fun ok _ => ?_
  have hb := b22 ok hM
  refine two_e (F := qTie (lai h m) a b e) dis c ?_ ?_
  · refine am_Met.of (by decide) rfl (Nat.le_of_ble_eq_true rfl) (ab_Nh_tie_0 hY ?_)
    refine eK (ac_hasPerson (d := 0) (hY.sub 3 rfl)) (by omega) ?_
    rw [vin_2 c1']
    by_cases z : 0 ≤ a ∧ a < lai h m 1
    · rw [in1_t z]
      refine ⟨fun w => absurd w (by decide), fun _ => eK (ac_hasPerson (d := 0) (hY.sub 3 rfl)) (by omega) ?_⟩
      rw [vin_2 c1']
      by_cases z2 : 0 ≤ b ∧ b < lai h m 1
      · rw [in1_t z2]
        refine ⟨fun w => absurd w (by decide), fun _ => ⟨fun w => ?_, fun w => ⟨fun w2 => ⟨fun w3 => eK (ac_sight (d := 0) (hY.sub 3 rfl) vo1) (by omega) ?_, fun w3 => eK (ac_friendship (d := 0) (hY.sub 3 rfl) vo1) (by omega) ?_⟩, fun w2 => ?_⟩⟩⟩
        · rw [am_qI_s]
          exact ⟨rfl, (if_neg (by omega)).symm⟩
        · rw [am_qI_s, vsi_is c1' (by omega) z z2]
          refine ⟨rfl, ?_⟩
          unfold qTie
          rw [if_pos ⟨z, z2, w, w2⟩, if_neg w3]
        · rw [am_qI_s, vfr_is c1' (by omega) z z2]
          refine ⟨rfl, ?_⟩
          unfold qTie
          rw [if_pos ⟨z, z2, w, w2⟩, if_pos w3]
        · rw [am_qI_s]
          exact ⟨rfl, (if_neg (by omega)).symm⟩
      · rw [in1_f z2]
        refine ⟨fun _ => ?_, fun w => absurd rfl w⟩
        rw [am_qI_s]
        exact ⟨rfl, (if_neg (by omega)).symm⟩
    · rw [in1_f z]
      refine ⟨fun _ => ?_, fun w => absurd rfl w⟩
      rw [am_qI_s]
      exact ⟨rfl, (if_neg (by omega)).symm⟩
  · refine am_Met.of (by decide) rfl (Nat.le_of_ble_eq_true rfl) (ab_Md_tie_0 hM (mL.lay hM hb (by omega) fun h2 _ l => ?_))
    refine eK (ac_m_isPerson (d := 0) hM) (by omega) ?_
    rw [l.2.1]
    by_cases z : 0 ≤ a ∧ a < lai h m 1
    · rw [if_pos z]
      refine ⟨fun w => absurd w (by decide), fun _ => eK (ac_m_isPerson (d := 0) hM) (by omega) ?_⟩
      rw [l.2.1]
      by_cases z2 : 0 ≤ b ∧ b < lai h m 1
      · rw [if_pos z2]
        refine ⟨fun w => absurd w (by decide), fun _ => eK (ac_m_isIn (d := 0)) (by omega) ?_⟩
        by_cases z3 : 0 ≤ e ∧ e ≤ 1
        · rw [if_pos z3]
          refine ⟨fun _ => ⟨fun w => eK (ac_m_sees (d := 0) hM (by omega) (by omega)) (by omega) ?_, fun w => eK (ac_m_friendship (d := 0) hM (by omega) (by omega)) (by omega) ?_⟩, fun w => absurd w (by decide)⟩
          · rw [am_qI_s, l.2.1]
            refine ⟨?_, l.y⟩
            unfold qTie
            rw [if_pos ⟨z, z2, z3⟩, if_neg w]
          · rw [am_qI_s, l.2.1]
            refine ⟨?_, l.y⟩
            unfold qTie
            rw [if_pos ⟨z, z2, z3⟩, if_pos w]
        · rw [if_neg z3]
          refine ⟨fun w => absurd rfl w, fun _ => ?_⟩
          rw [am_qI_s]
          exact ⟨(if_neg (by omega)).symm, l.y⟩
      · rw [if_neg z2]
        refine ⟨fun _ => ?_, fun w => absurd rfl w⟩
        rw [am_qI_s]
        exact ⟨(if_neg (by omega)).symm, l.y⟩
    · rw [if_neg z]
      refine ⟨fun _ => ?_, fun w => absurd rfl w⟩
      rw [am_qI_s]
      exact ⟨(if_neg (by omega)).symm, l.y⟩
def qCnt (A : Nat → Int) (t a : Int) : Int := if a = 0 then A 0 else if a = 1 then A 1 else if a = 2 then A 2 else if a = 3 then A 341 else if a = 4 then A 3 else if a = 5 then A 4 else if a = 6 then A 5 else if a = 7 then t else -1
theorem qCnt_s (A : Nat → Int) (t : Int) : qCnt A t 0 = A 0 ∧ qCnt A t 1 = A 1 ∧ qCnt A t 2 = A 2 ∧ qCnt A t 3 = A 341 ∧ qCnt A t 4 = A 3 ∧ qCnt A t 5 = A 4 ∧ qCnt A t 6 = A 5 ∧ qCnt A t 7 = t ∧ ∀ a, (a < 0 ∨ 7 < a) → qCnt A t a = -1 := by
  refine ⟨by simp [qCnt], by simp [qCnt], by simp [qCnt], by simp [qCnt], by simp [qCnt], by simp [qCnt], by simp [qCnt], by simp [qCnt], fun a ha => ?_⟩
  unfold qCnt
  rw [if_neg (by omega), if_neg (by omega), if_neg (by omega), if_neg (by omega), if_neg (by omega), if_neg (by omega), if_neg (by omega), if_neg (by omega)]
theorem two_count (hY : am_at Y x am_L11) (hM : am_at Y m am_L12) (dis : x + 148 ≤ m) (c : RL h x m) : am_two am_Nh_count am_Md_count Y x m [.inl a] h := by
  obtain ⟨c1, c2, c3, c4, -⟩ := c.2.1
  obtain ⟨t1, -⟩ := c.1
  obtain ⟨⟨v1, v2, v3, v4, v5, v6⟩, -⟩ := c1
  have k1 := c4.1.1
  have k2 := c3.1
  obtain ⟨q0, q1, q2, q3, q4, q5, q6, q7, q8⟩ := qCnt_s (lai h m) (h m 2)
  refine am_Met.rg fun ok _ => ?_
  have hb := b22 ok hM
  refine two_e (F := qCnt (lai h m) (h m 2) a) dis c ?_ ?_
  · refine am_Met.of (by decide) rfl (Nat.le_of_ble_eq_true rfl) (ab_Nh_count_0 hY ⟨fun w => ?_, fun w => ?_, fun w => ?_, fun w => ?_, fun w => ?_, fun w => ?_, fun w => ?_, fun w => ?_, fun w => ?_⟩)
    · rw [am_qI_s, q8 a w]
      exact ⟨rfl, rfl⟩
    · subst w
      rw [am_qI_s, q0]
      exact ⟨rfl, v1⟩
    · subst w
      rw [am_qI_s, q1]
      exact ⟨rfl, v2⟩
    · subst w
      rw [am_qI_s, q2]
      exact ⟨rfl, v3⟩
    · subst w
      rw [am_qI_s, q3]
      have k3 : h (x + 14) 0 = ((lai h m 341).toNat : Int) := k1
      exact ⟨rfl, by omega⟩
    · subst w
      rw [am_qI_s, q4]
      exact ⟨rfl, v4⟩
    · subst w
      rw [am_qI_s, q5]
      exact ⟨rfl, v5⟩
    · subst w
      rw [am_qI_s, q6]
      exact ⟨rfl, v6⟩
    · subst w
      rw [am_qI_s, q7]
      exact ⟨rfl, t1⟩
  · refine am_Met.of (by decide) rfl (Nat.le_of_ble_eq_true rfl) (ab_Md_count_0 hM (mL.lay hM hb (by omega) fun h2 _ l => ⟨fun w => ?_, fun w => ?_, fun w => ?_, fun w => ?_, fun w => ?_, fun w => ?_, fun w => ?_, fun w => ?_, fun w => ?_⟩))
    · rw [am_qI_s, q8 a w]
      exact ⟨rfl, l.y⟩
    · subst w
      refine eK (ac_m_helps (d := 0) hM) (by omega) ?_
      rw [am_qI_s, q0, l.2.1]
      exact ⟨rfl, l.y⟩
    · subst w
      refine eK (ac_m_persons (d := 0) hM) (by omega) ?_
      rw [am_qI_s, q1, l.2.1]
      exact ⟨rfl, l.y⟩
    · subst w
      rw [am_qI_s, q2, l.2.1]
      exact ⟨rfl, l.y⟩
    · subst w
      rw [am_qI_s, q3, l.2.1]
      exact ⟨rfl, l.y⟩
    · subst w
      rw [am_qI_s, q4, l.2.1]
      exact ⟨rfl, l.y⟩
    · subst w
      rw [am_qI_s, q5, l.2.1]
      exact ⟨rfl, l.y⟩
    · subst w
      rw [am_qI_s, q6, l.2.1]
      exact ⟨rfl, l.y⟩
    · subst w
      rw [am_qI_s, q7, l.2.2.2.2 2 (by omega) (by omega)]
      exact ⟨rfl, l.y⟩
abbrev qFnd (A : Nat → Int) (a : Int) : Int := fPa (fun q => A (160 + 8 * (q : Int) + a).toNat) a
theorem two_found (hY : am_at Y x am_L11) (hM : am_at Y m am_L12) (dis : x + 148 ≤ m) (c : RL h x m) : am_two am_Nh_found am_Md_found Y x m [.inl a] h := by
  obtain ⟨c1, c2, -⟩ := c.2.1
  have c1' : vR h (x + 3) (lai h m 1) (lai h m) (h (m + 6)) := c1
  have hz := c2.1.z
  unfold rz at hz
  have vo1 := c1'.o1 c2.1 (by omega)
  refine am_Met.rg fun ok _ => ?_
  have hb := b22 ok hM
  refine two_e (F := if 0 ≤ a ∧ a < lai h m 1 then qFnd (lai h m) a else -1) dis c ?_ ?_
  · refine am_Met.of (by decide) rfl (Nat.le_of_ble_eq_true rfl) (ab_Nh_found_0 hY ?_)
    refine eK (ac_hasPerson (d := 0) (hY.sub 3 rfl)) (by omega) ?_
    rw [vin_2 c1']
    by_cases z : 0 ≤ a ∧ a < lai h m 1
    · rw [in1_t z, if_pos z]
      refine ⟨fun w => absurd w (by decide), fun _ => eK (ac_foundParts (d := 0) (hY.sub 3 rfl) vo1) (by omega) ?_⟩
      rw [am_qI_s, fPa_is c1' (by omega) z]
      exact ⟨rfl, rfl⟩
    · rw [in1_f z, if_neg z]
      refine ⟨fun _ => ?_, fun w => absurd rfl w⟩
      rw [am_qI_s]
      exact ⟨rfl, rfl⟩
  · refine am_Met.of (by decide) rfl (Nat.le_of_ble_eq_true rfl) (ab_Md_found_0 hM (mL.lay hM hb (by omega) fun h2 _ l => ?_))
    refine eK (ac_m_isPerson (d := 0) hM) (by omega) ?_
    rw [l.2.1]
    by_cases z : 0 ≤ a ∧ a < lai h m 1
    · rw [if_pos z, if_pos z]
      refine ⟨fun w => absurd w (by decide), fun _ => eK (ac_m_foundOf (d := 0) hM (by omega)) (by omega) ?_⟩
      rw [am_qI_s, l.2.1]
      exact ⟨rfl, l.y⟩
    · rw [if_neg z, if_neg z]
      refine ⟨fun _ => ?_, fun w => absurd rfl w⟩
      rw [am_qI_s]
      exact ⟨rfl, l.y⟩
theorem pr_rg (x : Int) : am_rl (Int.tdiv (am_wl x) 10000000) := by
  have h := am_wlr x
  generalize am_wl x = y at h ⊢
  unfold am_rl at *
  have e := Int.natAbs_tdiv y 10000000
  have : (y.tdiv 10000000).natAbs ≤ 922337203686 := by
    rw [e]
    show y.natAbs / 10000000 ≤ _
    omega
  omega
theorem two_pair (hY : am_at Y x am_L11) (hM : am_at Y m am_L12) (dis : x + 148 ≤ m) (c : RL h x m) : am_two am_Nh_pair am_Md_pair Y x m [.inl a, .inl b] h := by
  obtain ⟨c1, c2, -⟩ := c.2.1
  have c1' : vR h (x + 3) (lai h m 1) (lai h m) (h (m + 6)) := c1
  have hz := c2.1.z
  unfold rz at hz
  have vo1 := c1'.o1 c2.1 (by omega)
  refine am_Met.rg fun ok _ => ?_
  have hb := b22 ok hM
  refine two_e (F := if (0 ≤ a ∧ a < lai h m 1) ∧ (0 ≤ b ∧ b < lai h m 1) ∧ ¬ a = b then am_l2i (Int.tdiv (am_wl (qFnd (lai h m) a * qFnd (lai h m) b)) 10000000) else -1) dis c ?_ ?_
  · refine am_Met.of (by decide) rfl (Nat.le_of_ble_eq_true rfl) (ab_Nh_pair_0 hY ?_)
    refine eK (ac_hasPerson (d := 0) (hY.sub 3 rfl)) (by omega) ?_
    rw [vin_2 c1']
    by_cases z : 0 ≤ a ∧ a < lai h m 1
    · rw [in1_t z]
      refine ⟨fun w => absurd w (by decide), fun _ => eK (ac_hasPerson (d := 0) (hY.sub 3 rfl)) (by omega) ?_⟩
      rw [vin_2 c1']
      by_cases z2 : 0 ≤ b ∧ b < lai h m 1
      · rw [in1_t z2]
        refine ⟨fun w => absurd w (by decide), fun _ => ⟨fun w => eK (ac_foundParts (d := 0) (hY.sub 3 rfl) vo1) (by omega) (eK (ac_foundParts (d := 0) (hY.sub 3 rfl) vo1) (by omega) ⟨by decide, pr_rg _, ?_⟩), fun w => ?_⟩⟩
        · rw [am_qI_s, fPa_is c1' (by omega) z, fPa_is c1' (by omega) z2, if_pos ⟨z, z2, w⟩]
          exact ⟨rfl, rfl⟩
        · rw [am_qI_s, if_neg fun q => q.2.2 w]
          exact ⟨rfl, rfl⟩
      · rw [in1_f z2, if_neg fun q => z2 q.2.1]
        refine ⟨fun _ => ?_, fun w => absurd rfl w⟩
        rw [am_qI_s]
        exact ⟨rfl, rfl⟩
    · rw [in1_f z, if_neg fun q => z q.1]
      refine ⟨fun _ => ?_, fun w => absurd rfl w⟩
      rw [am_qI_s]
      exact ⟨rfl, rfl⟩
  · refine am_Met.of (by decide) rfl (Nat.le_of_ble_eq_true rfl) (ab_Md_pair_0 hM (mL.lay hM hb (by omega) fun h2 _ l => ?_))
    refine eK (ac_m_isPerson (d := 0) hM) (by omega) ?_
    rw [l.2.1]
    by_cases z : 0 ≤ a ∧ a < lai h m 1
    · rw [if_pos z]
      refine ⟨fun w => absurd w (by decide), fun _ => eK (ac_m_isPerson (d := 0) hM) (by omega) ?_⟩
      rw [l.2.1]
      by_cases z2 : 0 ≤ b ∧ b < lai h m 1
      · rw [if_pos z2]
        refine ⟨fun w => absurd w (by decide), fun _ => ⟨fun w => ?_, fun w => eK (ac_m_foundOf (d := 0) hM (by omega)) (by omega) (eK (ac_m_foundOf (d := 0) hM (by omega)) (by omega) ⟨by decide, pr_rg _, ?_⟩)⟩⟩
        · rw [am_qI_s, if_neg fun q => q.2.2 w]
          exact ⟨rfl, l.y⟩
        · rw [am_qI_s, l.2.1, if_pos ⟨z, z2, w⟩]
          exact ⟨rfl, l.y⟩
      · rw [if_neg z2, if_neg fun q => z2 q.2.1]
        refine ⟨fun _ => ?_, fun w => absurd rfl w⟩
        rw [am_qI_s]
        exact ⟨rfl, l.y⟩
    · rw [if_neg z, if_neg fun q => z q.1]
      refine ⟨fun _ => ?_, fun w => absurd rfl w⟩
      rw [am_qI_s]
      exact ⟨rfl, l.y⟩
end
